theorem dX11_code_0 : decode cX11_code 0 = .ok (.aload_n 0, 1) := by decide +kernel
theorem dX11_code_1 : decode cX11_code 1 = .ok (.iload_n 1, 1) := by decide +kernel
theorem dX11_code_2 : decode cX11_code 2 = .ok (.invokevirtual 106, 3) := by decide +kernel
theorem dX11_code_5 : decode cX11_code 5 = .ok (.ifCond .eq 25, 3) := by decide +kernel
theorem dX11_code_8 : decode cX11_code 8 = .ok (.aload_n 0, 1) := by decide +kernel
theorem dX11_code_9 : decode cX11_code 9 = .ok (.getfield 83, 3) := by decide +kernel
theorem dX11_code_12 : decode cX11_code 12 = .ok (.getfield 178, 3) := by decide +kernel
theorem dX11_code_15 : decode cX11_code 15 = .ok (.ifCond .eq 15, 3) := by decide +kernel
theorem dX11_code_18 : decode cX11_code 18 = .ok (.aload_n 0, 1) := by decide +kernel
theorem dX11_code_19 : decode cX11_code 19 = .ok (.getfield 83, 3) := by decide +kernel
theorem dX11_code_22 : decode cX11_code 22 = .ok (.getfield 171, 3) := by decide +kernel
theorem dX11_code_25 : decode cX11_code 25 = .ok (.iload_n 1, 1) := by decide +kernel
theorem dX11_code_26 : decode cX11_code 26 = .ok (.iaload, 1) := by decide +kernel
theorem dX11_code_27 : decode cX11_code 27 = .ok (.ifCond .ne 5, 3) := by decide +kernel
theorem dX11_code_30 : decode cX11_code 30 = .ok (.iconst (-1), 1) := by decide +kernel
theorem dX11_code_31 : decode cX11_code 31 = .ok (.ireturn, 1) := by decide +kernel
theorem dX11_code_32 : decode cX11_code 32 = .ok (.aload_n 0, 1) := by decide +kernel
theorem dX11_code_33 : decode cX11_code 33 = .ok (.getfield 83, 3) := by decide +kernel
theorem dX11_code_36 : decode cX11_code 36 = .ok (.getfield 191, 3) := by decide +kernel
theorem dX11_code_39 : decode cX11_code 39 = .ok (.iload_n 1, 1) := by decide +kernel
theorem dX11_code_40 : decode cX11_code 40 = .ok (.iaload, 1) := by decide +kernel
theorem dX11_code_41 : decode cX11_code 41 = .ok (.ireturn, 1) := by decide +kernel
set_option maxRecDepth 20000 in
theorem ggX11_encode_X11_refusalToWrite : GoodIn wsX11_encode wsX11_refusalToWrite := goodIn_r _ [6, 7, 8, 9, 41, 42, 43, 44, 45, 46, 47, 48, 49, 50, 51, 52, 53, 54, 55, 56, 57, 58, 59, 60, 61, 62, 63, 64, 65, 66] (by decide +kernel) (by decide +kernel)
set_option maxRecDepth 20000 in
theorem gX11_encode_X11_refusalToWrite : GoodIn wsX11_encode (wsV RX11 194 RX11 yX11_refusalToWrite wsX11_refusalToWrite) := goodIn_app (goodIn_of _ (by decide +kernel)) ggX11_encode_X11_refusalToWrite
set_option maxRecDepth 20000 in
theorem ggX11_encode_X0_restart : GoodIn wsX11_encode wsX0_restart := goodIn_r _ [14, 15, 16, 67, 68, 69, 70] (by decide +kernel) (by decide +kernel)
set_option maxRecDepth 20000 in
theorem gX11_encode_X0_restart : GoodIn wsX11_encode (wsV RX11 197 RX0 yX0_restart wsX0_restart) := goodIn_app (goodIn_of _ (by decide +kernel)) ggX11_encode_X0_restart
set_option maxRecDepth 20000 in
theorem ggX11_encode_X11_writeText : GoodIn wsX11_encode wsX11_writeText := goodIn_r _ [20, 21, 1, 7, 22, 23, 24, 13, 25, 26, 27, 28, 29, 15, 30, 16, 31, 32, 33, 34, 35, 41, 42, 43, 44, 45, 46, 47, 48, 49, 50, 51, 52, 53, 54, 55, 56, 57, 71, 72, 58, 59, 60, 61, 62, 63, 64, 65, 66, 67, 68, 69, 70] (by decide +kernel) (by decide +kernel)
set_option maxRecDepth 20000 in
theorem gX11_encode_X11_writeText : GoodIn wsX11_encode (wsV RX11 200 RX11 yX11_writeText wsX11_writeText) := goodIn_app (goodIn_of _ (by decide +kernel)) ggX11_encode_X11_writeText
set_option maxRecDepth 20000 in
theorem ggX11_encode_X11_keepWritten : GoodIn wsX11_encode wsX11_keepWritten := goodIn_r _ [39, 1, 40, 41, 42, 43, 44, 45, 46, 47, 48, 49, 50, 51, 52, 53, 54, 55, 56, 57, 67, 68, 69, 70] (by decide +kernel) (by decide +kernel)
set_option maxRecDepth 20000 in
theorem gX11_encode_X11_keepWritten : GoodIn wsX11_encode (wsV RX11 203 RX11 yX11_keepWritten wsX11_keepWritten) := goodIn_app (goodIn_of _ (by decide +kernel)) ggX11_encode_X11_keepWritten
theorem dX11_encode_0 : decode cX11_encode 0 = .ok (.aload_n 0, 1) := by decide +kernel
theorem dX11_encode_1 : decode cX11_encode 1 = .ok (.invokevirtual 194, 3) := by decide +kernel
theorem dX11_encode_4 : decode cX11_encode 4 = .ok (.istore_n 1, 1) := by decide +kernel
theorem dX11_encode_5 : decode cX11_encode 5 = .ok (.iload_n 1, 1) := by decide +kernel
theorem dX11_encode_6 : decode cX11_encode 6 = .ok (.ifCond .ge 5, 3) := by decide +kernel
theorem dX11_encode_9 : decode cX11_encode 9 = .ok (.iload_n 1, 1) := by decide +kernel
theorem dX11_encode_10 : decode cX11_encode 10 = .ok (.ireturn, 1) := by decide +kernel
theorem dX11_encode_11 : decode cX11_encode 11 = .ok (.aload_n 0, 1) := by decide +kernel
theorem dX11_encode_12 : decode cX11_encode 12 = .ok (.getfield 97, 3) := by decide +kernel
theorem dX11_encode_15 : decode cX11_encode 15 = .ok (.invokevirtual 197, 3) := by decide +kernel
theorem dX11_encode_18 : decode cX11_encode 18 = .ok (.aload_n 0, 1) := by decide +kernel
theorem dX11_encode_19 : decode cX11_encode 19 = .ok (.invokevirtual 200, 3) := by decide +kernel
theorem dX11_encode_22 : decode cX11_encode 22 = .ok (.aload_n 0, 1) := by decide +kernel
theorem dX11_encode_23 : decode cX11_encode 23 = .ok (.invokevirtual 203, 3) := by decide +kernel
theorem dX11_encode_26 : decode cX11_encode 26 = .ok (.ireturn, 1) := by decide +kernel
set_option maxRecDepth 20000 in
theorem ggX11_decode_X8_readAll : GoodIn wsX11_decode wsX8_readAll := goodIn_r _ [9, 10, 11, 12, 13, 8, 14, 15, 16, 17, 18, 19, 20, 21, 22, 23, 24, 25, 26, 27, 28, 29, 30, 31, 32, 33, 34, 35, 36, 37, 38, 39, 66, 67, 68, 69, 70, 71, 72, 73, 57, 58, 59, 60, 61, 62, 63, 64, 65] (by decide +kernel) (by decide +kernel)
set_option maxRecDepth 20000 in
theorem gX11_decode_X8_readAll : GoodIn wsX11_decode (wsV RX11 206 RX8 yX8_readAll wsX8_readAll) := goodIn_app (goodIn_of _ (by decide +kernel)) ggX11_decode_X8_readAll
theorem dX11_decode_0 : decode cX11_decode 0 = .ok (.aload_n 0, 1) := by decide +kernel
theorem dX11_decode_1 : decode cX11_decode 1 = .ok (.getfield 83, 3) := by decide +kernel
theorem dX11_decode_4 : decode cX11_decode 4 = .ok (.getfield 178, 3) := by decide +kernel
theorem dX11_decode_7 : decode cX11_decode 7 = .ok (.ifCond .eq 25, 3) := by decide +kernel
theorem dX11_decode_10 : decode cX11_decode 10 = .ok (.aload_n 0, 1) := by decide +kernel
theorem dX11_decode_11 : decode cX11_decode 11 = .ok (.getfield 69, 3) := by decide +kernel
theorem dX11_decode_14 : decode cX11_decode 14 = .ok (.aload_n 0, 1) := by decide +kernel
theorem dX11_decode_15 : decode cX11_decode 15 = .ok (.getfield 93, 3) := by decide +kernel
theorem dX11_decode_18 : decode cX11_decode 18 = .ok (.aload_n 0, 1) := by decide +kernel
theorem dX11_decode_19 : decode cX11_decode 19 = .ok (.getfield 83, 3) := by decide +kernel
theorem dX11_decode_22 : decode cX11_decode 22 = .ok (.aload_n 0, 1) := by decide +kernel
theorem dX11_decode_23 : decode cX11_decode 23 = .ok (.getfield 100, 3) := by decide +kernel
theorem dX11_decode_26 : decode cX11_decode 26 = .ok (.invokevirtual 206, 3) := by decide +kernel
theorem dX11_decode_29 : decode cX11_decode 29 = .ok (.goto 4, 3) := by decide +kernel
theorem dX11_decode_32 : decode cX11_decode 32 = .ok (.iconst (-1), 1) := by decide +kernel
theorem dX11_decode_33 : decode cX11_decode 33 = .ok (.ireturn, 1) := by decide +kernel
set_option maxRecDepth 20000 in
theorem ggX11_pack_X11_refusalToWrite : GoodIn wsX11_pack wsX11_refusalToWrite := goodIn_r _ [9, 3, 2, 10, 56, 57, 58, 59, 60, 61, 62, 63, 64, 65, 66, 67, 68, 69, 70, 71, 72, 73, 74, 75, 76, 77, 78, 79, 80, 81] (by decide +kernel) (by decide +kernel)
set_option maxRecDepth 20000 in
theorem gX11_pack_X11_refusalToWrite : GoodIn wsX11_pack (wsV RX11 194 RX11 yX11_refusalToWrite wsX11_refusalToWrite) := goodIn_app (goodIn_of _ (by decide +kernel)) ggX11_pack_X11_refusalToWrite
set_option maxRecDepth 20000 in
theorem ggX11_pack_X0_restart : GoodIn wsX11_pack wsX0_restart := goodIn_r _ [15, 16, 17, 84, 85, 86, 87] (by decide +kernel) (by decide +kernel)
set_option maxRecDepth 20000 in
theorem gX11_pack_X0_restart : GoodIn wsX11_pack (wsV RX11 197 RX0 yX0_restart wsX0_restart) := goodIn_app (goodIn_of _ (by decide +kernel)) ggX11_pack_X0_restart
set_option maxRecDepth 20000 in
theorem ggX11_pack_X0_addNumber : GoodIn wsX11_pack wsX0_addNumber := goodIn_r _ [21, 22, 23, 24, 14, 25, 16, 26, 17, 27, 28, 29, 30, 31, 84, 85, 86, 87] (by decide +kernel) (by decide +kernel)
set_option maxRecDepth 20000 in
theorem gX11_pack_X0_addNumber : GoodIn wsX11_pack (wsV RX11 210 RX0 yX0_addNumber wsX0_addNumber) := goodIn_app (goodIn_of _ (by decide +kernel)) ggX11_pack_X0_addNumber
set_option maxRecDepth 20000 in
theorem ggX11_pack_X11_writeLengths : GoodIn wsX11_pack wsX11_writeLengths := goodIn_r _ [35, 2, 3, 36, 37, 38, 39, 1, 40, 41, 42, 43, 44, 45, 46, 18, 19, 20, 14, 21, 22, 23, 24, 25, 16, 26, 17, 27, 28, 29, 30, 31, 56, 57, 58, 59, 60, 61, 62, 63, 64, 65, 66, 67, 68, 69, 70, 71, 72, 73, 74, 75, 76, 77, 78, 79, 80, 81, 84, 85, 86, 87] (by decide +kernel) (by decide +kernel)
set_option maxRecDepth 20000 in
theorem gX11_pack_X11_writeLengths : GoodIn wsX11_pack (wsV RX11 213 RX11 yX11_writeLengths wsX11_writeLengths) := goodIn_app (goodIn_of _ (by decide +kernel)) ggX11_pack_X11_writeLengths
set_option maxRecDepth 20000 in
theorem ggX11_pack_X11_writeText : GoodIn wsX11_pack wsX11_writeText := goodIn_r _ [50, 4, 1, 3, 18, 19, 20, 14, 21, 22, 23, 24, 25, 16, 26, 17, 27, 28, 29, 30, 31, 56, 57, 58, 59, 60, 61, 62, 63, 64, 65, 66, 67, 68, 69, 70, 71, 72, 82, 83, 73, 74, 75, 76, 77, 78, 79, 80, 81, 84, 85, 86, 87] (by decide +kernel) (by decide +kernel)
set_option maxRecDepth 20000 in
theorem gX11_pack_X11_writeText : GoodIn wsX11_pack (wsV RX11 200 RX11 yX11_writeText wsX11_writeText) := goodIn_app (goodIn_of _ (by decide +kernel)) ggX11_pack_X11_writeText
set_option maxRecDepth 20000 in
theorem ggX11_pack_X11_keepWritten : GoodIn wsX11_pack wsX11_keepWritten := goodIn_r _ [54, 1, 55, 56, 57, 58, 59, 60, 61, 62, 63, 64, 65, 66, 67, 68, 69, 70, 71, 72, 84, 85, 86, 87] (by decide +kernel) (by decide +kernel)
set_option maxRecDepth 20000 in
theorem gX11_pack_X11_keepWritten : GoodIn wsX11_pack (wsV RX11 203 RX11 yX11_keepWritten wsX11_keepWritten) := goodIn_app (goodIn_of _ (by decide +kernel)) ggX11_pack_X11_keepWritten
theorem dX11_pack_0 : decode cX11_pack 0 = .ok (.aload_n 0, 1) := by decide +kernel
theorem dX11_pack_1 : decode cX11_pack 1 = .ok (.invokevirtual 194, 3) := by decide +kernel
theorem dX11_pack_4 : decode cX11_pack 4 = .ok (.istore_n 1, 1) := by decide +kernel
theorem dX11_pack_5 : decode cX11_pack 5 = .ok (.iload_n 1, 1) := by decide +kernel
theorem dX11_pack_6 : decode cX11_pack 6 = .ok (.ifCond .ge 5, 3) := by decide +kernel
theorem dX11_pack_9 : decode cX11_pack 9 = .ok (.iload_n 1, 1) := by decide +kernel
theorem dX11_pack_10 : decode cX11_pack 10 = .ok (.ireturn, 1) := by decide +kernel
theorem dX11_pack_11 : decode cX11_pack 11 = .ok (.aload_n 0, 1) := by decide +kernel
theorem dX11_pack_12 : decode cX11_pack 12 = .ok (.getfield 97, 3) := by decide +kernel
theorem dX11_pack_15 : decode cX11_pack 15 = .ok (.invokevirtual 197, 3) := by decide +kernel
theorem dX11_pack_18 : decode cX11_pack 18 = .ok (.aload_n 0, 1) := by decide +kernel
theorem dX11_pack_19 : decode cX11_pack 19 = .ok (.getfield 97, 3) := by decide +kernel
theorem dX11_pack_22 : decode cX11_pack 22 = .ok (.aload_n 0, 1) := by decide +kernel
theorem dX11_pack_23 : decode cX11_pack 23 = .ok (.getfield 9, 3) := by decide +kernel
theorem dX11_pack_26 : decode cX11_pack 26 = .ok (.iconst 1, 1) := by decide +kernel
theorem dX11_pack_27 : decode cX11_pack 27 = .ok (.isub, 1) := by decide +kernel
theorem dX11_pack_28 : decode cX11_pack 28 = .ok (.bipush 7, 2) := by decide +kernel
theorem dX11_pack_30 : decode cX11_pack 30 = .ok (.invokevirtual 210, 3) := by decide +kernel
theorem dX11_pack_33 : decode cX11_pack 33 = .ok (.aload_n 0, 1) := by decide +kernel
theorem dX11_pack_34 : decode cX11_pack 34 = .ok (.getfield 97, 3) := by decide +kernel
theorem dX11_pack_37 : decode cX11_pack 37 = .ok (.aload_n 0, 1) := by decide +kernel
theorem dX11_pack_38 : decode cX11_pack 38 = .ok (.getfield 83, 3) := by decide +kernel
theorem dX11_pack_41 : decode cX11_pack 41 = .ok (.getfield 174, 3) := by decide +kernel
theorem dX11_pack_44 : decode cX11_pack 44 = .ok (.ifCond .eq 7, 3) := by decide +kernel
theorem dX11_pack_47 : decode cX11_pack 47 = .ok (.iconst 1, 1) := by decide +kernel
theorem dX11_pack_48 : decode cX11_pack 48 = .ok (.goto 4, 3) := by decide +kernel
theorem dX11_pack_51 : decode cX11_pack 51 = .ok (.iconst 0, 1) := by decide +kernel
theorem dX11_pack_52 : decode cX11_pack 52 = .ok (.iconst 1, 1) := by decide +kernel
theorem dX11_pack_53 : decode cX11_pack 53 = .ok (.invokevirtual 210, 3) := by decide +kernel
theorem dX11_pack_56 : decode cX11_pack 56 = .ok (.aload_n 0, 1) := by decide +kernel
theorem dX11_pack_57 : decode cX11_pack 57 = .ok (.invokevirtual 213, 3) := by decide +kernel
theorem dX11_pack_60 : decode cX11_pack 60 = .ok (.aload_n 0, 1) := by decide +kernel
theorem dX11_pack_61 : decode cX11_pack 61 = .ok (.getfield 97, 3) := by decide +kernel
theorem dX11_pack_64 : decode cX11_pack 64 = .ok (.aload_n 0, 1) := by decide +kernel
theorem dX11_pack_65 : decode cX11_pack 65 = .ok (.getfield 19, 3) := by decide +kernel
theorem dX11_pack_68 : decode cX11_pack 68 = .ok (.getfield 110, 3) := by decide +kernel
theorem dX11_pack_71 : decode cX11_pack 71 = .ok (.bipush 10, 2) := by decide +kernel
theorem dX11_pack_73 : decode cX11_pack 73 = .ok (.invokevirtual 210, 3) := by decide +kernel
theorem dX11_pack_76 : decode cX11_pack 76 = .ok (.aload_n 0, 1) := by decide +kernel
theorem dX11_pack_77 : decode cX11_pack 77 = .ok (.invokevirtual 200, 3) := by decide +kernel
theorem dX11_pack_80 : decode cX11_pack 80 = .ok (.aload_n 0, 1) := by decide +kernel
theorem dX11_pack_81 : decode cX11_pack 81 = .ok (.invokevirtual 203, 3) := by decide +kernel
theorem dX11_pack_84 : decode cX11_pack 84 = .ok (.ireturn, 1) := by decide +kernel
set_option maxRecDepth 20000 in
theorem ggX11_unpack_X8_readPacked : GoodIn wsX11_unpack wsX8_readPacked := goodIn_r _ [11, 12, 13, 14, 15, 10, 16, 17, 18, 19, 20, 21, 22, 23, 24, 25, 26, 27, 28, 29, 30, 31, 32, 33, 34, 35, 36, 37, 38, 39, 40, 41, 42, 43, 44, 45, 46, 47, 48, 49, 50, 51, 52, 53, 54, 55, 56, 57, 58, 59, 60, 61, 62, 63, 64, 65, 66, 67, 68, 69, 70, 71, 72, 73, 74, 75, 76, 77, 78, 79, 80, 81, 82, 83, 84, 85, 86, 87, 88, 89, 90, 91, 92, 93, 94, 95, 96, 97, 98, 99, 100, 101, 102, 103, 104, 105, 106, 107, 108, 109, 110, 128, 129, 130, 131, 132, 133, 134, 135, 136, 137, 138, 139, 140, 141, 142, 143, 144] (by decide +kernel) (by decide +kernel)
set_option maxRecDepth 20000 in
theorem gX11_unpack_X8_readPacked : GoodIn wsX11_unpack (wsV RX11 216 RX8 yX8_readPacked wsX8_readPacked) := goodIn_app (goodIn_of _ (by decide +kernel)) ggX11_unpack_X8_readPacked
theorem dX11_unpack_0 : decode cX11_unpack 0 = .ok (.aload_n 0, 1) := by decide +kernel
theorem dX11_unpack_1 : decode cX11_unpack 1 = .ok (.getfield 69, 3) := by decide +kernel
theorem dX11_unpack_4 : decode cX11_unpack 4 = .ok (.aload_n 0, 1) := by decide +kernel
theorem dX11_unpack_5 : decode cX11_unpack 5 = .ok (.getfield 93, 3) := by decide +kernel
theorem dX11_unpack_8 : decode cX11_unpack 8 = .ok (.aload_n 0, 1) := by decide +kernel
theorem dX11_unpack_9 : decode cX11_unpack 9 = .ok (.getfield 87, 3) := by decide +kernel
theorem dX11_unpack_12 : decode cX11_unpack 12 = .ok (.aload_n 0, 1) := by decide +kernel
theorem dX11_unpack_13 : decode cX11_unpack 13 = .ok (.getfield 103, 3) := by decide +kernel
theorem dX11_unpack_16 : decode cX11_unpack 16 = .ok (.invokevirtual 216, 3) := by decide +kernel
theorem dX11_unpack_19 : decode cX11_unpack 19 = .ok (.istore_n 1, 1) := by decide +kernel
theorem dX11_unpack_20 : decode cX11_unpack 20 = .ok (.iload_n 1, 1) := by decide +kernel
theorem dX11_unpack_21 : decode cX11_unpack 21 = .ok (.ifCond .ge 5, 3) := by decide +kernel
theorem dX11_unpack_24 : decode cX11_unpack 24 = .ok (.iload_n 1, 1) := by decide +kernel
theorem dX11_unpack_25 : decode cX11_unpack 25 = .ok (.ireturn, 1) := by decide +kernel
theorem dX11_unpack_26 : decode cX11_unpack 26 = .ok (.aload_n 0, 1) := by decide +kernel
theorem dX11_unpack_27 : decode cX11_unpack 27 = .ok (.getfield 83, 3) := by decide +kernel
theorem dX11_unpack_30 : decode cX11_unpack 30 = .ok (.astore_n 2, 1) := by decide +kernel
theorem dX11_unpack_31 : decode cX11_unpack 31 = .ok (.aload_n 0, 1) := by decide +kernel
theorem dX11_unpack_32 : decode cX11_unpack 32 = .ok (.aload_n 0, 1) := by decide +kernel
theorem dX11_unpack_33 : decode cX11_unpack 33 = .ok (.getfield 87, 3) := by decide +kernel
theorem dX11_unpack_36 : decode cX11_unpack 36 = .ok (.putfield 83, 3) := by decide +kernel
theorem dX11_unpack_39 : decode cX11_unpack 39 = .ok (.aload_n 0, 1) := by decide +kernel
theorem dX11_unpack_40 : decode cX11_unpack 40 = .ok (.aload_n 2, 1) := by decide +kernel
theorem dX11_unpack_41 : decode cX11_unpack 41 = .ok (.putfield 87, 3) := by decide +kernel
theorem dX11_unpack_44 : decode cX11_unpack 44 = .ok (.aload_n 0, 1) := by decide +kernel
theorem dX11_unpack_45 : decode cX11_unpack 45 = .ok (.getfield 100, 3) := by decide +kernel
theorem dX11_unpack_48 : decode cX11_unpack 48 = .ok (.astore_n 3, 1) := by decide +kernel
theorem dX11_unpack_49 : decode cX11_unpack 49 = .ok (.aload_n 0, 1) := by decide +kernel
theorem dX11_unpack_50 : decode cX11_unpack 50 = .ok (.aload_n 0, 1) := by decide +kernel
theorem dX11_unpack_51 : decode cX11_unpack 51 = .ok (.getfield 103, 3) := by decide +kernel
theorem dX11_unpack_54 : decode cX11_unpack 54 = .ok (.putfield 100, 3) := by decide +kernel
theorem dX11_unpack_57 : decode cX11_unpack 57 = .ok (.aload_n 0, 1) := by decide +kernel
theorem dX11_unpack_58 : decode cX11_unpack 58 = .ok (.aload_n 3, 1) := by decide +kernel
theorem dX11_unpack_59 : decode cX11_unpack 59 = .ok (.putfield 103, 3) := by decide +kernel
theorem dX11_unpack_62 : decode cX11_unpack 62 = .ok (.iload_n 1, 1) := by decide +kernel
theorem dX11_unpack_63 : decode cX11_unpack 63 = .ok (.ireturn, 1) := by decide +kernel
theorem dX11_refusalToWrite_0 : decode cX11_refusalToWrite 0 = .ok (.aload_n 0, 1) := by decide +kernel
theorem dX11_refusalToWrite_1 : decode cX11_refusalToWrite 1 = .ok (.getfield 83, 3) := by decide +kernel
theorem dX11_refusalToWrite_4 : decode cX11_refusalToWrite 4 = .ok (.getfield 178, 3) := by decide +kernel
theorem dX11_refusalToWrite_7 : decode cX11_refusalToWrite 7 = .ok (.ifCond .ne 5, 3) := by decide +kernel
theorem dX11_refusalToWrite_10 : decode cX11_refusalToWrite 10 = .ok (.iconst (-1), 1) := by decide +kernel
theorem dX11_refusalToWrite_11 : decode cX11_refusalToWrite 11 = .ok (.ireturn, 1) := by decide +kernel
theorem dX11_refusalToWrite_12 : decode cX11_refusalToWrite 12 = .ok (.iconst 0, 1) := by decide +kernel
theorem dX11_refusalToWrite_13 : decode cX11_refusalToWrite 13 = .ok (.istore_n 1, 1) := by decide +kernel
theorem dX11_refusalToWrite_14 : decode cX11_refusalToWrite 14 = .ok (.iload_n 1, 1) := by decide +kernel
theorem dX11_refusalToWrite_15 : decode cX11_refusalToWrite 15 = .ok (.aload_n 0, 1) := by decide +kernel
theorem dX11_refusalToWrite_16 : decode cX11_refusalToWrite 16 = .ok (.getfield 9, 3) := by decide +kernel
theorem dX11_refusalToWrite_19 : decode cX11_refusalToWrite 19 = .ok (.if_icmp .ge 33, 3) := by decide +kernel
theorem dX11_refusalToWrite_22 : decode cX11_refusalToWrite 22 = .ok (.aload_n 0, 1) := by decide +kernel
theorem dX11_refusalToWrite_23 : decode cX11_refusalToWrite 23 = .ok (.getfield 23, 3) := by decide +kernel
theorem dX11_refusalToWrite_26 : decode cX11_refusalToWrite 26 = .ok (.iload_n 1, 1) := by decide +kernel
theorem dX11_refusalToWrite_27 : decode cX11_refusalToWrite 27 = .ok (.iaload, 1) := by decide +kernel
theorem dX11_refusalToWrite_28 : decode cX11_refusalToWrite 28 = .ok (.ifCond .le 18, 3) := by decide +kernel
theorem dX11_refusalToWrite_31 : decode cX11_refusalToWrite 31 = .ok (.aload_n 0, 1) := by decide +kernel
theorem dX11_refusalToWrite_32 : decode cX11_refusalToWrite 32 = .ok (.getfield 83, 3) := by decide +kernel
theorem dX11_refusalToWrite_35 : decode cX11_refusalToWrite 35 = .ok (.getfield 171, 3) := by decide +kernel
theorem dX11_refusalToWrite_38 : decode cX11_refusalToWrite 38 = .ok (.iload_n 1, 1) := by decide +kernel
theorem dX11_refusalToWrite_39 : decode cX11_refusalToWrite 39 = .ok (.iaload, 1) := by decide +kernel
theorem dX11_refusalToWrite_40 : decode cX11_refusalToWrite 40 = .ok (.ifCond .ne 6, 3) := by decide +kernel
theorem dX11_refusalToWrite_43 : decode cX11_refusalToWrite 43 = .ok (.bipush (-2), 2) := by decide +kernel
theorem dX11_refusalToWrite_45 : decode cX11_refusalToWrite 45 = .ok (.ireturn, 1) := by decide +kernel
theorem dX11_refusalToWrite_46 : decode cX11_refusalToWrite 46 = .ok (.iinc 1 1, 3) := by decide +kernel
theorem dX11_refusalToWrite_49 : decode cX11_refusalToWrite 49 = .ok (.goto (-35), 3) := by decide +kernel
theorem dX11_refusalToWrite_52 : decode cX11_refusalToWrite 52 = .ok (.iconst 0, 1) := by decide +kernel
theorem dX11_refusalToWrite_53 : decode cX11_refusalToWrite 53 = .ok (.ireturn, 1) := by decide +kernel
set_option maxRecDepth 20000 in
theorem ggX11_writeText_X0_addNumber : GoodIn wsX11_writeText wsX0_addNumber := goodIn_r _ [8, 9, 10, 11, 7, 12, 13, 14, 15, 16, 17, 18, 19, 20, 49, 50, 51, 52] (by decide +kernel) (by decide +kernel)
set_option maxRecDepth 20000 in
theorem gX11_writeText_X0_addNumber : GoodIn wsX11_writeText (wsV RX11 210 RX0 yX0_addNumber wsX0_addNumber) := goodIn_app (goodIn_of _ (by decide +kernel)) ggX11_writeText_X0_addNumber
theorem dX11_writeText_0 : decode cX11_writeText 0 = .ok (.iconst 0, 1) := by decide +kernel
theorem dX11_writeText_1 : decode cX11_writeText 1 = .ok (.istore_n 1, 1) := by decide +kernel
theorem dX11_writeText_2 : decode cX11_writeText 2 = .ok (.iload_n 1, 1) := by decide +kernel
theorem dX11_writeText_3 : decode cX11_writeText 3 = .ok (.aload_n 0, 1) := by decide +kernel
theorem dX11_writeText_4 : decode cX11_writeText 4 = .ok (.getfield 19, 3) := by decide +kernel
theorem dX11_writeText_7 : decode cX11_writeText 7 = .ok (.getfield 110, 3) := by decide +kernel
theorem dX11_writeText_10 : decode cX11_writeText 10 = .ok (.if_icmp .ge 44, 3) := by decide +kernel
theorem dX11_writeText_13 : decode cX11_writeText 13 = .ok (.aload_n 0, 1) := by decide +kernel
theorem dX11_writeText_14 : decode cX11_writeText 14 = .ok (.getfield 19, 3) := by decide +kernel
theorem dX11_writeText_17 : decode cX11_writeText 17 = .ok (.getfield 219, 3) := by decide +kernel
theorem dX11_writeText_20 : decode cX11_writeText 20 = .ok (.iload_n 1, 1) := by decide +kernel
theorem dX11_writeText_21 : decode cX11_writeText 21 = .ok (.iaload, 1) := by decide +kernel
theorem dX11_writeText_22 : decode cX11_writeText 22 = .ok (.istore_n 2, 1) := by decide +kernel
theorem dX11_writeText_23 : decode cX11_writeText 23 = .ok (.aload_n 0, 1) := by decide +kernel
theorem dX11_writeText_24 : decode cX11_writeText 24 = .ok (.getfield 97, 3) := by decide +kernel
theorem dX11_writeText_27 : decode cX11_writeText 27 = .ok (.aload_n 0, 1) := by decide +kernel
theorem dX11_writeText_28 : decode cX11_writeText 28 = .ok (.getfield 83, 3) := by decide +kernel
theorem dX11_writeText_31 : decode cX11_writeText 31 = .ok (.getfield 191, 3) := by decide +kernel
theorem dX11_writeText_34 : decode cX11_writeText 34 = .ok (.iload_n 2, 1) := by decide +kernel
theorem dX11_writeText_35 : decode cX11_writeText 35 = .ok (.iaload, 1) := by decide +kernel
theorem dX11_writeText_36 : decode cX11_writeText 36 = .ok (.aload_n 0, 1) := by decide +kernel
theorem dX11_writeText_37 : decode cX11_writeText 37 = .ok (.getfield 83, 3) := by decide +kernel
theorem dX11_writeText_40 : decode cX11_writeText 40 = .ok (.getfield 171, 3) := by decide +kernel
theorem dX11_writeText_43 : decode cX11_writeText 43 = .ok (.iload_n 2, 1) := by decide +kernel
theorem dX11_writeText_44 : decode cX11_writeText 44 = .ok (.iaload, 1) := by decide +kernel
theorem dX11_writeText_45 : decode cX11_writeText 45 = .ok (.invokevirtual 210, 3) := by decide +kernel
theorem dX11_writeText_48 : decode cX11_writeText 48 = .ok (.iinc 1 1, 3) := by decide +kernel
theorem dX11_writeText_51 : decode cX11_writeText 51 = .ok (.goto (-49), 3) := by decide +kernel
theorem dX11_writeText_54 : decode cX11_writeText 54 = .ok (.return_, 1) := by decide +kernel
set_option maxRecDepth 20000 in
theorem ggX11_writeLengths_X10_gapFrom : GoodIn wsX11_writeLengths wsX10_gapFrom := goodIn_r _ [12, 13, 14, 49, 50, 51, 52, 53, 54, 55, 56, 57] (by decide +kernel) (by decide +kernel)
set_option maxRecDepth 20000 in
theorem gX11_writeLengths_X10_gapFrom : GoodIn wsX11_writeLengths (wsV RX11 222 RX10 yX10_gapFrom wsX10_gapFrom) := goodIn_app (goodIn_of _ (by decide +kernel)) ggX11_writeLengths_X10_gapFrom
set_option maxRecDepth 20000 in
theorem ggX11_writeLengths_X0_addNumber : GoodIn wsX11_writeLengths wsX0_addNumber := goodIn_r _ [19, 20, 21, 22, 18, 23, 24, 25, 26, 27, 28, 29, 30, 31, 58, 59, 60, 61] (by decide +kernel) (by decide +kernel)
set_option maxRecDepth 20000 in
theorem gX11_writeLengths_X0_addNumber : GoodIn wsX11_writeLengths (wsV RX11 210 RX0 yX0_addNumber wsX0_addNumber) := goodIn_app (goodIn_of _ (by decide +kernel)) ggX11_writeLengths_X0_addNumber
theorem dX11_writeLengths_0 : decode cX11_writeLengths 0 = .ok (.iconst 0, 1) := by decide +kernel
theorem dX11_writeLengths_1 : decode cX11_writeLengths 1 = .ok (.istore_n 1, 1) := by decide +kernel
theorem dX11_writeLengths_2 : decode cX11_writeLengths 2 = .ok (.iload_n 1, 1) := by decide +kernel
theorem dX11_writeLengths_3 : decode cX11_writeLengths 3 = .ok (.aload_n 0, 1) := by decide +kernel
theorem dX11_writeLengths_4 : decode cX11_writeLengths 4 = .ok (.getfield 9, 3) := by decide +kernel
theorem dX11_writeLengths_7 : decode cX11_writeLengths 7 = .ok (.if_icmp .ge 74, 3) := by decide +kernel
theorem dX11_writeLengths_10 : decode cX11_writeLengths 10 = .ok (.aload_n 0, 1) := by decide +kernel
theorem dX11_writeLengths_11 : decode cX11_writeLengths 11 = .ok (.getfield 83, 3) := by decide +kernel
theorem dX11_writeLengths_14 : decode cX11_writeLengths 14 = .ok (.iload_n 1, 1) := by decide +kernel
theorem dX11_writeLengths_15 : decode cX11_writeLengths 15 = .ok (.invokevirtual 222, 3) := by decide +kernel
theorem dX11_writeLengths_18 : decode cX11_writeLengths 18 = .ok (.bipush 66, 2) := by decide +kernel
theorem dX11_writeLengths_20 : decode cX11_writeLengths 20 = .ok (.invokestatic 226, 3) := by decide +kernel
theorem dX11_writeLengths_23 : decode cX11_writeLengths 23 = .ok (.istore_n 2, 1) := by decide +kernel
theorem dX11_writeLengths_24 : decode cX11_writeLengths 24 = .ok (.iload_n 2, 1) := by decide +kernel
theorem dX11_writeLengths_25 : decode cX11_writeLengths 25 = .ok (.iconst 3, 1) := by decide +kernel
theorem dX11_writeLengths_26 : decode cX11_writeLengths 26 = .ok (.if_icmp .lt 32, 3) := by decide +kernel
theorem dX11_writeLengths_29 : decode cX11_writeLengths 29 = .ok (.aload_n 0, 1) := by decide +kernel
theorem dX11_writeLengths_30 : decode cX11_writeLengths 30 = .ok (.getfield 97, 3) := by decide +kernel
theorem dX11_writeLengths_33 : decode cX11_writeLengths 33 = .ok (.bipush 31, 2) := by decide +kernel
theorem dX11_writeLengths_35 : decode cX11_writeLengths 35 = .ok (.iconst 5, 1) := by decide +kernel
theorem dX11_writeLengths_36 : decode cX11_writeLengths 36 = .ok (.invokevirtual 210, 3) := by decide +kernel
theorem dX11_writeLengths_39 : decode cX11_writeLengths 39 = .ok (.aload_n 0, 1) := by decide +kernel
theorem dX11_writeLengths_40 : decode cX11_writeLengths 40 = .ok (.getfield 97, 3) := by decide +kernel
theorem dX11_writeLengths_43 : decode cX11_writeLengths 43 = .ok (.iload_n 2, 1) := by decide +kernel
theorem dX11_writeLengths_44 : decode cX11_writeLengths 44 = .ok (.iconst 3, 1) := by decide +kernel
theorem dX11_writeLengths_45 : decode cX11_writeLengths 45 = .ok (.isub, 1) := by decide +kernel
theorem dX11_writeLengths_46 : decode cX11_writeLengths 46 = .ok (.bipush 6, 2) := by decide +kernel
theorem dX11_writeLengths_48 : decode cX11_writeLengths 48 = .ok (.invokevirtual 210, 3) := by decide +kernel
theorem dX11_writeLengths_51 : decode cX11_writeLengths 51 = .ok (.iload_n 1, 1) := by decide +kernel
theorem dX11_writeLengths_52 : decode cX11_writeLengths 52 = .ok (.iload_n 2, 1) := by decide +kernel
theorem dX11_writeLengths_53 : decode cX11_writeLengths 53 = .ok (.iadd, 1) := by decide +kernel
theorem dX11_writeLengths_54 : decode cX11_writeLengths 54 = .ok (.istore_n 1, 1) := by decide +kernel
theorem dX11_writeLengths_55 : decode cX11_writeLengths 55 = .ok (.goto 23, 3) := by decide +kernel
theorem dX11_writeLengths_58 : decode cX11_writeLengths 58 = .ok (.aload_n 0, 1) := by decide +kernel
theorem dX11_writeLengths_59 : decode cX11_writeLengths 59 = .ok (.getfield 97, 3) := by decide +kernel
theorem dX11_writeLengths_62 : decode cX11_writeLengths 62 = .ok (.aload_n 0, 1) := by decide +kernel
theorem dX11_writeLengths_63 : decode cX11_writeLengths 63 = .ok (.getfield 83, 3) := by decide +kernel
theorem dX11_writeLengths_66 : decode cX11_writeLengths 66 = .ok (.getfield 171, 3) := by decide +kernel
theorem dX11_writeLengths_69 : decode cX11_writeLengths 69 = .ok (.iload_n 1, 1) := by decide +kernel
theorem dX11_writeLengths_70 : decode cX11_writeLengths 70 = .ok (.iaload, 1) := by decide +kernel
theorem dX11_writeLengths_71 : decode cX11_writeLengths 71 = .ok (.iconst 5, 1) := by decide +kernel
theorem dX11_writeLengths_72 : decode cX11_writeLengths 72 = .ok (.invokevirtual 210, 3) := by decide +kernel
theorem dX11_writeLengths_75 : decode cX11_writeLengths 75 = .ok (.iinc 1 1, 3) := by decide +kernel
theorem dX11_writeLengths_78 : decode cX11_writeLengths 78 = .ok (.goto (-76), 3) := by decide +kernel
theorem dX11_writeLengths_81 : decode cX11_writeLengths 81 = .ok (.return_, 1) := by decide +kernel
theorem dX11_keepWritten_0 : decode cX11_keepWritten 0 = .ok (.aload_n 0, 1) := by decide +kernel
theorem dX11_keepWritten_1 : decode cX11_keepWritten 1 = .ok (.getfield 97, 3) := by decide +kernel
theorem dX11_keepWritten_4 : decode cX11_keepWritten 4 = .ok (.getfield 232, 3) := by decide +kernel
theorem dX11_keepWritten_7 : decode cX11_keepWritten 7 = .ok (.ifCond .eq 6, 3) := by decide +kernel
theorem dX11_keepWritten_10 : decode cX11_keepWritten 10 = .ok (.bipush (-3), 2) := by decide +kernel
theorem dX11_keepWritten_12 : decode cX11_keepWritten 12 = .ok (.ireturn, 1) := by decide +kernel
theorem dX11_keepWritten_13 : decode cX11_keepWritten 13 = .ok (.aload_n 0, 1) := by decide +kernel
theorem dX11_keepWritten_14 : decode cX11_keepWritten 14 = .ok (.getfield 93, 3) := by decide +kernel
theorem dX11_keepWritten_17 : decode cX11_keepWritten 17 = .ok (.astore_n 1, 1) := by decide +kernel
theorem dX11_keepWritten_18 : decode cX11_keepWritten 18 = .ok (.aload_n 0, 1) := by decide +kernel
theorem dX11_keepWritten_19 : decode cX11_keepWritten 19 = .ok (.aload_n 0, 1) := by decide +kernel
theorem dX11_keepWritten_20 : decode cX11_keepWritten 20 = .ok (.getfield 97, 3) := by decide +kernel
theorem dX11_keepWritten_23 : decode cX11_keepWritten 23 = .ok (.putfield 93, 3) := by decide +kernel
theorem dX11_keepWritten_26 : decode cX11_keepWritten 26 = .ok (.aload_n 0, 1) := by decide +kernel
theorem dX11_keepWritten_27 : decode cX11_keepWritten 27 = .ok (.aload_n 1, 1) := by decide +kernel
theorem dX11_keepWritten_28 : decode cX11_keepWritten 28 = .ok (.putfield 97, 3) := by decide +kernel
theorem dX11_keepWritten_31 : decode cX11_keepWritten 31 = .ok (.aload_n 0, 1) := by decide +kernel
theorem dX11_keepWritten_32 : decode cX11_keepWritten 32 = .ok (.getfield 93, 3) := by decide +kernel
theorem dX11_keepWritten_35 : decode cX11_keepWritten 35 = .ok (.getfield 235, 3) := by decide +kernel
theorem dX11_keepWritten_38 : decode cX11_keepWritten 38 = .ok (.ireturn, 1) := by decide +kernel
set_option maxRecDepth 20000 in
theorem ggX11_push_X0_addNumber : GoodIn wsX11_push wsX0_addNumber := goodIn_r _ [6, 7, 8, 9, 5, 10, 11, 12, 13, 14, 15, 16, 17, 18, 36, 37, 38, 39] (by decide +kernel) (by decide +kernel)
set_option maxRecDepth 20000 in
theorem gX11_push_X0_addNumber : GoodIn wsX11_push (wsV RX11 210 RX0 yX0_addNumber wsX0_addNumber) := goodIn_app (goodIn_of _ (by decide +kernel)) ggX11_push_X0_addNumber
theorem dX11_push_0 : decode cX11_push 0 = .ok (.iload_n 2, 1) := by decide +kernel
theorem dX11_push_1 : decode cX11_push 1 = .ok (.iconst 1, 1) := by decide +kernel
theorem dX11_push_2 : decode cX11_push 2 = .ok (.if_icmp .lt 9, 3) := by decide +kernel
theorem dX11_push_5 : decode cX11_push 5 = .ok (.iload_n 2, 1) := by decide +kernel
theorem dX11_push_6 : decode cX11_push 6 = .ok (.bipush 32, 2) := by decide +kernel
theorem dX11_push_8 : decode cX11_push 8 = .ok (.if_icmp .le 5, 3) := by decide +kernel
theorem dX11_push_11 : decode cX11_push 11 = .ok (.iconst (-1), 1) := by decide +kernel
theorem dX11_push_12 : decode cX11_push 12 = .ok (.ireturn, 1) := by decide +kernel
theorem dX11_push_13 : decode cX11_push 13 = .ok (.aload_n 0, 1) := by decide +kernel
theorem dX11_push_14 : decode cX11_push 14 = .ok (.getfield 93, 3) := by decide +kernel
theorem dX11_push_17 : decode cX11_push 17 = .ok (.getfield 235, 3) := by decide +kernel
theorem dX11_push_20 : decode cX11_push 20 = .ok (.iload_n 2, 1) := by decide +kernel
theorem dX11_push_21 : decode cX11_push 21 = .ok (.iadd, 1) := by decide +kernel
theorem dX11_push_22 : decode cX11_push 22 = .ok (.sipush 6000, 3) := by decide +kernel
theorem dX11_push_25 : decode cX11_push 25 = .ok (.if_icmp .le 6, 3) := by decide +kernel
theorem dX11_push_28 : decode cX11_push 28 = .ok (.bipush (-2), 2) := by decide +kernel
theorem dX11_push_30 : decode cX11_push 30 = .ok (.ireturn, 1) := by decide +kernel
theorem dX11_push_31 : decode cX11_push 31 = .ok (.aload_n 0, 1) := by decide +kernel
theorem dX11_push_32 : decode cX11_push 32 = .ok (.getfield 93, 3) := by decide +kernel
theorem dX11_push_35 : decode cX11_push 35 = .ok (.iload_n 1, 1) := by decide +kernel
theorem dX11_push_36 : decode cX11_push 36 = .ok (.iload_n 2, 1) := by decide +kernel
theorem dX11_push_37 : decode cX11_push 37 = .ok (.invokevirtual 210, 3) := by decide +kernel
theorem dX11_push_40 : decode cX11_push 40 = .ok (.aload_n 0, 1) := by decide +kernel
theorem dX11_push_41 : decode cX11_push 41 = .ok (.getfield 93, 3) := by decide +kernel
theorem dX11_push_44 : decode cX11_push 44 = .ok (.getfield 235, 3) := by decide +kernel
theorem dX11_push_47 : decode cX11_push 47 = .ok (.ireturn, 1) := by decide +kernel
theorem dX11_cut_0 : decode cX11_cut 0 = .ok (.iload_n 1, 1) := by decide +kernel
theorem dX11_cut_1 : decode cX11_cut 1 = .ok (.ifCond .lt 14, 3) := by decide +kernel
theorem dX11_cut_4 : decode cX11_cut 4 = .ok (.iload_n 1, 1) := by decide +kernel
theorem dX11_cut_5 : decode cX11_cut 5 = .ok (.aload_n 0, 1) := by decide +kernel
theorem dX11_cut_6 : decode cX11_cut 6 = .ok (.getfield 93, 3) := by decide +kernel
theorem dX11_cut_9 : decode cX11_cut 9 = .ok (.getfield 235, 3) := by decide +kernel
theorem dX11_cut_12 : decode cX11_cut 12 = .ok (.if_icmp .le 5, 3) := by decide +kernel
theorem dX11_cut_15 : decode cX11_cut 15 = .ok (.iconst (-1), 1) := by decide +kernel
theorem dX11_cut_16 : decode cX11_cut 16 = .ok (.ireturn, 1) := by decide +kernel
theorem dX11_cut_17 : decode cX11_cut 17 = .ok (.aload_n 0, 1) := by decide +kernel
theorem dX11_cut_18 : decode cX11_cut 18 = .ok (.getfield 93, 3) := by decide +kernel
theorem dX11_cut_21 : decode cX11_cut 21 = .ok (.getfield 235, 3) := by decide +kernel
theorem dX11_cut_24 : decode cX11_cut 24 = .ok (.istore_n 2, 1) := by decide +kernel
theorem dX11_cut_25 : decode cX11_cut 25 = .ok (.aload_n 0, 1) := by decide +kernel
theorem dX11_cut_26 : decode cX11_cut 26 = .ok (.getfield 93, 3) := by decide +kernel
theorem dX11_cut_29 : decode cX11_cut 29 = .ok (.iload_n 1, 1) := by decide +kernel
theorem dX11_cut_30 : decode cX11_cut 30 = .ok (.putfield 235, 3) := by decide +kernel
theorem dX11_cut_33 : decode cX11_cut 33 = .ok (.iload_n 2, 1) := by decide +kernel
theorem dX11_cut_34 : decode cX11_cut 34 = .ok (.ireturn, 1) := by decide +kernel
set_option maxRecDepth 20000 in
theorem ggX11_bit_X0_get : GoodIn wsX11_bit wsX0_get := goodIn_r _ [6, 7, 8, 26, 27, 28, 29] (by decide +kernel) (by decide +kernel)
set_option maxRecDepth 20000 in
theorem gX11_bit_X0_get : GoodIn wsX11_bit (wsV RX11 236 RX0 yX0_get wsX0_get) := goodIn_app (goodIn_of _ (by decide +kernel)) ggX11_bit_X0_get
theorem dX11_bit_0 : decode cX11_bit 0 = .ok (.aload_n 0, 1) := by decide +kernel
theorem dX11_bit_1 : decode cX11_bit 1 = .ok (.getfield 93, 3) := by decide +kernel
theorem dX11_bit_4 : decode cX11_bit 4 = .ok (.iload_n 1, 1) := by decide +kernel
theorem dX11_bit_5 : decode cX11_bit 5 = .ok (.invokevirtual 236, 3) := by decide +kernel
theorem dX11_bit_8 : decode cX11_bit 8 = .ok (.ireturn, 1) := by decide +kernel
set_option maxRecDepth 20000 in
theorem ggX11_turn_X0_get : GoodIn wsX11_turn wsX0_get := goodIn_r _ [6, 7, 8, 30, 31, 32, 33] (by decide +kernel) (by decide +kernel)
set_option maxRecDepth 20000 in
theorem gX11_turn_X0_get : GoodIn wsX11_turn (wsV RX11 236 RX0 yX0_get wsX0_get) := goodIn_app (goodIn_of _ (by decide +kernel)) ggX11_turn_X0_get
set_option maxRecDepth 20000 in
theorem ggX11_turn_X0_set : GoodIn wsX11_turn wsX0_set := goodIn_r _ [12, 7, 8, 30, 31, 32, 33] (by decide +kernel) (by decide +kernel)
set_option maxRecDepth 20000 in
theorem gX11_turn_X0_set : GoodIn wsX11_turn (wsV RX11 239 RX0 yX0_set wsX0_set) := goodIn_app (goodIn_of _ (by decide +kernel)) ggX11_turn_X0_set
theorem dX11_turn_0 : decode cX11_turn 0 = .ok (.iload_n 1, 1) := by decide +kernel
theorem dX11_turn_1 : decode cX11_turn 1 = .ok (.ifCond .lt 14, 3) := by decide +kernel
theorem dX11_turn_4 : decode cX11_turn 4 = .ok (.iload_n 1, 1) := by decide +kernel
theorem dX11_turn_5 : decode cX11_turn 5 = .ok (.aload_n 0, 1) := by decide +kernel
theorem dX11_turn_6 : decode cX11_turn 6 = .ok (.getfield 93, 3) := by decide +kernel
theorem dX11_turn_9 : decode cX11_turn 9 = .ok (.getfield 235, 3) := by decide +kernel
theorem dX11_turn_12 : decode cX11_turn 12 = .ok (.if_icmp .lt 5, 3) := by decide +kernel
theorem dX11_turn_15 : decode cX11_turn 15 = .ok (.iconst (-1), 1) := by decide +kernel
theorem dX11_turn_16 : decode cX11_turn 16 = .ok (.ireturn, 1) := by decide +kernel
theorem dX11_turn_17 : decode cX11_turn 17 = .ok (.aload_n 0, 1) := by decide +kernel
theorem dX11_turn_18 : decode cX11_turn 18 = .ok (.getfield 93, 3) := by decide +kernel
theorem dX11_turn_21 : decode cX11_turn 21 = .ok (.iload_n 1, 1) := by decide +kernel
theorem dX11_turn_22 : decode cX11_turn 22 = .ok (.iconst 1, 1) := by decide +kernel
theorem dX11_turn_23 : decode cX11_turn 23 = .ok (.aload_n 0, 1) := by decide +kernel
theorem dX11_turn_24 : decode cX11_turn 24 = .ok (.getfield 93, 3) := by decide +kernel
theorem dX11_turn_27 : decode cX11_turn 27 = .ok (.iload_n 1, 1) := by decide +kernel
theorem dX11_turn_28 : decode cX11_turn 28 = .ok (.invokevirtual 236, 3) := by decide +kernel
theorem dX11_turn_31 : decode cX11_turn 31 = .ok (.isub, 1) := by decide +kernel
theorem dX11_turn_32 : decode cX11_turn 32 = .ok (.invokevirtual 239, 3) := by decide +kernel
theorem dX11_turn_35 : decode cX11_turn 35 = .ok (.aload_n 0, 1) := by decide +kernel
theorem dX11_turn_36 : decode cX11_turn 36 = .ok (.getfield 93, 3) := by decide +kernel
theorem dX11_turn_39 : decode cX11_turn 39 = .ok (.iload_n 1, 1) := by decide +kernel
theorem dX11_turn_40 : decode cX11_turn 40 = .ok (.invokevirtual 236, 3) := by decide +kernel
theorem dX11_turn_43 : decode cX11_turn 43 = .ok (.ireturn, 1) := by decide +kernel
set_option maxRecDepth 20000 in
theorem ggX11_out_X9_get : GoodIn wsX11_out wsX9_get := goodIn_r _ [6, 7, 8, 26, 27] (by decide +kernel) (by decide +kernel)
set_option maxRecDepth 20000 in
theorem gX11_out_X9_get : GoodIn wsX11_out (wsV RX11 242 RX9 yX9_get wsX9_get) := goodIn_app (goodIn_of _ (by decide +kernel)) ggX11_out_X9_get
theorem dX11_out_0 : decode cX11_out 0 = .ok (.aload_n 0, 1) := by decide +kernel
theorem dX11_out_1 : decode cX11_out 1 = .ok (.getfield 100, 3) := by decide +kernel
theorem dX11_out_4 : decode cX11_out 4 = .ok (.iload_n 1, 1) := by decide +kernel
theorem dX11_out_5 : decode cX11_out 5 = .ok (.invokevirtual 242, 3) := by decide +kernel
theorem dX11_out_8 : decode cX11_out 8 = .ok (.ireturn, 1) := by decide +kernel
theorem dX11_place_0 : decode cX11_place 0 = .ok (.aload_n 0, 1) := by decide +kernel
theorem dX11_place_1 : decode cX11_place 1 = .ok (.getfield 69, 3) := by decide +kernel
theorem dX11_place_4 : decode cX11_place 4 = .ok (.getfield 243, 3) := by decide +kernel
theorem dX11_place_7 : decode cX11_place 7 = .ok (.ireturn, 1) := by decide +kernel
set_option maxRecDepth 20000 in
theorem ggX11_key_X2_forget : GoodIn wsX11_key wsX2_forget := goodIn_r _ [7, 8, 9, 10, 11, 12, 13, 14, 15, 86, 87, 88, 89, 90, 91, 92] (by decide +kernel) (by decide +kernel)
set_option maxRecDepth 20000 in
theorem gX11_key_X2_forget : GoodIn wsX11_key (wsV RX11 246 RX2 yX2_forget wsX2_forget) := goodIn_app (goodIn_of _ (by decide +kernel)) ggX11_key_X2_forget
set_option maxRecDepth 20000 in
theorem ggX11_key_X10_codeNumber : GoodIn wsX11_key wsX10_codeNumber := goodIn_r _ [20, 21, 22, 77, 78, 79, 80, 81, 82, 83, 84, 85] (by decide +kernel) (by decide +kernel)
set_option maxRecDepth 20000 in
theorem gX11_key_X10_codeNumber : GoodIn wsX11_key (wsV RX11 181 RX10 yX10_codeNumber wsX10_codeNumber) := goodIn_app (goodIn_of _ (by decide +kernel)) ggX11_key_X10_codeNumber
set_option maxRecDepth 20000 in
theorem ggX11_key_X2_search : GoodIn wsX11_key wsX2_search := goodIn_r _ [26, 27, 28, 29, 30, 31, 32, 33, 34, 6, 35, 36, 37, 38, 39, 40, 41, 42, 19, 43, 44, 45, 46, 47, 48, 8, 49, 50, 51, 12, 52, 14, 53, 15, 54, 55, 56, 57, 58, 59, 77, 78, 79, 80, 81, 82, 83, 84, 85, 86, 87, 88, 89, 90, 91, 92] (by decide +kernel) (by decide +kernel)
set_option maxRecDepth 20000 in
theorem gX11_key_X2_search : GoodIn wsX11_key (wsV RX11 252 RX2 yX2_search wsX2_search) := goodIn_app (goodIn_of _ (by decide +kernel)) ggX11_key_X2_search
theorem dX11_key_0 : decode cX11_key 0 = .ok (.aload_n 0, 1) := by decide +kernel
theorem dX11_key_1 : decode cX11_key 1 = .ok (.getfield 76, 3) := by decide +kernel
theorem dX11_key_4 : decode cX11_key 4 = .ok (.invokevirtual 246, 3) := by decide +kernel
theorem dX11_key_7 : decode cX11_key 7 = .ok (.aload_n 0, 1) := by decide +kernel
theorem dX11_key_8 : decode cX11_key 8 = .ok (.getfield 83, 3) := by decide +kernel
theorem dX11_key_11 : decode cX11_key 11 = .ok (.getfield 178, 3) := by decide +kernel
theorem dX11_key_14 : decode cX11_key 14 = .ok (.ifCond .eq 13, 3) := by decide +kernel
theorem dX11_key_17 : decode cX11_key 17 = .ok (.aload_n 0, 1) := by decide +kernel
theorem dX11_key_18 : decode cX11_key 18 = .ok (.getfield 83, 3) := by decide +kernel
theorem dX11_key_21 : decode cX11_key 21 = .ok (.getfield 249, 3) := by decide +kernel
theorem dX11_key_24 : decode cX11_key 24 = .ok (.ifCond .ne 5, 3) := by decide +kernel
theorem dX11_key_27 : decode cX11_key 27 = .ok (.iconst (-1), 1) := by decide +kernel
theorem dX11_key_28 : decode cX11_key 28 = .ok (.ireturn, 1) := by decide +kernel
theorem dX11_key_29 : decode cX11_key 29 = .ok (.aload_n 0, 1) := by decide +kernel
theorem dX11_key_30 : decode cX11_key 30 = .ok (.getfield 83, 3) := by decide +kernel
theorem dX11_key_33 : decode cX11_key 33 = .ok (.invokevirtual 181, 3) := by decide +kernel
theorem dX11_key_36 : decode cX11_key 36 = .ok (.istore_n 1, 1) := by decide +kernel
theorem dX11_key_37 : decode cX11_key 37 = .ok (.iload_n 1, 1) := by decide +kernel
theorem dX11_key_38 : decode cX11_key 38 = .ok (.iconst 2, 1) := by decide +kernel
theorem dX11_key_39 : decode cX11_key 39 = .ok (.if_icmp .lt 9, 3) := by decide +kernel
theorem dX11_key_42 : decode cX11_key 42 = .ok (.iload_n 1, 1) := by decide +kernel
theorem dX11_key_43 : decode cX11_key 43 = .ok (.bipush 11, 2) := by decide +kernel
theorem dX11_key_45 : decode cX11_key 45 = .ok (.if_icmp .le 5, 3) := by decide +kernel
theorem dX11_key_48 : decode cX11_key 48 = .ok (.iconst (-1), 1) := by decide +kernel
theorem dX11_key_49 : decode cX11_key 49 = .ok (.ireturn, 1) := by decide +kernel
theorem dX11_key_50 : decode cX11_key 50 = .ok (.aload_n 0, 1) := by decide +kernel
theorem dX11_key_51 : decode cX11_key 51 = .ok (.getfield 76, 3) := by decide +kernel
theorem dX11_key_54 : decode cX11_key 54 = .ok (.aload_n 0, 1) := by decide +kernel
theorem dX11_key_55 : decode cX11_key 55 = .ok (.getfield 83, 3) := by decide +kernel
theorem dX11_key_58 : decode cX11_key 58 = .ok (.invokevirtual 252, 3) := by decide +kernel
theorem dX11_key_61 : decode cX11_key 61 = .ok (.ireturn, 1) := by decide +kernel
set_option maxRecDepth 20000 in
theorem ggX11_keyBit_X0_get : GoodIn wsX11_keyBit wsX0_get := goodIn_r _ [6, 7, 8, 29, 30, 31, 32] (by decide +kernel) (by decide +kernel)
set_option maxRecDepth 20000 in
theorem gX11_keyBit_X0_get : GoodIn wsX11_keyBit (wsV RX11 236 RX0 yX0_get wsX0_get) := goodIn_app (goodIn_of _ (by decide +kernel)) ggX11_keyBit_X0_get
theorem dX11_keyBit_0 : decode cX11_keyBit 0 = .ok (.aload_n 0, 1) := by decide +kernel
theorem dX11_keyBit_1 : decode cX11_keyBit 1 = .ok (.getfield 76, 3) := by decide +kernel
theorem dX11_keyBit_4 : decode cX11_keyBit 4 = .ok (.getfield 256, 3) := by decide +kernel
theorem dX11_keyBit_7 : decode cX11_keyBit 7 = .ok (.iload_n 1, 1) := by decide +kernel
theorem dX11_keyBit_8 : decode cX11_keyBit 8 = .ok (.invokevirtual 236, 3) := by decide +kernel
theorem dX11_keyBit_11 : decode cX11_keyBit 11 = .ok (.ireturn, 1) := by decide +kernel
set_option maxRecDepth 20000 in
theorem ggX11_told_X11_usedNumber : GoodIn wsX11_told wsX11_usedNumber := goodIn_r _ [11, 1, 12, 20, 21, 22, 23, 24, 25, 26, 27, 28, 29, 30, 31, 32, 33, 34, 35, 36] (by decide +kernel) (by decide +kernel)
set_option maxRecDepth 20000 in
theorem gX11_told_X11_usedNumber : GoodIn wsX11_told (wsV RX11 259 RX11 yX11_usedNumber wsX11_usedNumber) := goodIn_app (goodIn_of _ (by decide +kernel)) ggX11_told_X11_usedNumber
set_option maxRecDepth 20000 in
theorem ggX11_told_X10_codeNumber : GoodIn wsX11_told wsX10_codeNumber := goodIn_r _ [17, 18, 19, 43, 44, 45, 46, 47, 48, 49, 50, 51] (by decide +kernel) (by decide +kernel)
set_option maxRecDepth 20000 in
theorem gX11_told_X10_codeNumber : GoodIn wsX11_told (wsV RX11 181 RX10 yX10_codeNumber wsX10_codeNumber) := goodIn_app (goodIn_of _ (by decide +kernel)) ggX11_told_X10_codeNumber
theorem dX11_told_0 : decode cX11_told 0 = .ok (.iload_n 1, 1) := by decide +kernel
theorem dX11_told_1 : decode cX11_told 1 = .ok (.tableswitch 160 0 9 #[55, 60, 65, 73, 78, 86, 94, 102, 118, 144], 55) := by decide +kernel
theorem dX11_told_56 : decode cX11_told 56 = .ok (.aload_n 0, 1) := by decide +kernel
theorem dX11_told_57 : decode cX11_told 57 = .ok (.getfield 9, 3) := by decide +kernel
theorem dX11_told_60 : decode cX11_told 60 = .ok (.ireturn, 1) := by decide +kernel
theorem dX11_told_61 : decode cX11_told 61 = .ok (.aload_n 0, 1) := by decide +kernel
theorem dX11_told_62 : decode cX11_told 62 = .ok (.getfield 13, 3) := by decide +kernel
theorem dX11_told_65 : decode cX11_told 65 = .ok (.ireturn, 1) := by decide +kernel
theorem dX11_told_66 : decode cX11_told 66 = .ok (.aload_n 0, 1) := by decide +kernel
theorem dX11_told_67 : decode cX11_told 67 = .ok (.getfield 19, 3) := by decide +kernel
theorem dX11_told_70 : decode cX11_told 70 = .ok (.getfield 110, 3) := by decide +kernel
theorem dX11_told_73 : decode cX11_told 73 = .ok (.ireturn, 1) := by decide +kernel
theorem dX11_told_74 : decode cX11_told 74 = .ok (.aload_n 0, 1) := by decide +kernel
theorem dX11_told_75 : decode cX11_told 75 = .ok (.invokevirtual 259, 3) := by decide +kernel
theorem dX11_told_78 : decode cX11_told 78 = .ok (.ireturn, 1) := by decide +kernel
theorem dX11_told_79 : decode cX11_told 79 = .ok (.aload_n 0, 1) := by decide +kernel
theorem dX11_told_80 : decode cX11_told 80 = .ok (.getfield 93, 3) := by decide +kernel
theorem dX11_told_83 : decode cX11_told 83 = .ok (.getfield 235, 3) := by decide +kernel
theorem dX11_told_86 : decode cX11_told 86 = .ok (.ireturn, 1) := by decide +kernel
theorem dX11_told_87 : decode cX11_told 87 = .ok (.aload_n 0, 1) := by decide +kernel
theorem dX11_told_88 : decode cX11_told 88 = .ok (.getfield 100, 3) := by decide +kernel
theorem dX11_told_91 : decode cX11_told 91 = .ok (.getfield 110, 3) := by decide +kernel
theorem dX11_told_94 : decode cX11_told 94 = .ok (.ireturn, 1) := by decide +kernel
theorem dX11_told_95 : decode cX11_told 95 = .ok (.aload_n 0, 1) := by decide +kernel
theorem dX11_told_96 : decode cX11_told 96 = .ok (.getfield 83, 3) := by decide +kernel
theorem dX11_told_99 : decode cX11_told 99 = .ok (.invokevirtual 181, 3) := by decide +kernel
theorem dX11_told_102 : decode cX11_told 102 = .ok (.ireturn, 1) := by decide +kernel
theorem dX11_told_103 : decode cX11_told 103 = .ok (.aload_n 0, 1) := by decide +kernel
theorem dX11_told_104 : decode cX11_told 104 = .ok (.getfield 83, 3) := by decide +kernel
theorem dX11_told_107 : decode cX11_told 107 = .ok (.getfield 178, 3) := by decide +kernel
theorem dX11_told_110 : decode cX11_told 110 = .ok (.ifCond .eq 7, 3) := by decide +kernel
theorem dX11_told_113 : decode cX11_told 113 = .ok (.iconst 1, 1) := by decide +kernel
theorem dX11_told_114 : decode cX11_told 114 = .ok (.goto 4, 3) := by decide +kernel
theorem dX11_told_117 : decode cX11_told 117 = .ok (.iconst 0, 1) := by decide +kernel
theorem dX11_told_118 : decode cX11_told 118 = .ok (.ireturn, 1) := by decide +kernel
theorem dX11_told_119 : decode cX11_told 119 = .ok (.aload_n 0, 1) := by decide +kernel
theorem dX11_told_120 : decode cX11_told 120 = .ok (.getfield 83, 3) := by decide +kernel
theorem dX11_told_123 : decode cX11_told 123 = .ok (.getfield 178, 3) := by decide +kernel
theorem dX11_told_126 : decode cX11_told 126 = .ok (.ifCond .eq 17, 3) := by decide +kernel
theorem dX11_told_129 : decode cX11_told 129 = .ok (.aload_n 0, 1) := by decide +kernel
theorem dX11_told_130 : decode cX11_told 130 = .ok (.getfield 83, 3) := by decide +kernel
theorem dX11_told_133 : decode cX11_told 133 = .ok (.getfield 249, 3) := by decide +kernel
theorem dX11_told_136 : decode cX11_told 136 = .ok (.ifCond .eq 7, 3) := by decide +kernel
theorem dX11_told_139 : decode cX11_told 139 = .ok (.iconst 1, 1) := by decide +kernel
theorem dX11_told_140 : decode cX11_told 140 = .ok (.goto 4, 3) := by decide +kernel
theorem dX11_told_143 : decode cX11_told 143 = .ok (.iconst 0, 1) := by decide +kernel
theorem dX11_told_144 : decode cX11_told 144 = .ok (.ireturn, 1) := by decide +kernel
theorem dX11_told_145 : decode cX11_told 145 = .ok (.aload_n 0, 1) := by decide +kernel
theorem dX11_told_146 : decode cX11_told 146 = .ok (.getfield 83, 3) := by decide +kernel
theorem dX11_told_149 : decode cX11_told 149 = .ok (.getfield 174, 3) := by decide +kernel
theorem dX11_told_152 : decode cX11_told 152 = .ok (.ifCond .eq 7, 3) := by decide +kernel
theorem dX11_told_155 : decode cX11_told 155 = .ok (.iconst 1, 1) := by decide +kernel
theorem dX11_told_156 : decode cX11_told 156 = .ok (.goto 4, 3) := by decide +kernel
theorem dX11_told_159 : decode cX11_told 159 = .ok (.iconst 0, 1) := by decide +kernel
theorem dX11_told_160 : decode cX11_told 160 = .ok (.ireturn, 1) := by decide +kernel
theorem dX11_told_161 : decode cX11_told 161 = .ok (.iconst (-1), 1) := by decide +kernel
theorem dX11_told_162 : decode cX11_told 162 = .ok (.ireturn, 1) := by decide +kernel
theorem dX11_usedNumber_0 : decode cX11_usedNumber 0 = .ok (.iconst 0, 1) := by decide +kernel
theorem dX11_usedNumber_1 : decode cX11_usedNumber 1 = .ok (.istore_n 1, 1) := by decide +kernel
theorem dX11_usedNumber_2 : decode cX11_usedNumber 2 = .ok (.iconst 0, 1) := by decide +kernel
theorem dX11_usedNumber_3 : decode cX11_usedNumber 3 = .ok (.istore_n 2, 1) := by decide +kernel
theorem dX11_usedNumber_4 : decode cX11_usedNumber 4 = .ok (.iload_n 2, 1) := by decide +kernel
theorem dX11_usedNumber_5 : decode cX11_usedNumber 5 = .ok (.aload_n 0, 1) := by decide +kernel
theorem dX11_usedNumber_6 : decode cX11_usedNumber 6 = .ok (.getfield 9, 3) := by decide +kernel
theorem dX11_usedNumber_9 : decode cX11_usedNumber 9 = .ok (.if_icmp .ge 21, 3) := by decide +kernel
theorem dX11_usedNumber_12 : decode cX11_usedNumber 12 = .ok (.aload_n 0, 1) := by decide +kernel
theorem dX11_usedNumber_13 : decode cX11_usedNumber 13 = .ok (.getfield 23, 3) := by decide +kernel
theorem dX11_usedNumber_16 : decode cX11_usedNumber 16 = .ok (.iload_n 2, 1) := by decide +kernel
theorem dX11_usedNumber_17 : decode cX11_usedNumber 17 = .ok (.iaload, 1) := by decide +kernel
theorem dX11_usedNumber_18 : decode cX11_usedNumber 18 = .ok (.ifCond .le 6, 3) := by decide +kernel
theorem dX11_usedNumber_21 : decode cX11_usedNumber 21 = .ok (.iinc 1 1, 3) := by decide +kernel
theorem dX11_usedNumber_24 : decode cX11_usedNumber 24 = .ok (.iinc 2 1, 3) := by decide +kernel
theorem dX11_usedNumber_27 : decode cX11_usedNumber 27 = .ok (.goto (-23), 3) := by decide +kernel
theorem dX11_usedNumber_30 : decode cX11_usedNumber 30 = .ok (.iload_n 1, 1) := by decide +kernel
theorem dX11_usedNumber_31 : decode cX11_usedNumber 31 = .ok (.ireturn, 1) := by decide +kernel
theorem dX12_init_0 : decode cX12_init 0 = .ok (.aload_n 0, 1) := by decide +kernel
theorem dX12_init_1 : decode cX12_init 1 = .ok (.invokespecial 1, 3) := by decide +kernel
theorem dX12_init_4 : decode cX12_init 4 = .ok (.aload_n 0, 1) := by decide +kernel
theorem dX12_init_5 : decode cX12_init 5 = .ok (.sipush 600, 3) := by decide +kernel
theorem dX12_init_8 : decode cX12_init 8 = .ok (.newarray .int, 2) := by decide +kernel
theorem dX12_init_10 : decode cX12_init 10 = .ok (.putfield 7, 3) := by decide +kernel
theorem dX12_init_13 : decode cX12_init 13 = .ok (.aload_n 0, 1) := by decide +kernel
theorem dX12_init_14 : decode cX12_init 14 = .ok (.bipush 96, 2) := by decide +kernel
theorem dX12_init_16 : decode cX12_init 16 = .ok (.newarray .int, 2) := by decide +kernel
theorem dX12_init_18 : decode cX12_init 18 = .ok (.putfield 13, 3) := by decide +kernel
theorem dX12_init_21 : decode cX12_init 21 = .ok (.aload_n 0, 1) := by decide +kernel
theorem dX12_init_22 : decode cX12_init 22 = .ok (.bipush 96, 2) := by decide +kernel
theorem dX12_init_24 : decode cX12_init 24 = .ok (.newarray .int, 2) := by decide +kernel
theorem dX12_init_26 : decode cX12_init 26 = .ok (.putfield 16, 3) := by decide +kernel
theorem dX12_init_29 : decode cX12_init 29 = .ok (.aload_n 0, 1) := by decide +kernel
theorem dX12_init_30 : decode cX12_init 30 = .ok (.sipush 6000, 3) := by decide +kernel
theorem dX12_init_33 : decode cX12_init 33 = .ok (.newarray .boolean, 2) := by decide +kernel
theorem dX12_init_35 : decode cX12_init 35 = .ok (.putfield 19, 3) := by decide +kernel
theorem dX12_init_38 : decode cX12_init 38 = .ok (.aload_n 0, 1) := by decide +kernel
theorem dX12_init_39 : decode cX12_init 39 = .ok (.sipush 600, 3) := by decide +kernel
theorem dX12_init_42 : decode cX12_init 42 = .ok (.newarray .int, 2) := by decide +kernel
theorem dX12_init_44 : decode cX12_init 44 = .ok (.putfield 23, 3) := by decide +kernel
theorem dX12_init_47 : decode cX12_init 47 = .ok (.aload_n 0, 1) := by decide +kernel
theorem dX12_init_48 : decode cX12_init 48 = .ok (.iconst (-1), 1) := by decide +kernel
theorem dX12_init_49 : decode cX12_init 49 = .ok (.putfield 26, 3) := by decide +kernel
theorem dX12_init_52 : decode cX12_init 52 = .ok (.aload_n 0, 1) := by decide +kernel
theorem dX12_init_53 : decode cX12_init 53 = .ok (.bipush 96, 2) := by decide +kernel
theorem dX12_init_55 : decode cX12_init 55 = .ok (.newarray .int, 2) := by decide +kernel
theorem dX12_init_57 : decode cX12_init 57 = .ok (.putfield 30, 3) := by decide +kernel
theorem dX12_init_60 : decode cX12_init 60 = .ok (.aload_n 0, 1) := by decide +kernel
theorem dX12_init_61 : decode cX12_init 61 = .ok (.bipush 96, 2) := by decide +kernel
theorem dX12_init_63 : decode cX12_init 63 = .ok (.newarray .int, 2) := by decide +kernel
theorem dX12_init_65 : decode cX12_init 65 = .ok (.putfield 33, 3) := by decide +kernel
theorem dX12_init_68 : decode cX12_init 68 = .ok (.aload_n 0, 1) := by decide +kernel
theorem dX12_init_69 : decode cX12_init 69 = .ok (.bipush 96, 2) := by decide +kernel
theorem dX12_init_71 : decode cX12_init 71 = .ok (.newarray .int, 2) := by decide +kernel
theorem dX12_init_73 : decode cX12_init 73 = .ok (.putfield 36, 3) := by decide +kernel
theorem dX12_init_76 : decode cX12_init 76 = .ok (.aload_n 0, 1) := by decide +kernel
theorem dX12_init_77 : decode cX12_init 77 = .ok (.sipush 192, 3) := by decide +kernel
theorem dX12_init_80 : decode cX12_init 80 = .ok (.newarray .int, 2) := by decide +kernel
theorem dX12_init_82 : decode cX12_init 82 = .ok (.putfield 39, 3) := by decide +kernel
theorem dX12_init_85 : decode cX12_init 85 = .ok (.aload_n 0, 1) := by decide +kernel
theorem dX12_init_86 : decode cX12_init 86 = .ok (.sipush 192, 3) := by decide +kernel
theorem dX12_init_89 : decode cX12_init 89 = .ok (.newarray .int, 2) := by decide +kernel
theorem dX12_init_91 : decode cX12_init 91 = .ok (.putfield 42, 3) := by decide +kernel
theorem dX12_init_94 : decode cX12_init 94 = .ok (.aload_n 0, 1) := by decide +kernel
theorem dX12_init_95 : decode cX12_init 95 = .ok (.bipush 96, 2) := by decide +kernel
theorem dX12_init_97 : decode cX12_init 97 = .ok (.newarray .int, 2) := by decide +kernel
theorem dX12_init_99 : decode cX12_init 99 = .ok (.putfield 45, 3) := by decide +kernel
theorem dX12_init_102 : decode cX12_init 102 = .ok (.aload_n 0, 1) := by decide +kernel
theorem dX12_init_103 : decode cX12_init 103 = .ok (.sipush 4800, 3) := by decide +kernel
theorem dX12_init_106 : decode cX12_init 106 = .ok (.newarray .int, 2) := by decide +kernel
theorem dX12_init_108 : decode cX12_init 108 = .ok (.putfield 48, 3) := by decide +kernel
theorem dX12_init_111 : decode cX12_init 111 = .ok (.aload_n 0, 1) := by decide +kernel
theorem dX12_init_112 : decode cX12_init 112 = .ok (.sipush 4800, 3) := by decide +kernel
theorem dX12_init_115 : decode cX12_init 115 = .ok (.newarray .boolean, 2) := by decide +kernel
theorem dX12_init_117 : decode cX12_init 117 = .ok (.putfield 51, 3) := by decide +kernel
theorem dX12_init_120 : decode cX12_init 120 = .ok (.aload_n 0, 1) := by decide +kernel
theorem dX12_init_121 : decode cX12_init 121 = .ok (.bipush 25, 2) := by decide +kernel
theorem dX12_init_123 : decode cX12_init 123 = .ok (.newarray .int, 2) := by decide +kernel
theorem dX12_init_125 : decode cX12_init 125 = .ok (.putfield 54, 3) := by decide +kernel
theorem dX12_init_128 : decode cX12_init 128 = .ok (.aload_n 0, 1) := by decide +kernel
theorem dX12_init_129 : decode cX12_init 129 = .ok (.sipush 9409, 3) := by decide +kernel
theorem dX12_init_132 : decode cX12_init 132 = .ok (.newarray .int, 2) := by decide +kernel
theorem dX12_init_134 : decode cX12_init 134 = .ok (.putfield 57, 3) := by decide +kernel
theorem dX12_init_137 : decode cX12_init 137 = .ok (.aload_n 0, 1) := by decide +kernel
theorem dX12_init_138 : decode cX12_init 138 = .ok (.sipush 9409, 3) := by decide +kernel
theorem dX12_init_141 : decode cX12_init 141 = .ok (.newarray .int, 2) := by decide +kernel
theorem dX12_init_143 : decode cX12_init 143 = .ok (.putfield 60, 3) := by decide +kernel
theorem dX12_init_146 : decode cX12_init 146 = .ok (.aload_n 0, 1) := by decide +kernel
theorem dX12_init_147 : decode cX12_init 147 = .ok (.sipush 400, 3) := by decide +kernel
theorem dX12_init_150 : decode cX12_init 150 = .ok (.newarray .int, 2) := by decide +kernel
theorem dX12_init_152 : decode cX12_init 152 = .ok (.putfield 63, 3) := by decide +kernel
theorem dX12_init_155 : decode cX12_init 155 = .ok (.aload_n 0, 1) := by decide +kernel
theorem dX12_init_156 : decode cX12_init 156 = .ok (.bipush 96, 2) := by decide +kernel
theorem dX12_init_158 : decode cX12_init 158 = .ok (.newarray .int, 2) := by decide +kernel
theorem dX12_init_160 : decode cX12_init 160 = .ok (.putfield 66, 3) := by decide +kernel
theorem dX12_init_163 : decode cX12_init 163 = .ok (.aload_n 0, 1) := by decide +kernel
theorem dX12_init_164 : decode cX12_init 164 = .ok (.sipush 600, 3) := by decide +kernel
theorem dX12_init_167 : decode cX12_init 167 = .ok (.newarray .int, 2) := by decide +kernel
theorem dX12_init_169 : decode cX12_init 169 = .ok (.putfield 69, 3) := by decide +kernel
theorem dX12_init_172 : decode cX12_init 172 = .ok (.aload_n 0, 1) := by decide +kernel
theorem dX12_init_173 : decode cX12_init 173 = .ok (.bipush 16, 2) := by decide +kernel
theorem dX12_init_175 : decode cX12_init 175 = .ok (.newarray .int, 2) := by decide +kernel
theorem dX12_init_177 : decode cX12_init 177 = .ok (.putfield 72, 3) := by decide +kernel
theorem dX12_init_180 : decode cX12_init 180 = .ok (.aload_n 0, 1) := by decide +kernel
theorem dX12_init_181 : decode cX12_init 181 = .ok (.bipush 16, 2) := by decide +kernel
theorem dX12_init_183 : decode cX12_init 183 = .ok (.newarray .int, 2) := by decide +kernel
theorem dX12_init_185 : decode cX12_init 185 = .ok (.putfield 75, 3) := by decide +kernel
theorem dX12_init_188 : decode cX12_init 188 = .ok (.aload_n 0, 1) := by decide +kernel
theorem dX12_init_189 : decode cX12_init 189 = .ok (.bipush 32, 2) := by decide +kernel
theorem dX12_init_191 : decode cX12_init 191 = .ok (.newarray .int, 2) := by decide +kernel
theorem dX12_init_193 : decode cX12_init 193 = .ok (.putfield 78, 3) := by decide +kernel
theorem dX12_init_196 : decode cX12_init 196 = .ok (.aload_n 0, 1) := by decide +kernel
theorem dX12_init_197 : decode cX12_init 197 = .ok (.sipush 1024, 3) := by decide +kernel
theorem dX12_init_200 : decode cX12_init 200 = .ok (.newarray .int, 2) := by decide +kernel
theorem dX12_init_202 : decode cX12_init 202 = .ok (.putfield 81, 3) := by decide +kernel
theorem dX12_init_205 : decode cX12_init 205 = .ok (.aload_n 0, 1) := by decide +kernel
theorem dX12_init_206 : decode cX12_init 206 = .ok (.sipush 1024, 3) := by decide +kernel
theorem dX12_init_209 : decode cX12_init 209 = .ok (.newarray .int, 2) := by decide +kernel
theorem dX12_init_211 : decode cX12_init 211 = .ok (.putfield 84, 3) := by decide +kernel
theorem dX12_init_214 : decode cX12_init 214 = .ok (.aload_n 0, 1) := by decide +kernel
theorem dX12_init_215 : decode cX12_init 215 = .ok (.sipush 1024, 3) := by decide +kernel
theorem dX12_init_218 : decode cX12_init 218 = .ok (.newarray .int, 2) := by decide +kernel
theorem dX12_init_220 : decode cX12_init 220 = .ok (.putfield 87, 3) := by decide +kernel
theorem dX12_init_223 : decode cX12_init 223 = .ok (.aload_n 0, 1) := by decide +kernel
theorem dX12_init_224 : decode cX12_init 224 = .ok (.sipush 1024, 3) := by decide +kernel
theorem dX12_init_227 : decode cX12_init 227 = .ok (.newarray .int, 2) := by decide +kernel
theorem dX12_init_229 : decode cX12_init 229 = .ok (.putfield 90, 3) := by decide +kernel
theorem dX12_init_232 : decode cX12_init 232 = .ok (.aload_n 0, 1) := by decide +kernel
theorem dX12_init_233 : decode cX12_init 233 = .ok (.iload_n 1, 1) := by decide +kernel
theorem dX12_init_234 : decode cX12_init 234 = .ok (.iconst 2, 1) := by decide +kernel
theorem dX12_init_235 : decode cX12_init 235 = .ok (.if_icmp .lt 9, 3) := by decide +kernel
theorem dX12_init_238 : decode cX12_init 238 = .ok (.iload_n 1, 1) := by decide +kernel
theorem dX12_init_239 : decode cX12_init 239 = .ok (.bipush 96, 2) := by decide +kernel
theorem dX12_init_241 : decode cX12_init 241 = .ok (.if_icmp .le 8, 3) := by decide +kernel
theorem dX12_init_244 : decode cX12_init 244 = .ok (.bipush 16, 2) := by decide +kernel
theorem dX12_init_246 : decode cX12_init 246 = .ok (.goto 4, 3) := by decide +kernel
theorem dX12_init_249 : decode cX12_init 249 = .ok (.iload_n 1, 1) := by decide +kernel
theorem dX12_init_250 : decode cX12_init 250 = .ok (.putfield 93, 3) := by decide +kernel
theorem dX12_init_253 : decode cX12_init 253 = .ok (.aload_n 0, 1) := by decide +kernel
theorem dX12_init_254 : decode cX12_init 254 = .ok (.iload_n 2, 1) := by decide +kernel
theorem dX12_init_255 : decode cX12_init 255 = .ok (.iconst 1, 1) := by decide +kernel
theorem dX12_init_256 : decode cX12_init 256 = .ok (.if_icmp .lt 9, 3) := by decide +kernel
theorem dX12_init_259 : decode cX12_init 259 = .ok (.iload_n 2, 1) := by decide +kernel
theorem dX12_init_260 : decode cX12_init 260 = .ok (.bipush 24, 2) := by decide +kernel
theorem dX12_init_262 : decode cX12_init 262 = .ok (.if_icmp .le 8, 3) := by decide +kernel
theorem dX12_init_265 : decode cX12_init 265 = .ok (.bipush 15, 2) := by decide +kernel
theorem dX12_init_267 : decode cX12_init 267 = .ok (.goto 4, 3) := by decide +kernel
theorem dX12_init_270 : decode cX12_init 270 = .ok (.iload_n 2, 1) := by decide +kernel
theorem dX12_init_271 : decode cX12_init 271 = .ok (.putfield 96, 3) := by decide +kernel
theorem dX12_init_274 : decode cX12_init 274 = .ok (.return_, 1) := by decide +kernel
theorem dX12_within_0 : decode cX12_within 0 = .ok (.iload_n 0, 1) := by decide +kernel
theorem dX12_within_1 : decode cX12_within 1 = .ok (.iload_n 1, 1) := by decide +kernel
theorem dX12_within_2 : decode cX12_within 2 = .ok (.if_icmp .lt 12, 3) := by decide +kernel
theorem dX12_within_5 : decode cX12_within 5 = .ok (.iload_n 0, 1) := by decide +kernel
theorem dX12_within_6 : decode cX12_within 6 = .ok (.iload_n 2, 1) := by decide +kernel
theorem dX12_within_7 : decode cX12_within 7 = .ok (.if_icmp .gt 7, 3) := by decide +kernel
theorem dX12_within_10 : decode cX12_within 10 = .ok (.iconst 1, 1) := by decide +kernel
theorem dX12_within_11 : decode cX12_within 11 = .ok (.goto 4, 3) := by decide +kernel
theorem dX12_within_14 : decode cX12_within 14 = .ok (.iconst 0, 1) := by decide +kernel
theorem dX12_within_15 : decode cX12_within 15 = .ok (.ireturn, 1) := by decide +kernel
set_option maxRecDepth 20000 in
theorem ggX12_isSymbol_X12_within : GoodIn wsX12_isSymbol wsX12_within := goodIn_r _ [5] (by decide +kernel) (by decide +kernel)
set_option maxRecDepth 20000 in
theorem gX12_isSymbol_X12_within : GoodIn wsX12_isSymbol (va_wsS RX12 99 yX12_within wsX12_within) := goodIn_app (goodIn_of _ (by decide +kernel)) ggX12_isSymbol_X12_within
theorem dX12_isSymbol_0 : decode cX12_isSymbol 0 = .ok (.iload_n 1, 1) := by decide +kernel
theorem dX12_isSymbol_1 : decode cX12_isSymbol 1 = .ok (.iconst 0, 1) := by decide +kernel
theorem dX12_isSymbol_2 : decode cX12_isSymbol 2 = .ok (.aload_n 0, 1) := by decide +kernel
theorem dX12_isSymbol_3 : decode cX12_isSymbol 3 = .ok (.getfield 93, 3) := by decide +kernel
theorem dX12_isSymbol_6 : decode cX12_isSymbol 6 = .ok (.iconst 1, 1) := by decide +kernel
theorem dX12_isSymbol_7 : decode cX12_isSymbol 7 = .ok (.isub, 1) := by decide +kernel
theorem dX12_isSymbol_8 : decode cX12_isSymbol 8 = .ok (.invokestatic 99, 3) := by decide +kernel
theorem dX12_isSymbol_11 : decode cX12_isSymbol 11 = .ok (.ireturn, 1) := by decide +kernel
set_option maxRecDepth 20000 in
theorem ggX12_feed_X12_isSymbol : GoodIn wsX12_feed wsX12_isSymbol := goodIn_r _ [7, 8, 9, 10, 6, 11, 12, 13, 14, 15, 16, 17, 18, 19, 20, 21, 22, 23, 24, 25, 26, 27, 28, 29, 30, 31, 32, 33, 34, 35, 36, 37, 38, 39, 40, 41, 42, 43, 44, 45, 46, 47, 48, 49, 50] (by decide +kernel) (by decide +kernel)
set_option maxRecDepth 20000 in
theorem gX12_feed_X12_isSymbol : GoodIn wsX12_feed (wsV RX12 103 RX12 yX12_isSymbol wsX12_isSymbol) := goodIn_app (goodIn_of _ (by decide +kernel)) ggX12_feed_X12_isSymbol
theorem dX12_feed_0 : decode cX12_feed 0 = .ok (.aload_n 0, 1) := by decide +kernel
theorem dX12_feed_1 : decode cX12_feed 1 = .ok (.iload_n 1, 1) := by decide +kernel
theorem dX12_feed_2 : decode cX12_feed 2 = .ok (.invokevirtual 103, 3) := by decide +kernel
theorem dX12_feed_5 : decode cX12_feed 5 = .ok (.ifCond .ne 5, 3) := by decide +kernel
theorem dX12_feed_8 : decode cX12_feed 8 = .ok (.iconst (-1), 1) := by decide +kernel
theorem dX12_feed_9 : decode cX12_feed 9 = .ok (.ireturn, 1) := by decide +kernel
theorem dX12_feed_10 : decode cX12_feed 10 = .ok (.aload_n 0, 1) := by decide +kernel
theorem dX12_feed_11 : decode cX12_feed 11 = .ok (.getfield 107, 3) := by decide +kernel
theorem dX12_feed_14 : decode cX12_feed 14 = .ok (.sipush 600, 3) := by decide +kernel
theorem dX12_feed_17 : decode cX12_feed 17 = .ok (.if_icmp .ne 6, 3) := by decide +kernel
theorem dX12_feed_20 : decode cX12_feed 20 = .ok (.bipush (-2), 2) := by decide +kernel
theorem dX12_feed_22 : decode cX12_feed 22 = .ok (.ireturn, 1) := by decide +kernel
theorem dX12_feed_23 : decode cX12_feed 23 = .ok (.aload_n 0, 1) := by decide +kernel
theorem dX12_feed_24 : decode cX12_feed 24 = .ok (.getfield 7, 3) := by decide +kernel
theorem dX12_feed_27 : decode cX12_feed 27 = .ok (.aload_n 0, 1) := by decide +kernel
theorem dX12_feed_28 : decode cX12_feed 28 = .ok (.getfield 107, 3) := by decide +kernel
theorem dX12_feed_31 : decode cX12_feed 31 = .ok (.iload_n 1, 1) := by decide +kernel
theorem dX12_feed_32 : decode cX12_feed 32 = .ok (.iastore, 1) := by decide +kernel
theorem dX12_feed_33 : decode cX12_feed 33 = .ok (.aload_n 0, 1) := by decide +kernel
theorem dX12_feed_34 : decode cX12_feed 34 = .ok (.dup, 1) := by decide +kernel
theorem dX12_feed_35 : decode cX12_feed 35 = .ok (.getfield 107, 3) := by decide +kernel
theorem dX12_feed_38 : decode cX12_feed 38 = .ok (.iconst 1, 1) := by decide +kernel
theorem dX12_feed_39 : decode cX12_feed 39 = .ok (.iadd, 1) := by decide +kernel
theorem dX12_feed_40 : decode cX12_feed 40 = .ok (.putfield 107, 3) := by decide +kernel
theorem dX12_feed_43 : decode cX12_feed 43 = .ok (.aload_n 0, 1) := by decide +kernel
theorem dX12_feed_44 : decode cX12_feed 44 = .ok (.getfield 107, 3) := by decide +kernel
theorem dX12_feed_47 : decode cX12_feed 47 = .ok (.ireturn, 1) := by decide +kernel
set_option maxRecDepth 20000 in
theorem ggX12_feedAll_X12_within : GoodIn wsX12_feedAll wsX12_within := goodIn_r _ [7] (by decide +kernel) (by decide +kernel)
set_option maxRecDepth 20000 in
theorem gX12_feedAll_X12_within : GoodIn wsX12_feedAll (va_wsS RX12 99 yX12_within wsX12_within) := goodIn_app (goodIn_of _ (by decide +kernel)) ggX12_feedAll_X12_within
set_option maxRecDepth 20000 in
theorem ggX12_feedAll_X12_isSymbol : GoodIn wsX12_feedAll wsX12_isSymbol := goodIn_r _ [11, 12, 4, 5, 6, 7, 13, 14, 15, 16, 17, 18, 19, 20, 21, 22, 23, 24, 25, 26, 27, 28, 29, 30, 31, 32, 33, 34, 35, 36, 37, 38, 39, 40, 41, 42, 43, 44, 45, 46, 47, 48, 49, 50, 51] (by decide +kernel) (by decide +kernel)
set_option maxRecDepth 20000 in
theorem gX12_feedAll_X12_isSymbol : GoodIn wsX12_feedAll (wsV RX12 103 RX12 yX12_isSymbol wsX12_isSymbol) := goodIn_app (goodIn_of _ (by decide +kernel)) ggX12_feedAll_X12_isSymbol
theorem dX12_feedAll_0 : decode cX12_feedAll 0 = .ok (.iload_n 3, 1) := by decide +kernel
theorem dX12_feedAll_1 : decode cX12_feedAll 1 = .ok (.iconst 1, 1) := by decide +kernel
theorem dX12_feedAll_2 : decode cX12_feedAll 2 = .ok (.bipush 10, 2) := by decide +kernel
theorem dX12_feedAll_4 : decode cX12_feedAll 4 = .ok (.invokestatic 99, 3) := by decide +kernel
theorem dX12_feedAll_7 : decode cX12_feedAll 7 = .ok (.ifCond .ne 5, 3) := by decide +kernel
theorem dX12_feedAll_10 : decode cX12_feedAll 10 = .ok (.iconst (-1), 1) := by decide +kernel
theorem dX12_feedAll_11 : decode cX12_feedAll 11 = .ok (.ireturn, 1) := by decide +kernel
theorem dX12_feedAll_12 : decode cX12_feedAll 12 = .ok (.iconst 0, 1) := by decide +kernel
theorem dX12_feedAll_13 : decode cX12_feedAll 13 = .ok (.istore 4, 2) := by decide +kernel
theorem dX12_feedAll_15 : decode cX12_feedAll 15 = .ok (.iload 4, 2) := by decide +kernel
theorem dX12_feedAll_17 : decode cX12_feedAll 17 = .ok (.iload_n 3, 1) := by decide +kernel
theorem dX12_feedAll_18 : decode cX12_feedAll 18 = .ok (.if_icmp .ge 30, 3) := by decide +kernel
theorem dX12_feedAll_21 : decode cX12_feedAll 21 = .ok (.aload_n 0, 1) := by decide +kernel
theorem dX12_feedAll_22 : decode cX12_feedAll 22 = .ok (.lload_n 1, 1) := by decide +kernel
theorem dX12_feedAll_23 : decode cX12_feedAll 23 = .ok (.bipush 6, 2) := by decide +kernel
theorem dX12_feedAll_25 : decode cX12_feedAll 25 = .ok (.iload 4, 2) := by decide +kernel
theorem dX12_feedAll_27 : decode cX12_feedAll 27 = .ok (.imul, 1) := by decide +kernel
theorem dX12_feedAll_28 : decode cX12_feedAll 28 = .ok (.lshr, 1) := by decide +kernel
theorem dX12_feedAll_29 : decode cX12_feedAll 29 = .ok (.ldc2_w 110, 3) := by decide +kernel
theorem dX12_feedAll_32 : decode cX12_feedAll 32 = .ok (.land, 1) := by decide +kernel
theorem dX12_feedAll_33 : decode cX12_feedAll 33 = .ok (.l2i, 1) := by decide +kernel
theorem dX12_feedAll_34 : decode cX12_feedAll 34 = .ok (.invokevirtual 103, 3) := by decide +kernel
theorem dX12_feedAll_37 : decode cX12_feedAll 37 = .ok (.ifCond .ne 5, 3) := by decide +kernel
theorem dX12_feedAll_40 : decode cX12_feedAll 40 = .ok (.iconst (-1), 1) := by decide +kernel
theorem dX12_feedAll_41 : decode cX12_feedAll 41 = .ok (.ireturn, 1) := by decide +kernel
theorem dX12_feedAll_42 : decode cX12_feedAll 42 = .ok (.iinc 4 1, 3) := by decide +kernel
theorem dX12_feedAll_45 : decode cX12_feedAll 45 = .ok (.goto (-30), 3) := by decide +kernel
theorem dX12_feedAll_48 : decode cX12_feedAll 48 = .ok (.aload_n 0, 1) := by decide +kernel
theorem dX12_feedAll_49 : decode cX12_feedAll 49 = .ok (.getfield 107, 3) := by decide +kernel
theorem dX12_feedAll_52 : decode cX12_feedAll 52 = .ok (.iload_n 3, 1) := by decide +kernel
theorem dX12_feedAll_53 : decode cX12_feedAll 53 = .ok (.iadd, 1) := by decide +kernel
theorem dX12_feedAll_54 : decode cX12_feedAll 54 = .ok (.sipush 600, 3) := by decide +kernel
theorem dX12_feedAll_57 : decode cX12_feedAll 57 = .ok (.if_icmp .le 6, 3) := by decide +kernel
theorem dX12_feedAll_60 : decode cX12_feedAll 60 = .ok (.bipush (-2), 2) := by decide +kernel
theorem dX12_feedAll_62 : decode cX12_feedAll 62 = .ok (.ireturn, 1) := by decide +kernel
theorem dX12_feedAll_63 : decode cX12_feedAll 63 = .ok (.iconst 0, 1) := by decide +kernel
theorem dX12_feedAll_64 : decode cX12_feedAll 64 = .ok (.istore 4, 2) := by decide +kernel
theorem dX12_feedAll_66 : decode cX12_feedAll 66 = .ok (.iload 4, 2) := by decide +kernel
theorem dX12_feedAll_68 : decode cX12_feedAll 68 = .ok (.iload_n 3, 1) := by decide +kernel
theorem dX12_feedAll_69 : decode cX12_feedAll 69 = .ok (.if_icmp .ge 40, 3) := by decide +kernel
theorem dX12_feedAll_72 : decode cX12_feedAll 72 = .ok (.aload_n 0, 1) := by decide +kernel
theorem dX12_feedAll_73 : decode cX12_feedAll 73 = .ok (.getfield 7, 3) := by decide +kernel
theorem dX12_feedAll_76 : decode cX12_feedAll 76 = .ok (.aload_n 0, 1) := by decide +kernel
theorem dX12_feedAll_77 : decode cX12_feedAll 77 = .ok (.getfield 107, 3) := by decide +kernel
theorem dX12_feedAll_80 : decode cX12_feedAll 80 = .ok (.lload_n 1, 1) := by decide +kernel
theorem dX12_feedAll_81 : decode cX12_feedAll 81 = .ok (.bipush 6, 2) := by decide +kernel
theorem dX12_feedAll_83 : decode cX12_feedAll 83 = .ok (.iload 4, 2) := by decide +kernel
theorem dX12_feedAll_85 : decode cX12_feedAll 85 = .ok (.imul, 1) := by decide +kernel
theorem dX12_feedAll_86 : decode cX12_feedAll 86 = .ok (.lshr, 1) := by decide +kernel
theorem dX12_feedAll_87 : decode cX12_feedAll 87 = .ok (.ldc2_w 110, 3) := by decide +kernel
theorem dX12_feedAll_90 : decode cX12_feedAll 90 = .ok (.land, 1) := by decide +kernel
theorem dX12_feedAll_91 : decode cX12_feedAll 91 = .ok (.l2i, 1) := by decide +kernel
theorem dX12_feedAll_92 : decode cX12_feedAll 92 = .ok (.iastore, 1) := by decide +kernel
theorem dX12_feedAll_93 : decode cX12_feedAll 93 = .ok (.aload_n 0, 1) := by decide +kernel
theorem dX12_feedAll_94 : decode cX12_feedAll 94 = .ok (.dup, 1) := by decide +kernel
theorem dX12_feedAll_95 : decode cX12_feedAll 95 = .ok (.getfield 107, 3) := by decide +kernel
theorem dX12_feedAll_98 : decode cX12_feedAll 98 = .ok (.iconst 1, 1) := by decide +kernel
theorem dX12_feedAll_99 : decode cX12_feedAll 99 = .ok (.iadd, 1) := by decide +kernel
theorem dX12_feedAll_100 : decode cX12_feedAll 100 = .ok (.putfield 107, 3) := by decide +kernel
theorem dX12_feedAll_103 : decode cX12_feedAll 103 = .ok (.iinc 4 1, 3) := by decide +kernel
theorem dX12_feedAll_106 : decode cX12_feedAll 106 = .ok (.goto (-40), 3) := by decide +kernel
theorem dX12_feedAll_109 : decode cX12_feedAll 109 = .ok (.aload_n 0, 1) := by decide +kernel
theorem dX12_feedAll_110 : decode cX12_feedAll 110 = .ok (.getfield 107, 3) := by decide +kernel
theorem dX12_feedAll_113 : decode cX12_feedAll 113 = .ok (.ireturn, 1) := by decide +kernel
theorem dX12_clear_0 : decode cX12_clear 0 = .ok (.aload_n 0, 1) := by decide +kernel
theorem dX12_clear_1 : decode cX12_clear 1 = .ok (.getfield 107, 3) := by decide +kernel
theorem dX12_clear_4 : decode cX12_clear 4 = .ok (.istore_n 1, 1) := by decide +kernel
theorem dX12_clear_5 : decode cX12_clear 5 = .ok (.aload_n 0, 1) := by decide +kernel
theorem dX12_clear_6 : decode cX12_clear 6 = .ok (.iconst 0, 1) := by decide +kernel
theorem dX12_clear_7 : decode cX12_clear 7 = .ok (.putfield 107, 3) := by decide +kernel
theorem dX12_clear_10 : decode cX12_clear 10 = .ok (.iload_n 1, 1) := by decide +kernel
theorem dX12_clear_11 : decode cX12_clear 11 = .ok (.ireturn, 1) := by decide +kernel
theorem dX12_countOf_0 : decode cX12_countOf 0 = .ok (.iconst 0, 1) := by decide +kernel
theorem dX12_countOf_1 : decode cX12_countOf 1 = .ok (.istore_n 2, 1) := by decide +kernel
theorem dX12_countOf_2 : decode cX12_countOf 2 = .ok (.iconst 0, 1) := by decide +kernel
theorem dX12_countOf_3 : decode cX12_countOf 3 = .ok (.istore_n 3, 1) := by decide +kernel
theorem dX12_countOf_4 : decode cX12_countOf 4 = .ok (.iload_n 3, 1) := by decide +kernel
theorem dX12_countOf_5 : decode cX12_countOf 5 = .ok (.aload_n 0, 1) := by decide +kernel
theorem dX12_countOf_6 : decode cX12_countOf 6 = .ok (.getfield 107, 3) := by decide +kernel
theorem dX12_countOf_9 : decode cX12_countOf 9 = .ok (.if_icmp .ge 27, 3) := by decide +kernel
theorem dX12_countOf_12 : decode cX12_countOf 12 = .ok (.iload_n 2, 1) := by decide +kernel
theorem dX12_countOf_13 : decode cX12_countOf 13 = .ok (.aload_n 0, 1) := by decide +kernel
theorem dX12_countOf_14 : decode cX12_countOf 14 = .ok (.getfield 7, 3) := by decide +kernel
theorem dX12_countOf_17 : decode cX12_countOf 17 = .ok (.iload_n 3, 1) := by decide +kernel
theorem dX12_countOf_18 : decode cX12_countOf 18 = .ok (.iaload, 1) := by decide +kernel
theorem dX12_countOf_19 : decode cX12_countOf 19 = .ok (.iload_n 1, 1) := by decide +kernel
theorem dX12_countOf_20 : decode cX12_countOf 20 = .ok (.if_icmp .ne 7, 3) := by decide +kernel
theorem dX12_countOf_23 : decode cX12_countOf 23 = .ok (.iconst 1, 1) := by decide +kernel
theorem dX12_countOf_24 : decode cX12_countOf 24 = .ok (.goto 4, 3) := by decide +kernel
theorem dX12_countOf_27 : decode cX12_countOf 27 = .ok (.iconst 0, 1) := by decide +kernel
theorem dX12_countOf_28 : decode cX12_countOf 28 = .ok (.iadd, 1) := by decide +kernel
theorem dX12_countOf_29 : decode cX12_countOf 29 = .ok (.istore_n 2, 1) := by decide +kernel
theorem dX12_countOf_30 : decode cX12_countOf 30 = .ok (.iinc 3 1, 3) := by decide +kernel
theorem dX12_countOf_33 : decode cX12_countOf 33 = .ok (.goto (-29), 3) := by decide +kernel
theorem dX12_countOf_36 : decode cX12_countOf 36 = .ok (.iload_n 2, 1) := by decide +kernel
theorem dX12_countOf_37 : decode cX12_countOf 37 = .ok (.ireturn, 1) := by decide +kernel
set_option maxRecDepth 20000 in
theorem ggX12_count_X12_isSymbol : GoodIn wsX12_count wsX12_isSymbol := goodIn_r _ [5, 6, 7, 8, 4, 9, 16, 17, 18, 19, 20, 21, 22, 23, 24, 25, 26, 27, 28, 29, 30, 31, 32, 33, 34, 35, 36, 37, 38, 39, 40, 41, 42, 43, 44, 45, 46, 47, 48, 49, 50, 51, 52, 53, 54] (by decide +kernel) (by decide +kernel)
set_option maxRecDepth 20000 in
theorem gX12_count_X12_isSymbol : GoodIn wsX12_count (wsV RX12 103 RX12 yX12_isSymbol wsX12_isSymbol) := goodIn_app (goodIn_of _ (by decide +kernel)) ggX12_count_X12_isSymbol
set_option maxRecDepth 20000 in
theorem ggX12_count_X12_countOf : GoodIn wsX12_count wsX12_countOf := goodIn_r _ [13, 14, 15, 16, 17, 18, 19, 20, 21, 22, 23, 24, 25, 26, 27, 28, 29, 30, 31, 32, 33, 34, 35, 36, 37, 38, 39, 40, 41, 42, 43, 44, 45, 46, 47, 48, 49, 50, 51, 52, 53, 54] (by decide +kernel) (by decide +kernel)
set_option maxRecDepth 20000 in
theorem gX12_count_X12_countOf : GoodIn wsX12_count (wsV RX12 112 RX12 yX12_countOf wsX12_countOf) := goodIn_app (goodIn_of _ (by decide +kernel)) ggX12_count_X12_countOf
theorem dX12_count_0 : decode cX12_count 0 = .ok (.aload_n 0, 1) := by decide +kernel
theorem dX12_count_1 : decode cX12_count 1 = .ok (.iload_n 1, 1) := by decide +kernel
theorem dX12_count_2 : decode cX12_count 2 = .ok (.invokevirtual 103, 3) := by decide +kernel
theorem dX12_count_5 : decode cX12_count 5 = .ok (.ifCond .eq 11, 3) := by decide +kernel
theorem dX12_count_8 : decode cX12_count 8 = .ok (.aload_n 0, 1) := by decide +kernel
theorem dX12_count_9 : decode cX12_count 9 = .ok (.iload_n 1, 1) := by decide +kernel
theorem dX12_count_10 : decode cX12_count 10 = .ok (.invokevirtual 112, 3) := by decide +kernel
theorem dX12_count_13 : decode cX12_count 13 = .ok (.goto 4, 3) := by decide +kernel
theorem dX12_count_16 : decode cX12_count 16 = .ok (.iconst (-1), 1) := by decide +kernel
theorem dX12_count_17 : decode cX12_count 17 = .ok (.ireturn, 1) := by decide +kernel
set_option maxRecDepth 20000 in
theorem ggX12_findUsed_X12_countOf : GoodIn wsX12_findUsed wsX12_countOf := goodIn_r _ [9, 10, 11, 12, 13, 14, 15, 16, 17, 18, 19, 20, 21, 22, 23, 24, 25, 26, 27, 28, 29, 30, 31, 32, 33, 34, 35, 36, 37, 38, 39, 40, 41, 42, 43, 44, 45, 46, 47, 48, 49, 50] (by decide +kernel) (by decide +kernel)
set_option maxRecDepth 20000 in
theorem gX12_findUsed_X12_countOf : GoodIn wsX12_findUsed (wsV RX12 112 RX12 yX12_countOf wsX12_countOf) := goodIn_app (goodIn_of _ (by decide +kernel)) ggX12_findUsed_X12_countOf
theorem dX12_findUsed_0 : decode cX12_findUsed 0 = .ok (.aload_n 0, 1) := by decide +kernel
theorem dX12_findUsed_1 : decode cX12_findUsed 1 = .ok (.iconst 0, 1) := by decide +kernel
theorem dX12_findUsed_2 : decode cX12_findUsed 2 = .ok (.putfield 116, 3) := by decide +kernel
theorem dX12_findUsed_5 : decode cX12_findUsed 5 = .ok (.iconst 0, 1) := by decide +kernel
theorem dX12_findUsed_6 : decode cX12_findUsed 6 = .ok (.istore_n 1, 1) := by decide +kernel
theorem dX12_findUsed_7 : decode cX12_findUsed 7 = .ok (.iload_n 1, 1) := by decide +kernel
theorem dX12_findUsed_8 : decode cX12_findUsed 8 = .ok (.aload_n 0, 1) := by decide +kernel
theorem dX12_findUsed_9 : decode cX12_findUsed 9 = .ok (.getfield 93, 3) := by decide +kernel
theorem dX12_findUsed_12 : decode cX12_findUsed 12 = .ok (.if_icmp .ge 49, 3) := by decide +kernel
theorem dX12_findUsed_15 : decode cX12_findUsed 15 = .ok (.aload_n 0, 1) := by decide +kernel
theorem dX12_findUsed_16 : decode cX12_findUsed 16 = .ok (.iload_n 1, 1) := by decide +kernel
theorem dX12_findUsed_17 : decode cX12_findUsed 17 = .ok (.invokevirtual 112, 3) := by decide +kernel
theorem dX12_findUsed_20 : decode cX12_findUsed 20 = .ok (.istore_n 2, 1) := by decide +kernel
theorem dX12_findUsed_21 : decode cX12_findUsed 21 = .ok (.iload_n 2, 1) := by decide +kernel
theorem dX12_findUsed_22 : decode cX12_findUsed 22 = .ok (.ifCond .le 33, 3) := by decide +kernel
theorem dX12_findUsed_25 : decode cX12_findUsed 25 = .ok (.aload_n 0, 1) := by decide +kernel
theorem dX12_findUsed_26 : decode cX12_findUsed 26 = .ok (.getfield 30, 3) := by decide +kernel
theorem dX12_findUsed_29 : decode cX12_findUsed 29 = .ok (.aload_n 0, 1) := by decide +kernel
theorem dX12_findUsed_30 : decode cX12_findUsed 30 = .ok (.getfield 116, 3) := by decide +kernel
theorem dX12_findUsed_33 : decode cX12_findUsed 33 = .ok (.iload_n 1, 1) := by decide +kernel
theorem dX12_findUsed_34 : decode cX12_findUsed 34 = .ok (.iastore, 1) := by decide +kernel
theorem dX12_findUsed_35 : decode cX12_findUsed 35 = .ok (.aload_n 0, 1) := by decide +kernel
theorem dX12_findUsed_36 : decode cX12_findUsed 36 = .ok (.getfield 33, 3) := by decide +kernel
theorem dX12_findUsed_39 : decode cX12_findUsed 39 = .ok (.aload_n 0, 1) := by decide +kernel
theorem dX12_findUsed_40 : decode cX12_findUsed 40 = .ok (.getfield 116, 3) := by decide +kernel
theorem dX12_findUsed_43 : decode cX12_findUsed 43 = .ok (.iload_n 2, 1) := by decide +kernel
theorem dX12_findUsed_44 : decode cX12_findUsed 44 = .ok (.iastore, 1) := by decide +kernel
theorem dX12_findUsed_45 : decode cX12_findUsed 45 = .ok (.aload_n 0, 1) := by decide +kernel
theorem dX12_findUsed_46 : decode cX12_findUsed 46 = .ok (.dup, 1) := by decide +kernel
theorem dX12_findUsed_47 : decode cX12_findUsed 47 = .ok (.getfield 116, 3) := by decide +kernel
theorem dX12_findUsed_50 : decode cX12_findUsed 50 = .ok (.iconst 1, 1) := by decide +kernel
theorem dX12_findUsed_51 : decode cX12_findUsed 51 = .ok (.iadd, 1) := by decide +kernel
theorem dX12_findUsed_52 : decode cX12_findUsed 52 = .ok (.putfield 116, 3) := by decide +kernel
theorem dX12_findUsed_55 : decode cX12_findUsed 55 = .ok (.iinc 1 1, 3) := by decide +kernel
theorem dX12_findUsed_58 : decode cX12_findUsed 58 = .ok (.goto (-51), 3) := by decide +kernel
theorem dX12_findUsed_61 : decode cX12_findUsed 61 = .ok (.return_, 1) := by decide +kernel
theorem dX12_goUp_0 : decode cX12_goUp 0 = .ok (.iconst 0, 1) := by decide +kernel
theorem dX12_goUp_1 : decode cX12_goUp 1 = .ok (.istore_n 1, 1) := by decide +kernel
theorem dX12_goUp_2 : decode cX12_goUp 2 = .ok (.iload_n 1, 1) := by decide +kernel
theorem dX12_goUp_3 : decode cX12_goUp 3 = .ok (.aload_n 0, 1) := by decide +kernel
theorem dX12_goUp_4 : decode cX12_goUp 4 = .ok (.getfield 116, 3) := by decide +kernel
theorem dX12_goUp_7 : decode cX12_goUp 7 = .ok (.if_icmp .ge 43, 3) := by decide +kernel
theorem dX12_goUp_10 : decode cX12_goUp 10 = .ok (.iconst 0, 1) := by decide +kernel
theorem dX12_goUp_11 : decode cX12_goUp 11 = .ok (.istore_n 2, 1) := by decide +kernel
theorem dX12_goUp_12 : decode cX12_goUp 12 = .ok (.aload_n 0, 1) := by decide +kernel
theorem dX12_goUp_13 : decode cX12_goUp 13 = .ok (.getfield 42, 3) := by decide +kernel
theorem dX12_goUp_16 : decode cX12_goUp 16 = .ok (.iload_n 1, 1) := by decide +kernel
theorem dX12_goUp_17 : decode cX12_goUp 17 = .ok (.iaload, 1) := by decide +kernel
theorem dX12_goUp_18 : decode cX12_goUp 18 = .ok (.istore_n 3, 1) := by decide +kernel
theorem dX12_goUp_19 : decode cX12_goUp 19 = .ok (.iload_n 3, 1) := by decide +kernel
theorem dX12_goUp_20 : decode cX12_goUp 20 = .ok (.iconst (-1), 1) := by decide +kernel
theorem dX12_goUp_21 : decode cX12_goUp 21 = .ok (.if_icmp .eq 16, 3) := by decide +kernel
theorem dX12_goUp_24 : decode cX12_goUp 24 = .ok (.iinc 2 1, 3) := by decide +kernel
theorem dX12_goUp_27 : decode cX12_goUp 27 = .ok (.aload_n 0, 1) := by decide +kernel
theorem dX12_goUp_28 : decode cX12_goUp 28 = .ok (.getfield 42, 3) := by decide +kernel
theorem dX12_goUp_31 : decode cX12_goUp 31 = .ok (.iload_n 3, 1) := by decide +kernel
theorem dX12_goUp_32 : decode cX12_goUp 32 = .ok (.iaload, 1) := by decide +kernel
theorem dX12_goUp_33 : decode cX12_goUp 33 = .ok (.istore_n 3, 1) := by decide +kernel
theorem dX12_goUp_34 : decode cX12_goUp 34 = .ok (.goto (-15), 3) := by decide +kernel
theorem dX12_goUp_37 : decode cX12_goUp 37 = .ok (.aload_n 0, 1) := by decide +kernel
theorem dX12_goUp_38 : decode cX12_goUp 38 = .ok (.getfield 36, 3) := by decide +kernel
theorem dX12_goUp_41 : decode cX12_goUp 41 = .ok (.iload_n 1, 1) := by decide +kernel
theorem dX12_goUp_42 : decode cX12_goUp 42 = .ok (.iload_n 2, 1) := by decide +kernel
theorem dX12_goUp_43 : decode cX12_goUp 43 = .ok (.iastore, 1) := by decide +kernel
theorem dX12_goUp_44 : decode cX12_goUp 44 = .ok (.iinc 1 1, 3) := by decide +kernel
theorem dX12_goUp_47 : decode cX12_goUp 47 = .ok (.goto (-45), 3) := by decide +kernel
theorem dX12_goUp_50 : decode cX12_goUp 50 = .ok (.return_, 1) := by decide +kernel
theorem dX12_least_0 : decode cX12_least 0 = .ok (.iconst (-1), 1) := by decide +kernel
theorem dX12_least_1 : decode cX12_least 1 = .ok (.istore_n 3, 1) := by decide +kernel
theorem dX12_least_2 : decode cX12_least 2 = .ok (.iconst 0, 1) := by decide +kernel
theorem dX12_least_3 : decode cX12_least 3 = .ok (.istore 4, 2) := by decide +kernel
theorem dX12_least_5 : decode cX12_least 5 = .ok (.iload 4, 2) := by decide +kernel
theorem dX12_least_7 : decode cX12_least 7 = .ok (.iload_n 1, 1) := by decide +kernel
theorem dX12_least_8 : decode cX12_least 8 = .ok (.if_icmp .ge 50, 3) := by decide +kernel
theorem dX12_least_11 : decode cX12_least 11 = .ok (.aload_n 0, 1) := by decide +kernel
theorem dX12_least_12 : decode cX12_least 12 = .ok (.getfield 42, 3) := by decide +kernel
theorem dX12_least_15 : decode cX12_least 15 = .ok (.iload 4, 2) := by decide +kernel
theorem dX12_least_17 : decode cX12_least 17 = .ok (.iaload, 1) := by decide +kernel
theorem dX12_least_18 : decode cX12_least 18 = .ok (.iconst (-1), 1) := by decide +kernel
theorem dX12_least_19 : decode cX12_least 19 = .ok (.if_icmp .ne 33, 3) := by decide +kernel
theorem dX12_least_22 : decode cX12_least 22 = .ok (.iload 4, 2) := by decide +kernel
theorem dX12_least_24 : decode cX12_least 24 = .ok (.iload_n 2, 1) := by decide +kernel
theorem dX12_least_25 : decode cX12_least 25 = .ok (.if_icmp .eq 27, 3) := by decide +kernel
theorem dX12_least_28 : decode cX12_least 28 = .ok (.iload_n 3, 1) := by decide +kernel
theorem dX12_least_29 : decode cX12_least 29 = .ok (.iconst (-1), 1) := by decide +kernel
theorem dX12_least_30 : decode cX12_least 30 = .ok (.if_icmp .eq 19, 3) := by decide +kernel
theorem dX12_least_33 : decode cX12_least 33 = .ok (.aload_n 0, 1) := by decide +kernel
theorem dX12_least_34 : decode cX12_least 34 = .ok (.getfield 39, 3) := by decide +kernel
theorem dX12_least_37 : decode cX12_least 37 = .ok (.iload 4, 2) := by decide +kernel
theorem dX12_least_39 : decode cX12_least 39 = .ok (.iaload, 1) := by decide +kernel
theorem dX12_least_40 : decode cX12_least 40 = .ok (.aload_n 0, 1) := by decide +kernel
theorem dX12_least_41 : decode cX12_least 41 = .ok (.getfield 39, 3) := by decide +kernel
theorem dX12_least_44 : decode cX12_least 44 = .ok (.iload_n 3, 1) := by decide +kernel
theorem dX12_least_45 : decode cX12_least 45 = .ok (.iaload, 1) := by decide +kernel
theorem dX12_least_46 : decode cX12_least 46 = .ok (.if_icmp .gt 6, 3) := by decide +kernel
theorem dX12_least_49 : decode cX12_least 49 = .ok (.iload 4, 2) := by decide +kernel
theorem dX12_least_51 : decode cX12_least 51 = .ok (.istore_n 3, 1) := by decide +kernel
theorem dX12_least_52 : decode cX12_least 52 = .ok (.iinc 4 1, 3) := by decide +kernel
theorem dX12_least_55 : decode cX12_least 55 = .ok (.goto (-50), 3) := by decide +kernel
theorem dX12_least_58 : decode cX12_least 58 = .ok (.iload_n 3, 1) := by decide +kernel
theorem dX12_least_59 : decode cX12_least 59 = .ok (.ireturn, 1) := by decide +kernel
set_option maxRecDepth 20000 in
theorem ggX12_byHeap_X12_least : GoodIn wsX12_byHeap wsX12_least := goodIn_r _ [9, 4, 2, 15, 16, 17, 18, 19, 20, 21, 22, 23, 24, 25, 26, 27, 28, 29, 30, 31, 32, 33, 34, 35, 36, 37, 38, 39, 40, 41, 42, 43, 44, 45, 46, 47, 48, 49, 50, 51, 52, 53] (by decide +kernel) (by decide +kernel)
set_option maxRecDepth 20000 in
theorem gX12_byHeap_X12_least : GoodIn wsX12_byHeap (wsV RX12 119 RX12 yX12_least wsX12_least) := goodIn_app (goodIn_of _ (by decide +kernel)) ggX12_byHeap_X12_least
set_option maxRecDepth 20000 in
theorem ggX12_byHeap_X12_goUp : GoodIn wsX12_byHeap wsX12_goUp := goodIn_r _ [13, 1, 4, 14, 15, 16, 17, 18, 19, 20, 21, 22, 23, 24, 25, 26, 27, 28, 29, 30, 31, 32, 33, 34, 35, 36, 37, 38, 39, 40, 41, 42, 43, 44, 45, 46, 47, 48, 49, 50, 51, 52, 53] (by decide +kernel) (by decide +kernel)
set_option maxRecDepth 20000 in
theorem gX12_byHeap_X12_goUp : GoodIn wsX12_byHeap (wsV RX12 123 RX12 yX12_goUp wsX12_goUp) := goodIn_app (goodIn_of _ (by decide +kernel)) ggX12_byHeap_X12_goUp
theorem dX12_byHeap_0 : decode cX12_byHeap 0 = .ok (.iconst 0, 1) := by decide +kernel
theorem dX12_byHeap_1 : decode cX12_byHeap 1 = .ok (.istore_n 1, 1) := by decide +kernel
theorem dX12_byHeap_2 : decode cX12_byHeap 2 = .ok (.iload_n 1, 1) := by decide +kernel
theorem dX12_byHeap_3 : decode cX12_byHeap 3 = .ok (.aload_n 0, 1) := by decide +kernel
theorem dX12_byHeap_4 : decode cX12_byHeap 4 = .ok (.getfield 116, 3) := by decide +kernel
theorem dX12_byHeap_7 : decode cX12_byHeap 7 = .ok (.if_icmp .ge 28, 3) := by decide +kernel
theorem dX12_byHeap_10 : decode cX12_byHeap 10 = .ok (.aload_n 0, 1) := by decide +kernel
theorem dX12_byHeap_11 : decode cX12_byHeap 11 = .ok (.getfield 39, 3) := by decide +kernel
theorem dX12_byHeap_14 : decode cX12_byHeap 14 = .ok (.iload_n 1, 1) := by decide +kernel
theorem dX12_byHeap_15 : decode cX12_byHeap 15 = .ok (.aload_n 0, 1) := by decide +kernel
theorem dX12_byHeap_16 : decode cX12_byHeap 16 = .ok (.getfield 33, 3) := by decide +kernel
theorem dX12_byHeap_19 : decode cX12_byHeap 19 = .ok (.iload_n 1, 1) := by decide +kernel
theorem dX12_byHeap_20 : decode cX12_byHeap 20 = .ok (.iaload, 1) := by decide +kernel
theorem dX12_byHeap_21 : decode cX12_byHeap 21 = .ok (.iastore, 1) := by decide +kernel
theorem dX12_byHeap_22 : decode cX12_byHeap 22 = .ok (.aload_n 0, 1) := by decide +kernel
theorem dX12_byHeap_23 : decode cX12_byHeap 23 = .ok (.getfield 42, 3) := by decide +kernel
theorem dX12_byHeap_26 : decode cX12_byHeap 26 = .ok (.iload_n 1, 1) := by decide +kernel
theorem dX12_byHeap_27 : decode cX12_byHeap 27 = .ok (.iconst (-1), 1) := by decide +kernel
theorem dX12_byHeap_28 : decode cX12_byHeap 28 = .ok (.iastore, 1) := by decide +kernel
theorem dX12_byHeap_29 : decode cX12_byHeap 29 = .ok (.iinc 1 1, 3) := by decide +kernel
theorem dX12_byHeap_32 : decode cX12_byHeap 32 = .ok (.goto (-30), 3) := by decide +kernel
theorem dX12_byHeap_35 : decode cX12_byHeap 35 = .ok (.aload_n 0, 1) := by decide +kernel
theorem dX12_byHeap_36 : decode cX12_byHeap 36 = .ok (.getfield 116, 3) := by decide +kernel
theorem dX12_byHeap_39 : decode cX12_byHeap 39 = .ok (.istore_n 1, 1) := by decide +kernel
theorem dX12_byHeap_40 : decode cX12_byHeap 40 = .ok (.iload_n 1, 1) := by decide +kernel
theorem dX12_byHeap_41 : decode cX12_byHeap 41 = .ok (.iconst 2, 1) := by decide +kernel
theorem dX12_byHeap_42 : decode cX12_byHeap 42 = .ok (.aload_n 0, 1) := by decide +kernel
theorem dX12_byHeap_43 : decode cX12_byHeap 43 = .ok (.getfield 116, 3) := by decide +kernel
theorem dX12_byHeap_46 : decode cX12_byHeap 46 = .ok (.imul, 1) := by decide +kernel
theorem dX12_byHeap_47 : decode cX12_byHeap 47 = .ok (.iconst 1, 1) := by decide +kernel
theorem dX12_byHeap_48 : decode cX12_byHeap 48 = .ok (.isub, 1) := by decide +kernel
theorem dX12_byHeap_49 : decode cX12_byHeap 49 = .ok (.if_icmp .ge 63, 3) := by decide +kernel
theorem dX12_byHeap_52 : decode cX12_byHeap 52 = .ok (.aload_n 0, 1) := by decide +kernel
theorem dX12_byHeap_53 : decode cX12_byHeap 53 = .ok (.iload_n 1, 1) := by decide +kernel
theorem dX12_byHeap_54 : decode cX12_byHeap 54 = .ok (.iconst (-1), 1) := by decide +kernel
theorem dX12_byHeap_55 : decode cX12_byHeap 55 = .ok (.invokevirtual 119, 3) := by decide +kernel
theorem dX12_byHeap_58 : decode cX12_byHeap 58 = .ok (.istore_n 2, 1) := by decide +kernel
theorem dX12_byHeap_59 : decode cX12_byHeap 59 = .ok (.aload_n 0, 1) := by decide +kernel
theorem dX12_byHeap_60 : decode cX12_byHeap 60 = .ok (.iload_n 1, 1) := by decide +kernel
theorem dX12_byHeap_61 : decode cX12_byHeap 61 = .ok (.iload_n 2, 1) := by decide +kernel
theorem dX12_byHeap_62 : decode cX12_byHeap 62 = .ok (.invokevirtual 119, 3) := by decide +kernel
theorem dX12_byHeap_65 : decode cX12_byHeap 65 = .ok (.istore_n 3, 1) := by decide +kernel
theorem dX12_byHeap_66 : decode cX12_byHeap 66 = .ok (.aload_n 0, 1) := by decide +kernel
theorem dX12_byHeap_67 : decode cX12_byHeap 67 = .ok (.getfield 39, 3) := by decide +kernel
theorem dX12_byHeap_70 : decode cX12_byHeap 70 = .ok (.iload_n 1, 1) := by decide +kernel
theorem dX12_byHeap_71 : decode cX12_byHeap 71 = .ok (.aload_n 0, 1) := by decide +kernel
theorem dX12_byHeap_72 : decode cX12_byHeap 72 = .ok (.getfield 39, 3) := by decide +kernel
theorem dX12_byHeap_75 : decode cX12_byHeap 75 = .ok (.iload_n 2, 1) := by decide +kernel
theorem dX12_byHeap_76 : decode cX12_byHeap 76 = .ok (.iaload, 1) := by decide +kernel
theorem dX12_byHeap_77 : decode cX12_byHeap 77 = .ok (.aload_n 0, 1) := by decide +kernel
theorem dX12_byHeap_78 : decode cX12_byHeap 78 = .ok (.getfield 39, 3) := by decide +kernel
theorem dX12_byHeap_81 : decode cX12_byHeap 81 = .ok (.iload_n 3, 1) := by decide +kernel
theorem dX12_byHeap_82 : decode cX12_byHeap 82 = .ok (.iaload, 1) := by decide +kernel
theorem dX12_byHeap_83 : decode cX12_byHeap 83 = .ok (.iadd, 1) := by decide +kernel
theorem dX12_byHeap_84 : decode cX12_byHeap 84 = .ok (.iastore, 1) := by decide +kernel
theorem dX12_byHeap_85 : decode cX12_byHeap 85 = .ok (.aload_n 0, 1) := by decide +kernel
theorem dX12_byHeap_86 : decode cX12_byHeap 86 = .ok (.getfield 42, 3) := by decide +kernel
theorem dX12_byHeap_89 : decode cX12_byHeap 89 = .ok (.iload_n 1, 1) := by decide +kernel
theorem dX12_byHeap_90 : decode cX12_byHeap 90 = .ok (.iconst (-1), 1) := by decide +kernel
theorem dX12_byHeap_91 : decode cX12_byHeap 91 = .ok (.iastore, 1) := by decide +kernel
theorem dX12_byHeap_92 : decode cX12_byHeap 92 = .ok (.aload_n 0, 1) := by decide +kernel
theorem dX12_byHeap_93 : decode cX12_byHeap 93 = .ok (.getfield 42, 3) := by decide +kernel
theorem dX12_byHeap_96 : decode cX12_byHeap 96 = .ok (.iload_n 2, 1) := by decide +kernel
theorem dX12_byHeap_97 : decode cX12_byHeap 97 = .ok (.iload_n 1, 1) := by decide +kernel
theorem dX12_byHeap_98 : decode cX12_byHeap 98 = .ok (.iastore, 1) := by decide +kernel
theorem dX12_byHeap_99 : decode cX12_byHeap 99 = .ok (.aload_n 0, 1) := by decide +kernel
theorem dX12_byHeap_100 : decode cX12_byHeap 100 = .ok (.getfield 42, 3) := by decide +kernel
theorem dX12_byHeap_103 : decode cX12_byHeap 103 = .ok (.iload_n 3, 1) := by decide +kernel
theorem dX12_byHeap_104 : decode cX12_byHeap 104 = .ok (.iload_n 1, 1) := by decide +kernel
theorem dX12_byHeap_105 : decode cX12_byHeap 105 = .ok (.iastore, 1) := by decide +kernel
theorem dX12_byHeap_106 : decode cX12_byHeap 106 = .ok (.iinc 1 1, 3) := by decide +kernel
theorem dX12_byHeap_109 : decode cX12_byHeap 109 = .ok (.goto (-69), 3) := by decide +kernel
theorem dX12_byHeap_112 : decode cX12_byHeap 112 = .ok (.aload_n 0, 1) := by decide +kernel
theorem dX12_byHeap_113 : decode cX12_byHeap 113 = .ok (.invokevirtual 123, 3) := by decide +kernel
theorem dX12_byHeap_116 : decode cX12_byHeap 116 = .ok (.return_, 1) := by decide +kernel
