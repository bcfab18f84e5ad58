theorem xl_mem {big : List Cond} (ws : List Cond) (ps : List Nat) (hp : ws = ps.filterMap (fun i => big[i]?)) : ∀ w ∈ ws, w ∈ big := by
  intro w hw
  rw [hp] at hw
  obtain ⟨i, -, hi⟩ := List.mem_filterMap.mp hw
  exact List.mem_of_getElem? hi
set_option maxRecDepth 100000 in
theorem xl_wsL_law_r1 : ∀ w ∈ wsL_law_r1, w ∈ xw_tbl := xl_mem _ [81, 82, 65, 801, 802, 77, 1143, 798, 799, 64, 800, 83, 84, 85, 86, 87, 88, 336, 337, 89, 90, 66, 338, 105] (by decide +kernel)
set_option maxRecDepth 100000 in
theorem xl_wsL_law_r2 : ∀ w ∈ wsL_law_r2, w ∈ xw_tbl := xl_mem _ [339, 106, 107, 67, 340, 148, 149, 68, 341, 176, 177, 69, 342, 222, 223, 72, 343, 247, 248, 73, 344, 257, 258, 74] (by decide +kernel)
set_option maxRecDepth 100000 in
theorem xl_wsL_law_r3 : ∀ w ∈ wsL_law_r3, w ∈ xw_tbl := xl_mem _ [345, 271, 272, 75, 346, 290, 291, 76, 347, 348, 334, 183, 70, 349, 350, 351, 352, 92, 93, 94, 95, 108, 109, 110] (by decide +kernel)
set_option maxRecDepth 100000 in
theorem xl_wsL_law_r4 : ∀ w ∈ wsL_law_r4, w ∈ xw_tbl := xl_mem _ [111, 112, 114, 119, 125, 150, 151, 152, 153, 154, 155, 156, 157, 178, 179, 180, 181, 206, 207, 208, 209, 182, 210, 184] (by decide +kernel)
set_option maxRecDepth 100000 in
theorem xl_wsL_law_r5 : ∀ w ∈ wsL_law_r5, w ∈ xw_tbl := xl_mem _ [185, 186, 187, 188, 190, 224, 225, 226, 231, 232, 227, 228, 71, 229, 230, 233, 234, 249, 250, 251, 252, 260, 261, 262] (by decide +kernel)
set_option maxRecDepth 100000 in
theorem xl_wsL_law_r6 : ∀ w ∈ wsL_law_r6, w ∈ xw_tbl := xl_mem _ [264, 274, 275, 276, 279, 280, 277, 281, 278, 292, 293, 294, 295, 296, 298, 300, 303, 305, 335, 803, 804, 805, 806, 809] (by decide +kernel)
set_option maxRecDepth 100000 in
theorem xl_wsL_law_r7 : ∀ w ∈ wsL_law_r7, w ∈ xw_tbl := xl_mem _ [811, 812, 925, 815, 817, 819, 820, 821, 822, 824, 825, 826, 827, 828, 829, 830, 831, 832, 835, 836, 837, 838, 839, 841] (by decide +kernel)
set_option maxRecDepth 100000 in
theorem xl_wsL_law_r8 : ∀ w ∈ wsL_law_r8, w ∈ xw_tbl := xl_mem _ [842, 843, 844, 807, 808, 388, 389, 390, 391, 392, 394, 2, 395, 396, 398, 3, 399, 400, 401, 402, 403, 97, 926, 927] (by decide +kernel)
set_option maxRecDepth 100000 in
theorem xl_wsL_law_r9 : ∀ w ∈ wsL_law_r9, w ∈ xw_tbl := xl_mem _ [928, 929, 810, 930, 932, 34, 933, 934, 935, 936, 404, 405, 406, 407, 408, 409, 410, 937, 938, 939, 940, 941, 411, 412] (by decide +kernel)
set_option maxRecDepth 100000 in
theorem xl_wsL_law_r10 : ∀ w ∈ wsL_law_r10, w ∈ xw_tbl := xl_mem _ [413, 414, 415, 416, 78, 417, 942, 943, 944, 945, 418, 419, 420, 421, 946, 947, 948, 949, 950, 952, 35, 953, 422, 423] (by decide +kernel)
set_option maxRecDepth 100000 in
theorem xl_wsL_law_r11 : ∀ w ∈ wsL_law_r11, w ∈ xw_tbl := xl_mem _ [424, 425, 426, 427, 432, 581, 428, 429, 430, 431, 130, 433, 435, 4, 436, 437, 438, 439, 440, 441, 443, 442, 79, 158] (by decide +kernel)
set_option maxRecDepth 100000 in
theorem xl_wsL_law_r12 : ∀ w ∈ wsL_law_r12, w ∈ xw_tbl := xl_mem _ [444, 446, 5, 447, 448, 450, 6, 451, 452, 454, 7, 455, 456, 458, 8, 459, 460, 461, 462, 463, 159, 160, 464, 465] (by decide +kernel)
set_option maxRecDepth 100000 in
theorem xl_wsL_law_r13 : ∀ w ∈ wsL_law_r13, w ∈ xw_tbl := xl_mem _ [466, 467, 468, 470, 9, 471, 472, 474, 10, 475, 476, 477, 478, 479, 480, 481, 482, 483, 484, 191, 195, 485, 487, 11] (by decide +kernel)
set_option maxRecDepth 100000 in
theorem xl_wsL_law_r14 : ∀ w ∈ wsL_law_r14, w ∈ xw_tbl := xl_mem _ [488, 489, 491, 12, 492, 493, 494, 495, 496, 497, 498, 499, 500, 501, 503, 13, 504, 505, 506, 508, 14, 509, 510, 511] (by decide +kernel)
set_option maxRecDepth 100000 in
theorem xl_wsL_law_r15 : ∀ w ∈ wsL_law_r15, w ∈ xw_tbl := xl_mem _ [512, 513, 514, 515, 516, 517, 518, 519, 520, 521, 522, 523, 524, 525, 527, 15, 528, 533, 534, 80, 535, 529, 531, 16] (by decide +kernel)
set_option maxRecDepth 100000 in
theorem xl_wsL_law_r16 : ∀ w ∈ wsL_law_r16, w ∈ xw_tbl := xl_mem _ [532, 536, 538, 17, 539, 540, 541, 543, 544, 545, 235, 546, 547, 1144, 0, 549, 550, 1, 551, 552, 553, 554, 556, 557] (by decide +kernel)
set_option maxRecDepth 100000 in
theorem xl_wsL_law_r17 : ∀ w ∈ wsL_law_r17, w ∈ xw_tbl := xl_mem _ [558, 559, 560, 561, 562, 563, 564, 565, 566, 567, 568, 569, 570, 571, 572, 573, 574, 575, 576, 577, 578, 579, 580, 582] (by decide +kernel)
set_option maxRecDepth 100000 in
theorem xl_wsL_law_r18 : ∀ w ∈ wsL_law_r18, w ∈ xw_tbl := xl_mem _ [583, 584, 585, 308, 586, 587, 588, 589, 590, 307, 615, 313, 311, 591, 593, 18, 594, 595, 597, 19, 598, 599, 601, 20] (by decide +kernel)
set_option maxRecDepth 100000 in
theorem xl_wsL_law_r19 : ∀ w ∈ wsL_law_r19, w ∈ xw_tbl := xl_mem _ [602, 603, 604, 605, 606, 607, 609, 21, 610, 611, 612, 613, 614, 616, 617, 618, 619, 954, 955, 956, 957, 958, 959, 823] (by decide +kernel)
set_option maxRecDepth 100000 in
theorem xl_wsL_law_r20 : ∀ w ∈ wsL_law_r20, w ∈ xw_tbl := xl_mem _ [964, 1001, 813, 814, 960, 962, 36, 963, 965, 967, 37, 968, 969, 971, 38, 972, 973, 975, 39, 976, 977, 979, 40, 980] (by decide +kernel)
set_option maxRecDepth 100000 in
theorem xl_wsL_law_r21 : ∀ w ∈ wsL_law_r21, w ∈ xw_tbl := xl_mem _ [981, 983, 41, 984, 985, 987, 42, 988, 989, 991, 43, 992, 993, 995, 44, 996, 997, 999, 45, 1000, 1002, 1004, 46, 1005] (by decide +kernel)
set_option maxRecDepth 100000 in
theorem xl_wsL_law_r22 : ∀ w ∈ wsL_law_r22, w ∈ xw_tbl := xl_mem _ [1014, 1006, 1008, 47, 1009, 1010, 1012, 48, 1013, 620, 621, 622, 623, 1015, 1016, 1017, 1018, 624, 625, 626, 627, 1019, 1020, 1021] (by decide +kernel)
set_option maxRecDepth 100000 in
theorem xl_wsL_law_r23 : ∀ w ∈ wsL_law_r23, w ∈ xw_tbl := xl_mem _ [1022, 628, 629, 630, 631, 637, 632, 633, 634, 635, 636, 638, 1023, 1024, 1025, 1026, 639, 640, 641, 642, 1027, 1028, 1029, 1030] (by decide +kernel)
set_option maxRecDepth 100000 in
theorem xl_wsL_law_r24 : ∀ w ∈ wsL_law_r24, w ∈ xw_tbl := xl_mem _ [643, 644, 645, 646, 647, 649, 22, 650, 651, 652, 654, 23, 655, 656, 657, 658, 659, 660, 661, 663, 24, 664, 1031, 1032] (by decide +kernel)
set_option maxRecDepth 100000 in
theorem xl_wsL_law_r25 : ∀ w ∈ wsL_law_r25, w ∈ xw_tbl := xl_mem _ [1033, 1034, 816, 1035, 1037, 49, 1038, 1039, 1041, 50, 1042, 1043, 1045, 51, 1046, 665, 666, 667, 668, 669, 670, 671, 672, 263] (by decide +kernel)
set_option maxRecDepth 100000 in
theorem xl_wsL_law_r26 : ∀ w ∈ wsL_law_r26, w ∈ xw_tbl := xl_mem _ [673, 675, 25, 676, 677, 678, 679, 680, 681, 682, 684, 26, 685, 686, 1047, 1048, 1049, 1050, 833, 818, 834, 1051, 1053, 52] (by decide +kernel)
set_option maxRecDepth 100000 in
theorem xl_wsL_law_r27 : ∀ w ∈ wsL_law_r27, w ∈ xw_tbl := xl_mem _ [1054, 687, 688, 689, 690, 691, 693, 27, 694, 699, 695, 696, 697, 698, 1055, 1056, 1057, 1058, 1059, 1061, 53, 1062, 1063, 1065] (by decide +kernel)
set_option maxRecDepth 100000 in
theorem xl_wsL_law_r28 : ∀ w ∈ wsL_law_r28, w ∈ xw_tbl := xl_mem _ [54, 1066, 700, 701, 702, 703, 704, 705, 706, 707, 708, 710, 28, 711, 712, 714, 29, 715, 716, 718, 30, 719, 720, 721] (by decide +kernel)
set_option maxRecDepth 100000 in
theorem xl_wsL_law_r29 : ∀ w ∈ wsL_law_r29, w ∈ xw_tbl := xl_mem _ [722, 723, 724, 725, 726, 728, 31, 729, 730, 1067, 1068, 1069, 1070, 1071, 1073, 55, 1074, 1075, 1077, 56, 1078, 1079, 1081, 57] (by decide +kernel)
set_option maxRecDepth 100000 in
theorem xl_wsL_law_r30 : ∀ w ∈ wsL_law_r30, w ∈ xw_tbl := xl_mem _ [1082, 1083, 1085, 58, 1086, 731, 732, 733, 734, 1087, 1088, 1089, 1090, 735, 736, 737, 738, 1091, 1092, 1093, 1094, 739, 740, 741] (by decide +kernel)
set_option maxRecDepth 100000 in
theorem xl_wsL_law_r31 : ∀ w ∈ wsL_law_r31, w ∈ xw_tbl := xl_mem _ [742, 743, 1095, 1096, 1097, 1098, 744, 745, 746, 747, 748, 1099, 1100, 1101, 1102, 749, 750, 751, 752, 753, 754, 755, 756, 1103] (by decide +kernel)
set_option maxRecDepth 100000 in
theorem xl_wsL_law_r32 : ∀ w ∈ wsL_law_r32, w ∈ xw_tbl := xl_mem _ [1104, 1105, 1106, 757, 758, 759, 760, 1107, 1108, 1109, 1110, 761, 762, 763, 764, 765, 766, 767, 768, 769, 770, 771, 772, 773] (by decide +kernel)
set_option maxRecDepth 100000 in
theorem xl_wsL_law_r33 : ∀ w ∈ wsL_law_r33, w ∈ xw_tbl := xl_mem _ [774, 775, 776, 777, 779, 778, 780, 782, 32, 783, 784, 785, 1111, 1112, 1113, 1114, 845, 840, 1115, 1117, 59, 1118, 1119, 1121] (by decide +kernel)
set_option maxRecDepth 100000 in
theorem xl_wsL_law_r34 : ∀ w ∈ wsL_law_r34, w ∈ xw_tbl := xl_mem _ [60, 1122, 1123, 1125, 61, 1126, 1127, 1129, 62, 1130, 1131, 1133, 63, 1134, 786, 787, 788, 789, 1135, 1136, 1137, 1138, 790, 791] (by decide +kernel)
set_option maxRecDepth 100000 in
theorem xl_wsL_law_r35 : ∀ w ∈ wsL_law_r35, w ∈ xw_tbl := xl_mem _ [792, 793, 794, 796, 33, 797, 1139, 1140, 1141, 1142] (by decide +kernel)
set_option maxRecDepth 100000 in
theorem xl_X11 : ∀ w ∈ wsX110, w ∈ xw_tbl := xl_mem _ [353, 355, 357, 359, 361, 363, 365, 367, 369, 371, 373, 375, 377, 379, 381, 383, 385] (by decide +kernel)
set_option maxRecDepth 100000 in
theorem xl_X12 : ∀ w ∈ wsX120, w ∈ xw_tbl := xl_mem _ [846, 848, 850, 852, 854, 856, 858, 860, 862, 864, 866, 868, 870, 872, 874, 876, 878, 880, 882, 884, 886, 888, 890, 892, 894, 896, 898, 900, 902, 904, 906, 908, 910, 912, 914, 916, 918, 920, 922] (by decide +kernel)
set_option maxRecDepth 100000 in
theorem xl_X9 : ∀ w ∈ wsX90, w ∈ xw_tbl := xl_mem _ [100, 102] (by decide +kernel)
set_option maxRecDepth 100000 in
theorem xl_X3 : ∀ w ∈ wsX30, w ∈ xw_tbl := xl_mem _ [137, 139, 141, 143, 145] (by decide +kernel)
set_option maxRecDepth 100000 in
theorem xl_X4 : ∀ w ∈ wsX40, w ∈ xw_tbl := xl_mem _ [161, 163, 165, 167, 169, 171, 173] (by decide +kernel)
set_option maxRecDepth 100000 in
theorem xl_X6 : ∀ w ∈ wsX60, w ∈ xw_tbl := xl_mem _ [211, 213, 215, 217, 219] (by decide +kernel)
set_option maxRecDepth 100000 in
theorem xl_X5 : ∀ w ∈ wsX50, w ∈ xw_tbl := xl_mem _ [240, 242, 244, 236, 238] (by decide +kernel)
set_option maxRecDepth 100000 in
theorem xl_X1 : ∀ w ∈ wsX10, w ∈ xw_tbl := xl_mem _ [253, 254, 255] (by decide +kernel)
set_option maxRecDepth 100000 in
theorem xl_X8 : ∀ w ∈ wsX80, w ∈ xw_tbl := xl_mem _ [266, 268] (by decide +kernel)
set_option maxRecDepth 100000 in
theorem xl_X2 : ∀ w ∈ wsX20, w ∈ xw_tbl := xl_mem _ [283, 285, 287] (by decide +kernel)
set_option maxRecDepth 100000 in
theorem xl_X10 : ∀ w ∈ wsX100, w ∈ xw_tbl := xl_mem _ [315, 317, 319, 321, 323, 325, 327, 329, 331] (by decide +kernel)
set_option maxRecDepth 100000 in
theorem xl_X0 : ∀ w ∈ wsX00, w ∈ xw_tbl := xl_mem _ [197, 199, 201, 203] (by decide +kernel)
theorem xl_law : ∀ w ∈ wsL_law, w ∈ xw_tbl := (List.forall_mem_append.mpr ⟨(List.forall_mem_append.mpr ⟨(List.forall_mem_append.mpr ⟨(List.forall_mem_append.mpr ⟨(List.forall_mem_append.mpr ⟨(List.forall_mem_append.mpr ⟨(List.forall_mem_append.mpr ⟨(List.forall_mem_append.mpr ⟨(List.forall_mem_append.mpr ⟨(List.forall_mem_append.mpr ⟨(List.forall_mem_append.mpr ⟨(List.forall_mem_append.mpr ⟨(List.forall_mem_append.mpr ⟨(List.forall_mem_append.mpr ⟨xl_wsL_law_r1, (List.forall_mem_append.mpr ⟨xl_wsL_law_r2, (List.forall_mem_append.mpr ⟨xl_wsL_law_r3, (List.forall_mem_append.mpr ⟨xl_wsL_law_r4, (List.forall_mem_append.mpr ⟨xl_wsL_law_r5, (List.forall_mem_append.mpr ⟨xl_wsL_law_r6, (List.forall_mem_append.mpr ⟨xl_wsL_law_r7, (List.forall_mem_append.mpr ⟨xl_wsL_law_r8, (List.forall_mem_append.mpr ⟨xl_wsL_law_r9, (List.forall_mem_append.mpr ⟨xl_wsL_law_r10, (List.forall_mem_append.mpr ⟨xl_wsL_law_r11, (List.forall_mem_append.mpr ⟨xl_wsL_law_r12, (List.forall_mem_append.mpr ⟨xl_wsL_law_r13, (List.forall_mem_append.mpr ⟨xl_wsL_law_r14, (List.forall_mem_append.mpr ⟨xl_wsL_law_r15, (List.forall_mem_append.mpr ⟨xl_wsL_law_r16, (List.forall_mem_append.mpr ⟨xl_wsL_law_r17, (List.forall_mem_append.mpr ⟨xl_wsL_law_r18, (List.forall_mem_append.mpr ⟨xl_wsL_law_r19, (List.forall_mem_append.mpr ⟨xl_wsL_law_r20, (List.forall_mem_append.mpr ⟨xl_wsL_law_r21, (List.forall_mem_append.mpr ⟨xl_wsL_law_r22, (List.forall_mem_append.mpr ⟨xl_wsL_law_r23, (List.forall_mem_append.mpr ⟨xl_wsL_law_r24, (List.forall_mem_append.mpr ⟨xl_wsL_law_r25, (List.forall_mem_append.mpr ⟨xl_wsL_law_r26, (List.forall_mem_append.mpr ⟨xl_wsL_law_r27, (List.forall_mem_append.mpr ⟨xl_wsL_law_r28, (List.forall_mem_append.mpr ⟨xl_wsL_law_r29, (List.forall_mem_append.mpr ⟨xl_wsL_law_r30, (List.forall_mem_append.mpr ⟨xl_wsL_law_r31, (List.forall_mem_append.mpr ⟨xl_wsL_law_r32, (List.forall_mem_append.mpr ⟨xl_wsL_law_r33, (List.forall_mem_append.mpr ⟨xl_wsL_law_r34, xl_wsL_law_r35⟩)⟩)⟩)⟩)⟩)⟩)⟩)⟩)⟩)⟩)⟩)⟩)⟩)⟩)⟩)⟩)⟩)⟩)⟩)⟩)⟩)⟩)⟩)⟩)⟩)⟩)⟩)⟩)⟩)⟩)⟩)⟩)⟩)⟩), xl_X11⟩), xl_X12⟩), xl_X9⟩), xl_X3⟩), xl_X4⟩), xl_X6⟩), xl_X5⟩), xl_X1⟩), xl_X8⟩), xl_X2⟩), xl_X10⟩), xl_X0⟩), fun _ h => absurd h List.not_mem_nil⟩)
