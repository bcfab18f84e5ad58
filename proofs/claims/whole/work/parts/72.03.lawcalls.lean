set_option maxRecDepth 100000 in
set_option maxHeartbeats 4000000 in
theorem ggL_law_X12_decode : GoodIn wsL_law wsX12_decode := goodIn_r _ [617, 459, 618, 619, 578, 149, 148, 620, 621, 622, 623, 5, 624, 147, 171, 144, 145, 843, 844, 845, 846, 847, 848, 849, 850, 851, 852, 853, 854, 855, 856, 857, 858, 859, 860, 861, 862, 863, 864, 865, 866, 867, 868, 869, 870, 871, 872, 873, 874, 875, 876, 877, 878, 879, 880, 881] rfl (by decide +kernel)
set_option maxRecDepth 100000 in
set_option maxHeartbeats 4000000 in
theorem gL_law_X12_decode : GoodIn wsL_law (wsV RL 71 RX12 yX12_decode wsX12_decode) := goodIn_app (goodIn_of _ (by decide +kernel)) ggL_law_X12_decode
set_option maxRecDepth 100000 in
set_option maxHeartbeats 4000000 in
theorem ggL_law_X11_pack : GoodIn wsL_law wsX11_pack := goodIn_r _ [628, 62, 17, 56, 22, 556, 557, 558, 2, 559, 24, 560, 304, 305, 60, 306, 307, 308, 565, 566, 567, 568, 569, 318, 319, 320, 99, 321, 322, 323, 324, 100, 629, 630, 631, 632, 633, 354, 355, 356, 634, 635, 636, 55, 637, 133, 135, 561, 562, 563, 564, 570, 571, 572, 573, 61, 826, 827, 828, 829, 830, 831, 832, 833, 834, 835, 836, 837, 838, 839, 840, 841, 842, 914, 915, 916, 917, 918, 919, 920, 921, 922, 882, 883, 923, 924, 925, 926] rfl (by decide +kernel)
set_option maxRecDepth 100000 in
set_option maxHeartbeats 4000000 in
theorem gL_law_X11_pack : GoodIn wsL_law (wsV RL 72 RX11 yX11_pack wsX11_pack) := goodIn_app (goodIn_of _ (by decide +kernel)) ggL_law_X11_pack
set_option maxRecDepth 100000 in
set_option maxHeartbeats 4000000 in
theorem ggL_law_X12_pack : GoodIn wsL_law wsX12_pack := goodIn_r _ [641, 459, 578, 171, 458, 144, 194, 579, 580, 581, 5, 582, 143, 642, 643, 644, 645, 646, 647, 648, 649, 587, 588, 589, 590, 147, 583, 584, 585, 586, 145, 843, 844, 845, 846, 847, 848, 849, 850, 851, 852, 853, 854, 855, 856, 857, 858, 859, 860, 861, 862, 863, 864, 865, 866, 867, 868, 869, 870, 871, 872, 873, 874, 875, 876, 877, 878, 879, 880, 881] rfl (by decide +kernel)
set_option maxRecDepth 100000 in
set_option maxHeartbeats 4000000 in
theorem gL_law_X12_pack : GoodIn wsL_law (wsV RL 75 RX12 yX12_pack wsX12_pack) := goodIn_app (goodIn_of _ (by decide +kernel)) ggL_law_X12_pack
set_option maxRecDepth 100000 in
set_option maxHeartbeats 4000000 in
theorem ggL_law_X11_unpack : GoodIn wsL_law wsX11_unpack := goodIn_r _ [653, 48, 61, 57, 64, 56, 63, 654, 655, 656, 47, 657, 599, 658, 659, 660, 661, 662, 663, 664, 665, 609, 610, 611, 612, 120, 604, 335, 336, 60, 337, 307, 100, 666, 667, 668, 669, 670, 219, 220, 221, 671, 672, 673, 55, 674, 418, 411, 675, 535, 536, 537, 133, 135, 441, 442, 443, 444, 434, 435, 436, 676, 677, 678, 679, 680, 414, 415, 416, 137, 417, 419, 420, 412, 421, 422, 423, 424, 425, 426, 427, 428, 136, 429, 430, 431, 432, 134, 433, 405, 355, 406, 437, 438, 439, 440, 600, 601, 602, 603, 605, 606, 607, 608, 613, 186, 187, 21, 188, 189, 68, 826, 827, 828, 829, 830, 831, 832, 833, 834, 835, 836, 837, 838, 839, 840, 841, 842, 909, 910, 882, 883, 923, 924, 925, 926, 914, 915, 916, 917, 918, 919, 920, 921, 922] rfl (by decide +kernel)
set_option maxRecDepth 100000 in
set_option maxHeartbeats 4000000 in
theorem gL_law_X11_unpack : GoodIn wsL_law (wsV RL 76 RX11 yX11_unpack wsX11_unpack) := goodIn_app (goodIn_of _ (by decide +kernel)) ggL_law_X11_unpack
set_option maxRecDepth 100000 in
set_option maxHeartbeats 4000000 in
theorem ggL_law_X12_unpack : GoodIn wsL_law wsX12_unpack := goodIn_r _ [684, 458, 459, 171, 162, 144, 619, 163, 148, 685, 686, 687, 5, 688, 618, 578, 620, 689, 690, 691, 692, 147, 693, 694, 695, 696, 149, 697, 698, 699, 700, 172, 500, 501, 502, 503, 504, 145, 505, 506, 507, 508, 509, 510, 511, 512, 621, 622, 623, 624, 843, 844, 845, 846, 847, 848, 849, 850, 851, 852, 853, 854, 855, 856, 857, 858, 859, 860, 861, 862, 863, 864, 865, 866, 867, 868, 869, 870, 871, 872, 873, 874, 875, 876, 877, 878, 879, 880, 881] rfl (by decide +kernel)
set_option maxRecDepth 100000 in
set_option maxHeartbeats 4000000 in
theorem gL_law_X12_unpack : GoodIn wsL_law (wsV RL 79 RX12 yX12_unpack wsX12_unpack) := goodIn_app (goodIn_of _ (by decide +kernel)) ggL_law_X12_unpack
set_option maxRecDepth 100000 in
set_option maxHeartbeats 4000000 in
theorem ggL_law_X11_push : GoodIn wsL_law wsX11_push := goodIn_r _ [704, 61, 565, 566, 567, 60, 568, 569, 318, 319, 320, 307, 99, 308, 321, 322, 323, 324, 100, 826, 827, 828, 829, 830, 831, 832, 833, 834, 835, 836, 837, 838, 839, 840, 841, 842, 923, 924, 925, 926] rfl (by decide +kernel)
set_option maxRecDepth 100000 in
set_option maxHeartbeats 4000000 in
theorem gL_law_X11_push : GoodIn wsL_law (wsV RL 80 RX11 yX11_push wsX11_push) := goodIn_app (goodIn_of _ (by decide +kernel)) ggL_law_X11_push
set_option maxRecDepth 100000 in
set_option maxHeartbeats 4000000 in
theorem ggL_law_X12_push : GoodIn wsL_law wsX12_push := goodIn_r _ [708, 578, 199, 200, 5, 201, 587, 588, 589, 590, 147, 843, 844, 845, 846, 847, 848, 849, 850, 851, 852, 853, 854, 855, 856, 857, 858, 859, 860, 861, 862, 863, 864, 865, 866, 867, 868, 869, 870, 871, 872, 873, 874, 875, 876, 877, 878, 879, 880, 881] rfl (by decide +kernel)
set_option maxRecDepth 100000 in
set_option maxHeartbeats 4000000 in
theorem gL_law_X12_push : GoodIn wsL_law (wsV RL 83 RX12 yX12_push wsX12_push) := goodIn_app (goodIn_of _ (by decide +kernel)) ggL_law_X12_push
set_option maxRecDepth 100000 in
set_option maxHeartbeats 4000000 in
theorem ggL_law_X11_cut : GoodIn wsL_law wsX11_cut := goodIn_r _ [712, 61, 826, 827, 828, 829, 830, 831, 832, 833, 834, 835, 836, 837, 838, 839, 840, 841, 842, 923, 924, 925, 926] rfl (by decide +kernel)
set_option maxRecDepth 100000 in
set_option maxHeartbeats 4000000 in
theorem gL_law_X11_cut : GoodIn wsL_law (wsV RL 84 RX11 yX11_cut wsX11_cut) := goodIn_app (goodIn_of _ (by decide +kernel)) ggL_law_X11_cut
