set_option maxRecDepth 100000 in
set_option maxHeartbeats 4000000 in
theorem ggL_law_X12_place : GoodIn wsL_law wsX12_place := goodIn_r _ [754, 149, 843, 844, 845, 846, 847, 848, 849, 850, 851, 852, 853, 854, 855, 856, 857, 858, 859, 860, 861, 862, 863, 864, 865, 866, 867, 868, 869, 870, 871, 872, 873, 874, 875, 876, 877, 878, 879, 880, 881] rfl (by decide +kernel)
set_option maxRecDepth 100000 in
set_option maxHeartbeats 4000000 in
theorem gL_law_X12_place : GoodIn wsL_law (wsV RL 103 RX12 yX12_place wsX12_place) := goodIn_app (goodIn_of _ (by decide +kernel)) ggL_law_X12_place
set_option maxRecDepth 100000 in
set_option maxHeartbeats 4000000 in
theorem ggL_law_X11_key : GoodIn wsL_law wsX11_key := goodIn_r _ [758, 52, 56, 759, 760, 761, 51, 762, 127, 763, 304, 305, 60, 306, 307, 308, 534, 535, 536, 55, 537, 133, 135, 764, 765, 766, 767, 124, 125, 768, 219, 220, 221, 769, 770, 771, 772, 405, 355, 406, 773, 606, 607, 608, 137, 774, 775, 776, 777, 778, 318, 319, 320, 99, 321, 322, 323, 324, 100, 779, 826, 827, 828, 829, 830, 831, 832, 833, 834, 835, 836, 837, 838, 839, 840, 841, 842, 914, 915, 916, 917, 918, 919, 920, 921, 922, 911, 912, 913, 923, 924, 925, 926] rfl (by decide +kernel)
set_option maxRecDepth 100000 in
set_option maxHeartbeats 4000000 in
theorem gL_law_X11_key : GoodIn wsL_law (wsV RL 104 RX11 yX11_key wsX11_key) := goodIn_app (goodIn_of _ (by decide +kernel)) ggL_law_X11_key
set_option maxRecDepth 100000 in
set_option maxHeartbeats 4000000 in
theorem ggL_law_X12_key : GoodIn wsL_law wsX12_key := goodIn_r _ [783, 784, 459, 504, 167, 785, 169, 168, 505, 506, 507, 5, 508, 171, 144, 509, 510, 511, 512, 199, 200, 201, 786, 787, 788, 789, 164, 165, 145, 166, 790, 791, 792, 793, 794, 795, 796, 797, 798, 799, 800, 801, 802, 803, 804, 805, 170, 843, 844, 845, 846, 847, 848, 849, 850, 851, 852, 853, 854, 855, 856, 857, 858, 859, 860, 861, 862, 863, 864, 865, 866, 867, 868, 869, 870, 871, 872, 873, 874, 875, 876, 877, 878, 879, 880, 881] rfl (by decide +kernel)
set_option maxRecDepth 100000 in
set_option maxHeartbeats 4000000 in
theorem gL_law_X12_key : GoodIn wsL_law (wsV RL 107 RX12 yX12_key wsX12_key) := goodIn_app (goodIn_of _ (by decide +kernel)) ggL_law_X12_key
set_option maxRecDepth 100000 in
set_option maxHeartbeats 4000000 in
theorem ggL_law_X11_keyBit : GoodIn wsL_law wsX11_keyBit := goodIn_r _ [809, 52, 721, 335, 336, 60, 337, 307, 100, 826, 827, 828, 829, 830, 831, 832, 833, 834, 835, 836, 837, 838, 839, 840, 841, 842, 911, 912, 913, 923, 924, 925, 926] rfl (by decide +kernel)
set_option maxRecDepth 100000 in
set_option maxHeartbeats 4000000 in
theorem gL_law_X11_keyBit : GoodIn wsL_law (wsV RL 108 RX11 yX11_keyBit wsX11_keyBit) := goodIn_app (goodIn_of _ (by decide +kernel)) ggL_law_X11_keyBit
set_option maxRecDepth 100000 in
set_option maxHeartbeats 4000000 in
theorem ggL_law_X12_keyBit : GoodIn wsL_law wsX12_keyBit := goodIn_r _ [813, 784, 170, 199, 200, 5, 201, 843, 844, 845, 846, 847, 848, 849, 850, 851, 852, 853, 854, 855, 856, 857, 858, 859, 860, 861, 862, 863, 864, 865, 866, 867, 868, 869, 870, 871, 872, 873, 874, 875, 876, 877, 878, 879, 880, 881] rfl (by decide +kernel)
set_option maxRecDepth 100000 in
set_option maxHeartbeats 4000000 in
theorem gL_law_X12_keyBit : GoodIn wsL_law (wsV RL 111 RX12 yX12_keyBit wsX12_keyBit) := goodIn_app (goodIn_of _ (by decide +kernel)) ggL_law_X12_keyBit
set_option maxRecDepth 100000 in
set_option maxHeartbeats 4000000 in
theorem ggL_law_X11_told : GoodIn wsL_law wsX11_told := goodIn_r _ [817, 17, 18, 22, 61, 63, 56, 818, 819, 820, 2, 821, 24, 534, 535, 536, 55, 537, 133, 135, 826, 827, 828, 829, 830, 831, 832, 833, 834, 835, 836, 837, 838, 839, 840, 841, 842, 882, 883, 923, 924, 925, 926, 914, 915, 916, 917, 918, 919, 920, 921, 922] rfl (by decide +kernel)
set_option maxRecDepth 100000 in
set_option maxHeartbeats 4000000 in
theorem gL_law_X11_told : GoodIn wsL_law (wsV RL 112 RX11 yX11_told wsX11_told) := goodIn_app (goodIn_of _ (by decide +kernel)) ggL_law_X11_told
set_option maxRecDepth 100000 in
set_option maxHeartbeats 4000000 in
theorem ggL_law_X12_told : GoodIn wsL_law wsX12_told := goodIn_r _ [825, 171, 172, 194, 578, 619, 459, 504, 458, 234, 235, 236, 5, 237, 143, 505, 506, 507, 508, 144, 509, 510, 511, 512, 843, 844, 845, 846, 847, 848, 849, 850, 851, 852, 853, 854, 855, 856, 857, 858, 859, 860, 861, 862, 863, 864, 865, 866, 867, 868, 869, 870, 871, 872, 873, 874, 875, 876, 877, 878, 879, 880, 881] rfl (by decide +kernel)
set_option maxRecDepth 100000 in
set_option maxHeartbeats 4000000 in
theorem gL_law_X12_told : GoodIn wsL_law (wsV RL 115 RX12 yX12_told wsX12_told) := goodIn_app (goodIn_of _ (by decide +kernel)) ggL_law_X12_told
