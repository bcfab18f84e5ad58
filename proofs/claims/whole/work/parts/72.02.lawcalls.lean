set_option maxRecDepth 100000 in
set_option maxHeartbeats 4000000 in
theorem ggL_law_X12_poke : GoodIn wsL_law wsX12_poke := goodIn_r _ [528, 172, 144, 458, 459, 195, 196, 197, 5, 198, 171, 199, 200, 201, 843, 844, 845, 846, 847, 848, 849, 850, 851, 852, 853, 854, 855, 856, 857, 858, 859, 860, 861, 862, 863, 864, 865, 866, 867, 868, 869, 870, 871, 872, 873, 874, 875, 876, 877, 878, 879, 880, 881] rfl (by decide +kernel)
set_option maxRecDepth 100000 in
set_option maxHeartbeats 4000000 in
theorem gL_law_X12_poke : GoodIn wsL_law (wsV RL 55 RX12 yX12_poke wsX12_poke) := goodIn_app (goodIn_of _ (by decide +kernel)) ggL_law_X12_poke
set_option maxRecDepth 100000 in
set_option maxHeartbeats 4000000 in
theorem ggL_law_X11_load : GoodIn wsL_law wsX11_load := goodIn_r _ [532, 56, 533, 534, 535, 536, 55, 537, 133, 135, 538, 442, 443, 444, 434, 435, 436, 539, 414, 415, 416, 137, 417, 411, 418, 419, 420, 412, 219, 220, 221, 421, 422, 423, 424, 425, 426, 427, 428, 136, 429, 430, 431, 432, 134, 433, 405, 355, 406, 437, 438, 439, 440, 441, 826, 827, 828, 829, 830, 831, 832, 833, 834, 835, 836, 837, 838, 839, 840, 841, 842, 914, 915, 916, 917, 918, 919, 920, 921, 922] rfl (by decide +kernel)
set_option maxRecDepth 100000 in
set_option maxHeartbeats 4000000 in
theorem gL_law_X11_load : GoodIn wsL_law (wsV RL 56 RX11 yX11_load wsX11_load) := goodIn_app (goodIn_of _ (by decide +kernel)) ggL_law_X11_load
set_option maxRecDepth 100000 in
set_option maxHeartbeats 4000000 in
theorem ggL_law_X12_load : GoodIn wsL_law wsX12_load := goodIn_r _ [543, 459, 505, 506, 507, 5, 508, 171, 144, 500, 501, 502, 503, 504, 458, 145, 509, 510, 511, 512, 843, 844, 845, 846, 847, 848, 849, 850, 851, 852, 853, 854, 855, 856, 857, 858, 859, 860, 861, 862, 863, 864, 865, 866, 867, 868, 869, 870, 871, 872, 873, 874, 875, 876, 877, 878, 879, 880, 881] rfl (by decide +kernel)
set_option maxRecDepth 100000 in
set_option maxHeartbeats 4000000 in
theorem gL_law_X12_load : GoodIn wsL_law (wsV RL 59 RX12 yX12_load wsX12_load) := goodIn_app (goodIn_of _ (by decide +kernel)) ggL_law_X12_load
set_option maxRecDepth 100000 in
set_option maxHeartbeats 4000000 in
theorem ggL_law_X11_code : GoodIn wsL_law wsX11_code := goodIn_r _ [547, 56, 177, 178, 179, 2, 180, 17, 826, 827, 828, 829, 830, 831, 832, 833, 834, 835, 836, 837, 838, 839, 840, 841, 842, 914, 915, 916, 917, 918, 919, 920, 921, 922] rfl (by decide +kernel)
set_option maxRecDepth 100000 in
set_option maxHeartbeats 4000000 in
theorem gL_law_X11_code : GoodIn wsL_law (wsV RL 60 RX11 yX11_code wsX11_code) := goodIn_app (goodIn_of _ (by decide +kernel)) ggL_law_X11_code
set_option maxRecDepth 100000 in
set_option maxHeartbeats 4000000 in
theorem ggL_law_X12_code : GoodIn wsL_law wsX12_code := goodIn_r _ [551, 459, 144, 145, 195, 196, 197, 5, 198, 171, 199, 200, 201, 843, 844, 845, 846, 847, 848, 849, 850, 851, 852, 853, 854, 855, 856, 857, 858, 859, 860, 861, 862, 863, 864, 865, 866, 867, 868, 869, 870, 871, 872, 873, 874, 875, 876, 877, 878, 879, 880, 881] rfl (by decide +kernel)
set_option maxRecDepth 100000 in
set_option maxHeartbeats 4000000 in
theorem gL_law_X12_code : GoodIn wsL_law (wsV RL 63 RX12 yX12_code wsX12_code) := goodIn_app (goodIn_of _ (by decide +kernel)) ggL_law_X12_code
set_option maxRecDepth 100000 in
set_option maxHeartbeats 4000000 in
theorem ggL_law_X11_encode : GoodIn wsL_law wsX11_encode := goodIn_r _ [555, 62, 556, 557, 558, 2, 559, 56, 17, 24, 560, 304, 305, 60, 306, 307, 308, 561, 562, 563, 564, 22, 565, 566, 567, 568, 569, 318, 319, 320, 99, 321, 322, 323, 324, 100, 570, 571, 572, 573, 61, 826, 827, 828, 829, 830, 831, 832, 833, 834, 835, 836, 837, 838, 839, 840, 841, 842, 914, 915, 916, 917, 918, 919, 920, 921, 922, 923, 924, 925, 926, 882, 883] rfl (by decide +kernel)
set_option maxRecDepth 100000 in
set_option maxHeartbeats 4000000 in
theorem gL_law_X11_encode : GoodIn wsL_law (wsV RL 64 RX11 yX11_encode wsX11_encode) := goodIn_app (goodIn_of _ (by decide +kernel)) ggL_law_X11_encode
set_option maxRecDepth 100000 in
set_option maxHeartbeats 4000000 in
theorem ggL_law_X12_encode : GoodIn wsL_law wsX12_encode := goodIn_r _ [577, 459, 578, 579, 580, 581, 5, 582, 194, 144, 143, 583, 584, 585, 586, 145, 587, 588, 589, 590, 147, 843, 844, 845, 846, 847, 848, 849, 850, 851, 852, 853, 854, 855, 856, 857, 858, 859, 860, 861, 862, 863, 864, 865, 866, 867, 868, 869, 870, 871, 872, 873, 874, 875, 876, 877, 878, 879, 880, 881] rfl (by decide +kernel)
set_option maxRecDepth 100000 in
set_option maxHeartbeats 4000000 in
theorem gL_law_X12_encode : GoodIn wsL_law (wsV RL 67 RX12 yX12_encode wsX12_encode) := goodIn_app (goodIn_of _ (by decide +kernel)) ggL_law_X12_encode
set_option maxRecDepth 100000 in
set_option maxHeartbeats 4000000 in
theorem ggL_law_X11_decode : GoodIn wsL_law wsX11_decode := goodIn_r _ [594, 56, 48, 61, 63, 595, 596, 597, 47, 598, 599, 600, 601, 602, 603, 604, 335, 336, 60, 337, 307, 100, 605, 606, 607, 55, 608, 137, 609, 610, 611, 612, 120, 613, 186, 187, 21, 188, 189, 68, 826, 827, 828, 829, 830, 831, 832, 833, 834, 835, 836, 837, 838, 839, 840, 841, 842, 914, 915, 916, 917, 918, 919, 920, 921, 922, 909, 910, 882, 883, 923, 924, 925, 926] rfl (by decide +kernel)
set_option maxRecDepth 100000 in
set_option maxHeartbeats 4000000 in
theorem gL_law_X11_decode : GoodIn wsL_law (wsV RL 68 RX11 yX11_decode wsX11_decode) := goodIn_app (goodIn_of _ (by decide +kernel)) ggL_law_X11_decode
