set_option maxRecDepth 100000 in
set_option maxHeartbeats 4000000 in
theorem ggL_law_X12_clear : GoodIn wsL_law wsX12_clear := goodIn_r _ [225, 194, 843, 844, 845, 846, 847, 848, 849, 850, 851, 852, 853, 854, 855, 856, 857, 858, 859, 860, 861, 862, 863, 864, 865, 866, 867, 868, 869, 870, 871, 872, 873, 874, 875, 876, 877, 878, 879, 880, 881] rfl (by decide +kernel)
set_option maxRecDepth 100000 in
set_option maxHeartbeats 4000000 in
theorem gL_law_X12_clear : GoodIn wsL_law (wsV RL 37 RX12 yX12_clear wsX12_clear) := goodIn_app (goodIn_of _ (by decide +kernel)) ggL_law_X12_clear
set_option maxRecDepth 100000 in
set_option maxHeartbeats 4000000 in
theorem ggL_law_X11_count : GoodIn wsL_law wsX11_count := goodIn_r _ [229, 24, 177, 178, 179, 2, 180, 17, 826, 827, 828, 829, 830, 831, 832, 833, 834, 835, 836, 837, 838, 839, 840, 841, 842] rfl (by decide +kernel)
set_option maxRecDepth 100000 in
set_option maxHeartbeats 4000000 in
theorem gL_law_X11_count : GoodIn wsL_law (wsV RL 38 RX11 yX11_count wsX11_count) := goodIn_app (goodIn_of _ (by decide +kernel)) ggL_law_X11_count
set_option maxRecDepth 100000 in
set_option maxHeartbeats 4000000 in
theorem ggL_law_X12_count : GoodIn wsL_law wsX12_count := goodIn_r _ [233, 195, 196, 197, 5, 198, 171, 199, 200, 201, 234, 235, 236, 237, 194, 143, 843, 844, 845, 846, 847, 848, 849, 850, 851, 852, 853, 854, 855, 856, 857, 858, 859, 860, 861, 862, 863, 864, 865, 866, 867, 868, 869, 870, 871, 872, 873, 874, 875, 876, 877, 878, 879, 880, 881] rfl (by decide +kernel)
set_option maxRecDepth 100000 in
set_option maxHeartbeats 4000000 in
theorem gL_law_X12_count : GoodIn wsL_law (wsV RL 41 RX12 yX12_count wsX12_count) := goodIn_app (goodIn_of _ (by decide +kernel)) ggL_law_X12_count
set_option maxRecDepth 100000 in
set_option maxHeartbeats 4000000 in
theorem ggL_law_X11_build : GoodIn wsL_law wsX11_build := goodIn_r _ [241, 242, 22, 243, 28, 24, 18, 244, 245, 36, 56, 246, 247, 248, 27, 249, 250, 73, 74, 251, 252, 253, 2, 254, 32, 40, 44, 255, 256, 257, 31, 258, 81, 259, 260, 261, 262, 84, 263, 264, 265, 266, 267, 268, 269, 270, 271, 272, 273, 274, 275, 82, 276, 277, 278, 279, 83, 280, 281, 282, 283, 284, 285, 286, 287, 288, 289, 290, 291, 292, 293, 76, 294, 295, 296, 297, 298, 299, 300, 35, 301, 94, 89, 302, 303, 304, 305, 60, 306, 307, 308, 309, 310, 311, 312, 91, 92, 90, 313, 314, 315, 316, 317, 318, 319, 320, 99, 321, 322, 323, 324, 100, 325, 326, 327, 328, 329, 219, 220, 221, 330, 331, 332, 333, 334, 335, 336, 337, 338, 339, 340, 39, 341, 105, 104, 342, 343, 344, 345, 346, 347, 348, 349, 350, 351, 352, 353, 354, 355, 356, 357, 358, 359, 360, 361, 362, 363, 364, 365, 366, 367, 368, 108, 369, 370, 111, 112, 371, 372, 373, 374, 375, 376, 377, 378, 379, 380, 381, 382, 383, 384, 43, 385, 386, 387, 388, 389, 390, 391, 392, 393, 394, 395, 396, 397, 398, 399, 400, 401, 402, 403, 75, 404, 405, 406, 407, 408, 409, 55, 410, 135, 411, 412, 413, 414, 415, 416, 137, 417, 418, 419, 420, 421, 422, 423, 424, 133, 425, 426, 427, 428, 136, 429, 430, 431, 432, 134, 433, 434, 435, 436, 437, 438, 439, 440, 441, 442, 443, 444, 445, 446, 447, 448, 826, 827, 828, 829, 830, 831, 832, 833, 834, 835, 836, 837, 838, 839, 840, 841, 842, 882, 883, 884, 885, 886, 887, 888, 889, 890, 891, 892, 893, 894, 895, 896, 897, 898, 899, 900, 923, 924, 925, 926, 901, 902, 903, 904, 905, 906, 907, 908, 914, 915, 916, 917, 918, 919, 920, 921, 922] rfl (by decide +kernel)
set_option maxRecDepth 100000 in
set_option maxHeartbeats 4000000 in
theorem gL_law_X11_build : GoodIn wsL_law (wsV RL 42 RX11 yX11_build wsX11_build) := goodIn_app (goodIn_of _ (by decide +kernel)) ggL_law_X11_build
set_option maxRecDepth 100000 in
set_option maxHeartbeats 4000000 in
theorem ggL_law_X12_build : GoodIn wsL_law wsX12_build := goodIn_r _ [452, 453, 194, 454, 172, 455, 456, 152, 457, 171, 144, 150, 151, 458, 459, 199, 200, 5, 201, 460, 461, 462, 463, 234, 235, 236, 237, 143, 464, 465, 466, 467, 153, 154, 468, 469, 470, 471, 472, 473, 474, 475, 476, 477, 478, 479, 155, 480, 481, 482, 483, 484, 485, 486, 487, 158, 156, 157, 488, 489, 490, 491, 159, 160, 161, 492, 493, 494, 495, 496, 497, 498, 499, 500, 501, 502, 503, 504, 145, 505, 506, 507, 508, 509, 510, 511, 512, 843, 844, 845, 846, 847, 848, 849, 850, 851, 852, 853, 854, 855, 856, 857, 858, 859, 860, 861, 862, 863, 864, 865, 866, 867, 868, 869, 870, 871, 872, 873, 874, 875, 876, 877, 878, 879, 880, 881] rfl (by decide +kernel)
set_option maxRecDepth 100000 in
set_option maxHeartbeats 4000000 in
theorem gL_law_X12_build : GoodIn wsL_law (wsV RL 46 RX12 yX12_build wsX12_build) := goodIn_app (goodIn_of _ (by decide +kernel)) ggL_law_X12_build
set_option maxRecDepth 100000 in
set_option maxHeartbeats 4000000 in
theorem ggL_law_X11_length : GoodIn wsL_law wsX11_length := goodIn_r _ [516, 56, 177, 178, 179, 2, 180, 17, 826, 827, 828, 829, 830, 831, 832, 833, 834, 835, 836, 837, 838, 839, 840, 841, 842, 914, 915, 916, 917, 918, 919, 920, 921, 922] rfl (by decide +kernel)
set_option maxRecDepth 100000 in
set_option maxHeartbeats 4000000 in
theorem gL_law_X11_length : GoodIn wsL_law (wsV RL 47 RX11 yX11_length wsX11_length) := goodIn_app (goodIn_of _ (by decide +kernel)) ggL_law_X11_length
set_option maxRecDepth 100000 in
set_option maxHeartbeats 4000000 in
theorem ggL_law_X12_length : GoodIn wsL_law wsX12_length := goodIn_r _ [520, 144, 195, 196, 197, 5, 198, 171, 199, 200, 201, 843, 844, 845, 846, 847, 848, 849, 850, 851, 852, 853, 854, 855, 856, 857, 858, 859, 860, 861, 862, 863, 864, 865, 866, 867, 868, 869, 870, 871, 872, 873, 874, 875, 876, 877, 878, 879, 880, 881] rfl (by decide +kernel)
set_option maxRecDepth 100000 in
set_option maxHeartbeats 4000000 in
theorem gL_law_X12_length : GoodIn wsL_law (wsV RL 50 RX12 yX12_length wsX12_length) := goodIn_app (goodIn_of _ (by decide +kernel)) ggL_law_X12_length
set_option maxRecDepth 100000 in
set_option maxHeartbeats 4000000 in
theorem ggL_law_X11_poke : GoodIn wsL_law wsX11_poke := goodIn_r _ [524, 18, 56, 177, 178, 179, 2, 180, 17, 826, 827, 828, 829, 830, 831, 832, 833, 834, 835, 836, 837, 838, 839, 840, 841, 842, 914, 915, 916, 917, 918, 919, 920, 921, 922] rfl (by decide +kernel)
set_option maxRecDepth 100000 in
set_option maxHeartbeats 4000000 in
theorem gL_law_X11_poke : GoodIn wsL_law (wsV RL 51 RX11 yX11_poke wsX11_poke) := goodIn_app (goodIn_of _ (by decide +kernel)) ggL_law_X11_poke
