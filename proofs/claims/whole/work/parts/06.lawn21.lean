set_option maxRecDepth 20000 in
theorem ggL_law_X9_again : GoodIn wsL_law wsX9_again := goodIn_r _ [854, 30, 243, 28, 20, 242, 50, 654, 677, 678, 679, 27, 680, 78, 79, 888, 889, 890, 891, 892, 893, 894, 895, 896, 897, 898, 899, 900, 943, 944, 945, 935, 936, 937, 938, 960, 961, 962, 963, 964, 965, 966, 967, 968, 969, 970] (by decide +kernel) (by decide +kernel)
set_option maxRecDepth 20000 in
theorem gL_law_X9_again : GoodIn wsL_law (wsV RL 128 RX9 yX9_again wsX9_again) := goodIn_app (goodIn_of _ (by decide +kernel)) ggL_law_X9_again
set_option maxRecDepth 20000 in
theorem ggL_law_X10_again : GoodIn wsL_law wsX10_again := goodIn_r _ [858, 146, 127, 147, 268, 267, 160, 161, 5, 162, 901, 902, 903, 904, 905, 906, 907, 908, 909, 910, 911, 912, 913, 914, 915, 916, 917, 918, 919, 920, 921, 922, 923, 924, 925, 926, 927, 928, 929, 930, 931] (by decide +kernel) (by decide +kernel)
set_option maxRecDepth 20000 in
theorem gL_law_X10_again : GoodIn wsL_law (wsV RL 131 RX10 yX10_again wsX10_again) := goodIn_app (goodIn_of _ (by decide +kernel)) ggL_law_X10_again
set_option maxRecDepth 20000 in
theorem ggL_law_X9_count : GoodIn wsL_law wsX9_count := goodIn_r _ [862, 16, 152, 50, 863, 654, 244, 38, 28, 292, 20, 242, 24, 727, 864, 488, 489, 490, 37, 491, 492, 97, 493, 494, 495, 496, 92, 94, 95, 91, 497, 498, 499, 500, 96, 501, 407, 408, 49, 409, 410, 411, 412, 413, 414, 415, 416, 417, 112, 502, 419, 420, 33, 421, 422, 84, 85, 86, 423, 424, 425, 426, 427, 428, 429, 430, 431, 432, 433, 434, 435, 436, 437, 438, 439, 440, 441, 442, 443, 444, 503, 504, 505, 506, 507, 508, 509, 510, 511, 512, 513, 865, 866, 867, 868, 589, 590, 591, 592, 593, 594, 595, 869, 870, 871, 27, 872, 873, 79, 888, 889, 890, 891, 892, 893, 894, 895, 896, 897, 898, 899, 900, 932, 933, 934, 960, 961, 962, 963, 964, 965, 966, 967, 968, 969, 970, 943, 944, 945, 935, 936, 937, 938, 939, 940, 941, 942, 949, 950, 951, 952, 953, 954, 946, 947, 948] (by decide +kernel) (by decide +kernel)
set_option maxRecDepth 20000 in
theorem gL_law_X9_count : GoodIn wsL_law (wsV RL 132 RX9 yX9_count wsX9_count) := goodIn_app (goodIn_of _ (by decide +kernel)) ggL_law_X9_count
set_option maxRecDepth 20000 in
theorem ggL_law_X10_count : GoodIn wsL_law wsX10_count := goodIn_r _ [877, 878, 879, 266, 130, 159, 267, 269, 268, 736, 160, 161, 5, 162, 308, 309, 310, 880, 881, 882, 883, 135, 136, 528, 529, 530, 531, 449, 450, 451, 452, 158, 277, 278, 279, 453, 454, 455, 456, 137, 138, 139, 127, 129, 128, 457, 458, 459, 460, 461, 462, 463, 464, 465, 532, 533, 534, 535, 480, 481, 482, 483, 884, 885, 886, 887, 901, 902, 903, 904, 905, 906, 907, 908, 909, 910, 911, 912, 913, 914, 915, 916, 917, 918, 919, 920, 921, 922, 923, 924, 925, 926, 927, 928, 929, 930, 931] (by decide +kernel) (by decide +kernel)
set_option maxRecDepth 20000 in
theorem gL_law_X10_count : GoodIn wsL_law (wsV RL 135 RX10 yX10_count wsX10_count) := goodIn_app (goodIn_of _ (by decide +kernel)) ggL_law_X10_count
