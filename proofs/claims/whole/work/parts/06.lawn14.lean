set_option maxRecDepth 20000 in
theorem ggL_law_X9_slow : GoodIn wsL_law wsX9_slow := goodIn_r _ [314, 50, 28, 295, 20, 296, 297, 298, 49, 299, 113, 315, 316, 317, 19, 318, 67, 63, 65, 66, 319, 320, 321, 322, 888, 889, 890, 891, 892, 893, 894, 895, 896, 897, 898, 899, 900, 943, 944, 945, 960, 961, 962, 963, 964, 965, 966, 967, 968, 969, 970, 935, 936, 937, 938] (by decide +kernel) (by decide +kernel)
set_option maxRecDepth 20000 in
theorem gL_law_X9_slow : GoodIn wsL_law (wsV RL 36 RX9 yX9_slow wsX9_slow) := goodIn_app (goodIn_of _ (by decide +kernel)) ggL_law_X9_slow
set_option maxRecDepth 20000 in
theorem ggL_law_X10_slow : GoodIn wsL_law wsX10_slow := goodIn_r _ [326, 327, 127, 304, 305, 306, 5, 307, 267, 160, 161, 162, 328, 329, 330, 331, 142, 332, 268, 901, 902, 903, 904, 905, 906, 907, 908, 909, 910, 911, 912, 913, 914, 915, 916, 917, 918, 919, 920, 921, 922, 923, 924, 925, 926, 927, 928, 929, 930, 931] (by decide +kernel) (by decide +kernel)
set_option maxRecDepth 20000 in
theorem gL_law_X10_slow : GoodIn wsL_law (wsV RL 39 RX10 yX10_slow wsX10_slow) := goodIn_app (goodIn_of _ (by decide +kernel)) ggL_law_X10_slow
set_option maxRecDepth 20000 in
theorem ggL_law_X9_turn : GoodIn wsL_law wsX9_turn := goodIn_r _ [336, 50, 28, 292, 20, 296, 297, 298, 49, 299, 113, 315, 316, 317, 19, 318, 67, 63, 65, 66, 319, 320, 321, 322, 888, 889, 890, 891, 892, 893, 894, 895, 896, 897, 898, 899, 900, 943, 944, 945, 960, 961, 962, 963, 964, 965, 966, 967, 968, 969, 970, 935, 936, 937, 938] (by decide +kernel) (by decide +kernel)
set_option maxRecDepth 20000 in
theorem gL_law_X9_turn : GoodIn wsL_law (wsV RL 40 RX9 yX9_turn wsX9_turn) := goodIn_app (goodIn_of _ (by decide +kernel)) ggL_law_X9_turn
set_option maxRecDepth 20000 in
theorem ggL_law_X10_turn : GoodIn wsL_law wsX10_turn := goodIn_r _ [340, 341, 127, 304, 305, 306, 5, 307, 267, 160, 161, 162, 328, 329, 330, 331, 142, 332, 268, 901, 902, 903, 904, 905, 906, 907, 908, 909, 910, 911, 912, 913, 914, 915, 916, 917, 918, 919, 920, 921, 922, 923, 924, 925, 926, 927, 928, 929, 930, 931] (by decide +kernel) (by decide +kernel)
set_option maxRecDepth 20000 in
theorem gL_law_X10_turn : GoodIn wsL_law (wsV RL 43 RX10 yX10_turn wsX10_turn) := goodIn_app (goodIn_of _ (by decide +kernel)) ggL_law_X10_turn
set_option maxRecDepth 20000 in
theorem ggL_law_X9_undo : GoodIn wsL_law wsX9_undo := goodIn_r _ [345, 20, 242, 28, 346, 347, 348, 19, 349, 65, 350, 63, 66, 351, 888, 889, 890, 891, 892, 893, 894, 895, 896, 897, 898, 899, 900, 935, 936, 937, 938, 943, 944, 945] (by decide +kernel) (by decide +kernel)
set_option maxRecDepth 20000 in
theorem gL_law_X9_undo : GoodIn wsL_law (wsV RL 44 RX9 yX9_undo wsX9_undo) := goodIn_app (goodIn_of _ (by decide +kernel)) ggL_law_X9_undo
set_option maxRecDepth 20000 in
theorem ggL_law_X10_undo : GoodIn wsL_law wsX10_undo := goodIn_r _ [355, 268, 332, 127, 142, 901, 902, 903, 904, 905, 906, 907, 908, 909, 910, 911, 912, 913, 914, 915, 916, 917, 918, 919, 920, 921, 922, 923, 924, 925, 926, 927, 928, 929, 930, 931] (by decide +kernel) (by decide +kernel)
set_option maxRecDepth 20000 in
theorem gL_law_X10_undo : GoodIn wsL_law (wsV RL 47 RX10 yX10_undo wsX10_undo) := goodIn_app (goodIn_of _ (by decide +kernel)) ggL_law_X10_undo
