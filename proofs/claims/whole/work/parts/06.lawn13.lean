set_option maxRecDepth 20000 in
theorem ggL_law_X9_fault : GoodIn wsL_law wsX9_fault := goodIn_r _ [174, 16, 51, 175, 176, 177, 15, 178, 59, 179, 180, 181, 58, 182, 183, 184, 185, 186, 187, 188, 189, 57, 190, 191, 192, 193, 194, 195, 196, 197, 198, 199, 200, 201, 202, 203, 204, 205, 206, 207, 208, 209, 210, 211, 212, 888, 889, 890, 891, 892, 893, 894, 895, 896, 897, 898, 899, 900, 932, 933, 934, 960, 961, 962, 963, 964, 965, 966, 967, 968, 969, 970] (by decide +kernel) (by decide +kernel)
set_option maxRecDepth 20000 in
theorem gL_law_X9_fault : GoodIn wsL_law (wsV RL 23 RX9 yX9_fault wsX9_fault) := goodIn_app (goodIn_of _ (by decide +kernel)) ggL_law_X9_fault
set_option maxRecDepth 20000 in
theorem ggL_law_X10_fault : GoodIn wsL_law wsX10_fault := goodIn_r _ [216, 217, 218, 219, 5, 220, 221, 222, 159, 134, 223, 224, 127, 131, 132, 160, 161, 162, 225, 226, 227, 228, 229, 230, 231, 232, 233, 234, 235, 236, 237, 133, 901, 902, 903, 904, 905, 906, 907, 908, 909, 910, 911, 912, 913, 914, 915, 916, 917, 918, 919, 920, 921, 922, 923, 924, 925, 926, 927, 928, 929, 930, 931] (by decide +kernel) (by decide +kernel)
set_option maxRecDepth 20000 in
theorem gL_law_X10_fault : GoodIn wsL_law (wsV RL 26 RX10 yX10_fault wsX10_fault) := goodIn_app (goodIn_of _ (by decide +kernel)) ggL_law_X10_fault
set_option maxRecDepth 20000 in
theorem ggL_law_X9_circuit : GoodIn wsL_law wsX9_circuit := goodIn_r _ [241, 16, 51, 50, 28, 20, 242, 38, 30, 243, 244, 175, 176, 177, 15, 178, 59, 179, 180, 181, 58, 182, 183, 184, 185, 186, 187, 188, 189, 57, 190, 191, 192, 193, 194, 195, 196, 197, 198, 199, 200, 201, 202, 203, 204, 205, 206, 207, 208, 209, 210, 211, 212, 245, 246, 247, 49, 248, 114, 112, 113, 249, 250, 251, 252, 116, 117, 121, 119, 120, 122, 253, 254, 255, 27, 256, 78, 257, 79, 258, 259, 260, 37, 261, 97, 888, 889, 890, 891, 892, 893, 894, 895, 896, 897, 898, 899, 900, 935, 936, 937, 938, 943, 944, 945, 960, 961, 962, 963, 964, 965, 966, 967, 968, 969, 970, 932, 933, 934, 949, 950, 951, 952, 953, 954] (by decide +kernel) (by decide +kernel)
set_option maxRecDepth 20000 in
theorem gL_law_X9_circuit : GoodIn wsL_law (wsV RL 27 RX9 yX9_circuit wsX9_circuit) := goodIn_app (goodIn_of _ (by decide +kernel)) ggL_law_X9_circuit
set_option maxRecDepth 20000 in
theorem ggL_law_X10_circuit : GoodIn wsL_law wsX10_circuit := goodIn_r _ [265, 222, 266, 221, 267, 127, 128, 131, 129, 132, 130, 133, 268, 146, 269, 217, 218, 219, 5, 220, 159, 134, 223, 224, 160, 161, 162, 225, 226, 227, 228, 229, 230, 231, 232, 233, 234, 235, 236, 237, 270, 271, 272, 273, 135, 136, 274, 275, 276, 277, 278, 279, 280, 281, 282, 283, 284, 285, 286, 287, 901, 902, 903, 904, 905, 906, 907, 908, 909, 910, 911, 912, 913, 914, 915, 916, 917, 918, 919, 920, 921, 922, 923, 924, 925, 926, 927, 928, 929, 930, 931] (by decide +kernel) (by decide +kernel)
set_option maxRecDepth 20000 in
theorem gL_law_X10_circuit : GoodIn wsL_law (wsV RL 30 RX10 yX10_circuit wsX10_circuit) := goodIn_app (goodIn_of _ (by decide +kernel)) ggL_law_X10_circuit
set_option maxRecDepth 20000 in
theorem ggL_law_X9_gate : GoodIn wsL_law wsX9_gate := goodIn_r _ [291, 50, 28, 292, 293, 294, 295, 296, 297, 298, 49, 299, 113, 888, 889, 890, 891, 892, 893, 894, 895, 896, 897, 898, 899, 900, 943, 944, 945, 960, 961, 962, 963, 964, 965, 966, 967, 968, 969, 970] (by decide +kernel) (by decide +kernel)
set_option maxRecDepth 20000 in
theorem gL_law_X9_gate : GoodIn wsL_law (wsV RL 31 RX9 yX9_gate wsX9_gate) := goodIn_app (goodIn_of _ (by decide +kernel)) ggL_law_X9_gate
set_option maxRecDepth 20000 in
theorem ggL_law_X10_gate : GoodIn wsL_law wsX10_gate := goodIn_r _ [303, 127, 128, 129, 304, 305, 306, 5, 307, 267, 160, 161, 162, 308, 309, 310, 901, 902, 903, 904, 905, 906, 907, 908, 909, 910, 911, 912, 913, 914, 915, 916, 917, 918, 919, 920, 921, 922, 923, 924, 925, 926, 927, 928, 929, 930, 931] (by decide +kernel) (by decide +kernel)
set_option maxRecDepth 20000 in
theorem gL_law_X10_gate : GoodIn wsL_law (wsV RL 35 RX10 yX10_gate wsX10_gate) := goodIn_app (goodIn_of _ (by decide +kernel)) ggL_law_X10_gate
