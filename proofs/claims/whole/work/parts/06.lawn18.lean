set_option maxRecDepth 20000 in
theorem ggL_law_X9_judge : GoodIn wsL_law wsX9_judge := goodIn_r _ [671, 672, 29, 28, 673, 674, 675, 676, 677, 678, 679, 27, 680, 78, 79, 681, 682, 683, 2, 684, 50, 295, 38, 292, 685, 686, 687, 688, 296, 297, 298, 49, 299, 113, 689, 690, 691, 692, 362, 363, 364, 365, 114, 366, 367, 368, 369, 120, 121, 693, 694, 695, 696, 244, 488, 489, 490, 37, 491, 492, 97, 493, 494, 495, 496, 92, 94, 95, 91, 497, 498, 499, 500, 96, 501, 407, 408, 409, 410, 411, 412, 413, 414, 415, 416, 417, 112, 502, 419, 420, 33, 421, 422, 84, 85, 86, 423, 424, 425, 426, 427, 428, 429, 430, 431, 432, 433, 434, 435, 436, 437, 438, 439, 440, 441, 442, 443, 444, 503, 504, 505, 506, 507, 508, 509, 510, 511, 512, 513, 697, 698, 699, 700, 701, 515, 516, 517, 540, 541, 542, 543, 544, 545, 546, 547, 548, 549, 550, 551, 552, 553, 554, 555, 122, 556, 557, 558, 559, 119, 560, 888, 889, 890, 891, 892, 893, 894, 895, 896, 897, 898, 899, 900, 943, 944, 945, 960, 961, 962, 963, 964, 965, 966, 967, 968, 969, 970, 949, 950, 951, 952, 953, 954, 946, 947, 948] (by decide +kernel) (by decide +kernel)
set_option maxRecDepth 20000 in
theorem gL_law_X9_judge : GoodIn wsL_law (wsV RL 88 RX9 yX9_judge wsX9_judge) := goodIn_app (goodIn_of _ (by decide +kernel)) ggL_law_X9_judge
set_option maxRecDepth 20000 in
theorem ggL_law_X10_judge : GoodIn wsL_law wsX10_judge := goodIn_r _ [705, 706, 707, 160, 161, 5, 162, 708, 709, 710, 711, 712, 713, 714, 127, 715, 716, 717, 718, 135, 136, 304, 305, 306, 307, 267, 378, 379, 380, 381, 269, 385, 386, 387, 388, 277, 278, 279, 719, 720, 721, 722, 528, 529, 530, 531, 449, 450, 451, 452, 158, 266, 453, 454, 455, 456, 137, 138, 139, 129, 128, 457, 458, 459, 460, 461, 462, 463, 464, 465, 532, 533, 534, 535, 130, 480, 481, 482, 483, 565, 566, 567, 568, 569, 570, 571, 572, 573, 574, 575, 901, 902, 903, 904, 905, 906, 907, 908, 909, 910, 911, 912, 913, 914, 915, 916, 917, 918, 919, 920, 921, 922, 923, 924, 925, 926, 927, 928, 929, 930, 931] (by decide +kernel) (by decide +kernel)
set_option maxRecDepth 20000 in
theorem gL_law_X10_judge : GoodIn wsL_law (wsV RL 92 RX10 yX10_judge wsX10_judge) := goodIn_app (goodIn_of _ (by decide +kernel)) ggL_law_X10_judge
set_option maxRecDepth 20000 in
theorem ggL_law_X9_see : GoodIn wsL_law wsX9_see := goodIn_r _ [726, 24, 727, 728, 729, 730, 23, 731, 74, 71, 72, 73, 888, 889, 890, 891, 892, 893, 894, 895, 896, 897, 898, 899, 900, 939, 940, 941, 942] (by decide +kernel) (by decide +kernel)
set_option maxRecDepth 20000 in
theorem gL_law_X9_see : GoodIn wsL_law (wsV RL 93 RX9 yX9_see wsX9_see) := goodIn_app (goodIn_of _ (by decide +kernel)) ggL_law_X9_see
set_option maxRecDepth 20000 in
theorem ggL_law_X10_see : GoodIn wsL_law wsX10_see := goodIn_r _ [735, 158, 641, 736, 143, 144, 145, 160, 161, 5, 162, 901, 902, 903, 904, 905, 906, 907, 908, 909, 910, 911, 912, 913, 914, 915, 916, 917, 918, 919, 920, 921, 922, 923, 924, 925, 926, 927, 928, 929, 930, 931] (by decide +kernel) (by decide +kernel)
set_option maxRecDepth 20000 in
theorem gL_law_X10_see : GoodIn wsL_law (wsV RL 96 RX10 yX10_see wsX10_see) := goodIn_app (goodIn_of _ (by decide +kernel)) ggL_law_X10_see
set_option maxRecDepth 20000 in
theorem ggL_law_X9_unsee : GoodIn wsL_law wsX9_unsee := goodIn_r _ [740, 24, 727, 888, 889, 890, 891, 892, 893, 894, 895, 896, 897, 898, 899, 900, 939, 940, 941, 942] (by decide +kernel) (by decide +kernel)
set_option maxRecDepth 20000 in
theorem gL_law_X9_unsee : GoodIn wsL_law (wsV RL 97 RX9 yX9_unsee wsX9_unsee) := goodIn_app (goodIn_of _ (by decide +kernel)) ggL_law_X9_unsee
set_option maxRecDepth 20000 in
theorem ggL_law_X10_unsee : GoodIn wsL_law wsX10_unsee := goodIn_r _ [744, 736, 901, 902, 903, 904, 905, 906, 907, 908, 909, 910, 911, 912, 913, 914, 915, 916, 917, 918, 919, 920, 921, 922, 923, 924, 925, 926, 927, 928, 929, 930, 931] (by decide +kernel) (by decide +kernel)
set_option maxRecDepth 20000 in
theorem gL_law_X10_unsee : GoodIn wsL_law (wsV RL 100 RX10 yX10_unsee wsX10_unsee) := goodIn_app (goodIn_of _ (by decide +kernel)) ggL_law_X10_unsee
