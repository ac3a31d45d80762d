set_option maxRecDepth 20000 in
theorem ggL_law_X9_packed : GoodIn wsL_law wsX9_packed := goodIn_r _ [579, 38, 50, 28, 292, 488, 489, 490, 37, 491, 492, 97, 493, 494, 495, 496, 92, 94, 95, 91, 497, 498, 499, 500, 96, 501, 407, 408, 49, 409, 410, 411, 412, 413, 414, 415, 416, 417, 112, 502, 419, 420, 33, 421, 422, 84, 85, 86, 423, 424, 425, 426, 427, 428, 429, 430, 431, 432, 433, 434, 435, 436, 437, 438, 439, 440, 441, 442, 443, 444, 503, 504, 505, 506, 507, 508, 509, 510, 511, 512, 513, 580, 581, 582, 583, 584, 585, 586, 587, 588, 589, 590, 591, 592, 593, 594, 595, 596, 519, 520, 521, 522, 888, 889, 890, 891, 892, 893, 894, 895, 896, 897, 898, 899, 900, 943, 944, 945, 960, 961, 962, 963, 964, 965, 966, 967, 968, 969, 970, 949, 950, 951, 952, 953, 954, 946, 947, 948] (by decide +kernel) (by decide +kernel)
set_option maxRecDepth 20000 in
theorem gL_law_X9_packed : GoodIn wsL_law (wsV RL 73 RX9 yX9_packed wsX9_packed) := goodIn_app (goodIn_of _ (by decide +kernel)) ggL_law_X9_packed
set_option maxRecDepth 20000 in
theorem ggL_law_X10_packed : GoodIn wsL_law wsX10_packed := goodIn_r _ [600, 527, 140, 160, 161, 5, 162, 601, 602, 603, 604, 449, 450, 451, 452, 158, 266, 453, 454, 455, 456, 137, 138, 139, 267, 127, 129, 128, 457, 458, 459, 460, 461, 462, 463, 464, 465, 532, 533, 534, 535, 130, 605, 606, 607, 608, 269, 135, 136, 480, 481, 482, 483, 277, 278, 279, 901, 902, 903, 904, 905, 906, 907, 908, 909, 910, 911, 912, 913, 914, 915, 916, 917, 918, 919, 920, 921, 922, 923, 924, 925, 926, 927, 928, 929, 930, 931] (by decide +kernel) (by decide +kernel)
set_option maxRecDepth 20000 in
theorem gL_law_X10_packed : GoodIn wsL_law (wsV RL 76 RX10 yX10_packed wsX10_packed) := goodIn_app (goodIn_of _ (by decide +kernel)) ggL_law_X10_packed
set_option maxRecDepth 20000 in
theorem ggL_law_X9_wave : GoodIn wsL_law wsX9_wave := goodIn_r _ [612, 50, 42, 28, 292, 295, 296, 297, 298, 49, 299, 113, 406, 407, 408, 409, 410, 411, 412, 413, 414, 415, 416, 417, 112, 613, 614, 615, 41, 616, 617, 101, 102, 103, 104, 618, 619, 620, 621, 622, 623, 624, 625, 626, 627, 628, 629, 630, 631, 632, 633, 634, 635, 636, 888, 889, 890, 891, 892, 893, 894, 895, 896, 897, 898, 899, 900, 943, 944, 945, 960, 961, 962, 963, 964, 965, 966, 967, 968, 969, 970, 955, 956, 957, 958] (by decide +kernel) (by decide +kernel)
set_option maxRecDepth 20000 in
theorem gL_law_X9_wave : GoodIn wsL_law (wsV RL 77 RX9 yX9_wave wsX9_wave) := goodIn_app (goodIn_of _ (by decide +kernel)) ggL_law_X9_wave
set_option maxRecDepth 20000 in
theorem ggL_law_X10_wave : GoodIn wsL_law wsX10_wave := goodIn_r _ [640, 641, 304, 305, 306, 5, 307, 267, 160, 161, 162, 449, 450, 451, 452, 158, 266, 642, 643, 644, 645, 141, 138, 127, 129, 128, 453, 454, 455, 456, 137, 139, 457, 458, 459, 460, 461, 462, 463, 464, 465, 646, 647, 648, 649, 901, 902, 903, 904, 905, 906, 907, 908, 909, 910, 911, 912, 913, 914, 915, 916, 917, 918, 919, 920, 921, 922, 923, 924, 925, 926, 927, 928, 929, 930, 931] (by decide +kernel) (by decide +kernel)
set_option maxRecDepth 20000 in
theorem gL_law_X10_wave : GoodIn wsL_law (wsV RL 81 RX10 yX10_wave wsX10_wave) := goodIn_app (goodIn_of _ (by decide +kernel)) ggL_law_X10_wave
set_option maxRecDepth 20000 in
theorem ggL_law_X9_late : GoodIn wsL_law wsX9_late := goodIn_r _ [653, 50, 654, 42, 28, 292, 295, 406, 407, 408, 49, 409, 410, 411, 412, 413, 414, 415, 416, 417, 112, 613, 614, 615, 41, 616, 617, 101, 102, 103, 104, 618, 619, 620, 621, 622, 623, 624, 625, 626, 627, 628, 629, 630, 631, 632, 655, 656, 657, 658, 659, 634, 635, 636, 888, 889, 890, 891, 892, 893, 894, 895, 896, 897, 898, 899, 900, 960, 961, 962, 963, 964, 965, 966, 967, 968, 969, 970, 943, 944, 945, 955, 956, 957, 958] (by decide +kernel) (by decide +kernel)
set_option maxRecDepth 20000 in
theorem gL_law_X9_late : GoodIn wsL_law (wsV RL 82 RX9 yX9_late wsX9_late) := goodIn_app (goodIn_of _ (by decide +kernel)) ggL_law_X9_late
set_option maxRecDepth 20000 in
theorem ggL_law_X10_late : GoodIn wsL_law wsX10_late := goodIn_r _ [663, 641, 267, 449, 450, 451, 5, 452, 158, 266, 160, 161, 162, 664, 665, 666, 667, 138, 642, 643, 644, 645, 141, 127, 129, 128, 453, 454, 455, 456, 137, 139, 457, 458, 459, 460, 461, 462, 463, 464, 465, 646, 647, 648, 649, 901, 902, 903, 904, 905, 906, 907, 908, 909, 910, 911, 912, 913, 914, 915, 916, 917, 918, 919, 920, 921, 922, 923, 924, 925, 926, 927, 928, 929, 930, 931] (by decide +kernel) (by decide +kernel)
set_option maxRecDepth 20000 in
theorem gL_law_X10_late : GoodIn wsL_law (wsV RL 85 RX10 yX10_late wsX10_late) := goodIn_app (goodIn_of _ (by decide +kernel)) ggL_law_X10_late
