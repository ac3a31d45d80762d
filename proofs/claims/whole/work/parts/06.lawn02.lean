theorem lwi_wsL_law_r15 : ∀ w ∈ wsL_law_r15, w ∈ lw_tbl := fun w h => (goodIn_p wsL_law_r15 [440, 1038, 444, 448, 1043, 452] (by decide +kernel) (by decide +kernel) w h).1
theorem lwi_wsL_law_r16 : ∀ w ∈ wsL_law_r16, w ∈ lw_tbl := fun w h => (goodIn_p wsL_law_r16 [456, 460, 464, 916, 920] (by decide +kernel) (by decide +kernel) w h).1
theorem lwi_wsL_law_r17 : ∀ w ∈ wsL_law_r17, w ∈ lw_tbl := fun w h => (goodIn_p wsL_law_r17 [923, 927, 468, 931, 935, 472] (by decide +kernel) (by decide +kernel) w h).1
theorem lwi_wsL_law_r18 : ∀ w ∈ wsL_law_r18, w ∈ lw_tbl := fun w h => (goodIn_p wsL_law_r18 [476, 480, 484, 488, 491, 494] (by decide +kernel) (by decide +kernel) w h).1
theorem lwi_wsL_law_r19 : ∀ w ∈ wsL_law_r19, w ∈ lw_tbl := fun w h => (goodIn_p wsL_law_r19 [497, 500, 504, 507, 939, 943] (by decide +kernel) (by decide +kernel) w h).1
theorem lwi_wsL_law_r20 : ∀ w ∈ wsL_law_r20, w ∈ lw_tbl := fun w h => (goodIn_p wsL_law_r20 [947, 950, 953, 956, 511, 515, 960] (by decide +kernel) (by decide +kernel) w h).1
theorem lwi_wsL_law_r21 : ∀ w ∈ wsL_law_r21, w ∈ lw_tbl := fun w h => (goodIn_p wsL_law_r21 [964, 519, 523, 527] (by decide +kernel) (by decide +kernel) w h).1
