theorem lwi_wsL_law_r15 : ∀ w ∈ wsL_law_r15, w ∈ lw_tbl := fun w h => (goodIn_p wsL_law_r15 [441, 1038, 445, 449, 1043, 453] (by decide +kernel) (by decide +kernel) w h).1
theorem lwi_wsL_law_r16 : ∀ w ∈ wsL_law_r16, w ∈ lw_tbl := fun w h => (goodIn_p wsL_law_r16 [457, 461, 465, 916, 920] (by decide +kernel) (by decide +kernel) w h).1
theorem lwi_wsL_law_r17 : ∀ w ∈ wsL_law_r17, w ∈ lw_tbl := fun w h => (goodIn_p wsL_law_r17 [923, 927, 469, 931, 935, 473] (by decide +kernel) (by decide +kernel) w h).1
theorem lwi_wsL_law_r18 : ∀ w ∈ wsL_law_r18, w ∈ lw_tbl := fun w h => (goodIn_p wsL_law_r18 [477, 481, 485, 489, 492, 495] (by decide +kernel) (by decide +kernel) w h).1
theorem lwi_wsL_law_r19 : ∀ w ∈ wsL_law_r19, w ∈ lw_tbl := fun w h => (goodIn_p wsL_law_r19 [498, 501, 504, 508, 939, 943] (by decide +kernel) (by decide +kernel) w h).1
theorem lwi_wsL_law_r20 : ∀ w ∈ wsL_law_r20, w ∈ lw_tbl := fun w h => (goodIn_p wsL_law_r20 [947, 950, 953, 956, 512, 516, 960] (by decide +kernel) (by decide +kernel) w h).1
theorem lwi_wsL_law_r21 : ∀ w ∈ wsL_law_r21, w ∈ lw_tbl := fun w h => (goodIn_p wsL_law_r21 [964, 520, 524, 528] (by decide +kernel) (by decide +kernel) w h).1
