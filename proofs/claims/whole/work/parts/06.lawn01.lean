theorem lwi_wsL_law_r8 : ∀ w ∈ wsL_law_r8, w ∈ lw_tbl := fun w h => (goodIn_p wsL_law_r8 [856, 365, 369, 373, 377] (by decide +kernel) (by decide +kernel) w h).1
theorem lwi_wsL_law_r9 : ∀ w ∈ wsL_law_r9, w ∈ lw_tbl := fun w h => (goodIn_p wsL_law_r9 [381, 385, 388, 392, 396] (by decide +kernel) (by decide +kernel) w h).1
theorem lwi_wsL_law_r10 : ∀ w ∈ wsL_law_r10, w ∈ lw_tbl := fun w h => (goodIn_p wsL_law_r10 [860, 864, 869, 873, 879] (by decide +kernel) (by decide +kernel) w h).1
theorem lwi_wsL_law_r11 : ∀ w ∈ wsL_law_r11, w ∈ lw_tbl := fun w h => (goodIn_p wsL_law_r11 [400, 404, 408, 412, 416] (by decide +kernel) (by decide +kernel) w h).1
theorem lwi_wsL_law_r12 : ∀ w ∈ wsL_law_r12, w ∈ lw_tbl := fun w h => (goodIn_p wsL_law_r12 [883, 887, 890, 893, 897, 901] (by decide +kernel) (by decide +kernel) w h).1
theorem lwi_wsL_law_r13 : ∀ w ∈ wsL_law_r13, w ∈ lw_tbl := fun w h => (goodIn_p wsL_law_r13 [420, 424, 905, 909, 912] (by decide +kernel) (by decide +kernel) w h).1
theorem lwi_wsL_law_r14 : ∀ w ∈ wsL_law_r14, w ∈ lw_tbl := fun w h => (goodIn_p wsL_law_r14 [428, 432, 436, 1029, 1034] (by decide +kernel) (by decide +kernel) w h).1
