theorem lwi_wsL_law_r22 : ∀ w ∈ wsL_law_r22, w ∈ lw_tbl := fun w h => (goodIn_p wsL_law_r22 [533, 537, 541, 545, 968] (by decide +kernel) (by decide +kernel) w h).1
theorem lwi_wsL_law_r23 : ∀ w ∈ wsL_law_r23, w ∈ lw_tbl := fun w h => (goodIn_p wsL_law_r23 [973, 977, 550, 554, 558, 561] (by decide +kernel) (by decide +kernel) w h).1
theorem lwi_wsL_law_r24 : ∀ w ∈ wsL_law_r24, w ∈ lw_tbl := fun w h => (goodIn_p wsL_law_r24 [565, 569, 981, 985, 989, 992] (by decide +kernel) (by decide +kernel) w h).1
theorem lwi_wsL_law_r25 : ∀ w ∈ wsL_law_r25, w ∈ lw_tbl := fun w h => (goodIn_p wsL_law_r25 [574, 578, 582, 586] (by decide +kernel) (by decide +kernel) w h).1
theorem lwi_wsL_law_r26 : ∀ w ∈ wsL_law_r26, w ∈ lw_tbl := fun w h => (goodIn_p wsL_law_r26 [996, 1000, 1004, 594, 598, 601] (by decide +kernel) (by decide +kernel) w h).1
theorem lwi_wsL_law_r27 : ∀ w ∈ wsL_law_r27, w ∈ lw_tbl := fun w h => (goodIn_p wsL_law_r27 [606, 610, 614, 1008, 1013] (by decide +kernel) (by decide +kernel) w h).1
theorem lwi_wsL_law_r28 : ∀ w ∈ wsL_law_r28, w ∈ lw_tbl := fun w h => (goodIn_p wsL_law_r28 [1017, 618, 622, 1021, 1025, 627] (by decide +kernel) (by decide +kernel) w h).1
