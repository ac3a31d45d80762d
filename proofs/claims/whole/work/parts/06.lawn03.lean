theorem lwi_wsL_law_r22 : ∀ w ∈ wsL_law_r22, w ∈ lw_tbl := fun w h => (goodIn_p wsL_law_r22 [534, 538, 542, 546, 968] (by decide +kernel) (by decide +kernel) w h).1
theorem lwi_wsL_law_r23 : ∀ w ∈ wsL_law_r23, w ∈ lw_tbl := fun w h => (goodIn_p wsL_law_r23 [973, 977, 551, 555, 559, 562] (by decide +kernel) (by decide +kernel) w h).1
theorem lwi_wsL_law_r24 : ∀ w ∈ wsL_law_r24, w ∈ lw_tbl := fun w h => (goodIn_p wsL_law_r24 [566, 570, 981, 985, 989, 992] (by decide +kernel) (by decide +kernel) w h).1
theorem lwi_wsL_law_r25 : ∀ w ∈ wsL_law_r25, w ∈ lw_tbl := fun w h => (goodIn_p wsL_law_r25 [575, 579, 583, 587] (by decide +kernel) (by decide +kernel) w h).1
theorem lwi_wsL_law_r26 : ∀ w ∈ wsL_law_r26, w ∈ lw_tbl := fun w h => (goodIn_p wsL_law_r26 [996, 1000, 1004, 595, 599, 602] (by decide +kernel) (by decide +kernel) w h).1
theorem lwi_wsL_law_r27 : ∀ w ∈ wsL_law_r27, w ∈ lw_tbl := fun w h => (goodIn_p wsL_law_r27 [607, 611, 615, 1008, 1013] (by decide +kernel) (by decide +kernel) w h).1
theorem lwi_wsL_law_r28 : ∀ w ∈ wsL_law_r28, w ∈ lw_tbl := fun w h => (goodIn_p wsL_law_r28 [1017, 619, 623, 1021, 1025, 628] (by decide +kernel) (by decide +kernel) w h).1
