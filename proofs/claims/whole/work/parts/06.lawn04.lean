theorem lwi_wsL_law_r29 : ∀ w ∈ wsL_law_r29, w ∈ lw_tbl := fun w h => (goodIn_p wsL_law_r29 [635, 632, 639, 643, 647] (by decide +kernel) (by decide +kernel) w h).1
theorem lwi_wsL_law_r30 : ∀ w ∈ wsL_law_r30, w ∈ lw_tbl := fun w h => (goodIn_p wsL_law_r30 [651, 655, 1047, 1051, 1056, 1060] (by decide +kernel) (by decide +kernel) w h).1
theorem lwi_wsL_law_r31 : ∀ w ∈ wsL_law_r31, w ∈ lw_tbl := fun w h => (goodIn_p wsL_law_r31 [1064, 660, 664, 1068, 668] (by decide +kernel) (by decide +kernel) w h).1
theorem lwi_wsL_law_r32 : ∀ w ∈ wsL_law_r32, w ∈ lw_tbl := fun w h => (goodIn_p wsL_law_r32 [1072, 672, 676, 1076, 681] (by decide +kernel) (by decide +kernel) w h).1
theorem lwi_wsL_law_r33 : ∀ w ∈ wsL_law_r33, w ∈ lw_tbl := fun w h => (goodIn_p wsL_law_r33 [684, 691, 694, 697, 702] (by decide +kernel) (by decide +kernel) w h).1
theorem lwi_wsL_law_r34 : ∀ w ∈ wsL_law_r34, w ∈ lw_tbl := fun w h => (goodIn_p wsL_law_r34 [1080, 1083, 1087, 1090, 706, 710, 714] (by decide +kernel) (by decide +kernel) w h).1
theorem lwi_wsL_law_r35 : ∀ w ∈ wsL_law_r35, w ∈ lw_tbl := fun w h => (goodIn_p wsL_law_r35 [1094, 718, 1099, 722, 1103] (by decide +kernel) (by decide +kernel) w h).1
