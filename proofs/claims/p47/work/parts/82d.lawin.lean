set_option maxRecDepth 200000 in
theorem wsL_law0_r16_in : ∀ w ∈ wsL_law0_r16, w ∈ lw_tbl := fun w h => (goodIn_p wsL_law0_r16 [369, 380, 728, 732, 737, 423] (by decide +kernel) (by decide +kernel) w h).1
set_option maxRecDepth 200000 in
theorem wsL_law0_r17_in : ∀ w ∈ wsL_law0_r17, w ∈ lw_tbl := fun w h => (goodIn_p wsL_law0_r17 [741, 542, 744, 748, 752, 757] (by decide +kernel) (by decide +kernel) w h).1
set_option maxRecDepth 200000 in
theorem wsL_law0_r18_in : ∀ w ∈ wsL_law0_r18, w ∈ lw_tbl := fun w h => (goodIn_p wsL_law0_r18 [761, 765, 769, 774, 777, 426, 285] (by decide +kernel) (by decide +kernel) w h).1
set_option maxRecDepth 200000 in
theorem wsL_law0_r19_in : ∀ w ∈ wsL_law0_r19, w ∈ lw_tbl := fun w h => (goodIn_p wsL_law0_r19 [288, 291, 294, 781, 784, 790] (by decide +kernel) (by decide +kernel) w h).1
set_option maxRecDepth 200000 in
theorem wsL_law0_r20_in : ∀ w ∈ wsL_law0_r20, w ∈ lw_tbl := fun w h => (goodIn_p wsL_law0_r20 [147, 163, 247, 255, 266, 277] rfl (by decide +kernel) w h).1
