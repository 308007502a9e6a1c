set_option maxRecDepth 20000 in
theorem xl_wsL_law_r1 : ∀ w ∈ wsL_law_r1, w ∈ lw_tbl := fun w h => (goodIn_p wsL_law_r1 [34, 37] (by decide +kernel) (by decide +kernel) w h).1
set_option maxRecDepth 20000 in
theorem xl_wsL_law_r2 : ∀ w ∈ wsL_law_r2, w ∈ lw_tbl := fun w h => (goodIn_p wsL_law_r2 [42, 62] (by decide +kernel) (by decide +kernel) w h).1
set_option maxRecDepth 20000 in
theorem xl_wsL_law_r3 : ∀ w ∈ wsL_law_r3, w ∈ lw_tbl := fun w h => (goodIn_p wsL_law_r3 [91, 449] (by decide +kernel) (by decide +kernel) w h).1
set_option maxRecDepth 20000 in
theorem xl_wsL_law_r4 : ∀ w ∈ wsL_law_r4, w ∈ lw_tbl := fun w h => (goodIn_p wsL_law_r4 [155, 159, 162] (by decide +kernel) (by decide +kernel) w h).1
set_option maxRecDepth 20000 in
theorem xl_wsL_law_r5 : ∀ w ∈ wsL_law_r5, w ∈ lw_tbl := fun w h => (goodIn_p wsL_law_r5 [166, 170, 518, 522, 527] (by decide +kernel) (by decide +kernel) w h).1
set_option maxRecDepth 20000 in
theorem xl_wsL_law_r6 : ∀ w ∈ wsL_law_r6, w ∈ lw_tbl := fun w h => (goodIn_p wsL_law_r6 [174, 178, 531, 182, 186] (by decide +kernel) (by decide +kernel) w h).1
set_option maxRecDepth 20000 in
theorem xl_wsL_law_r7 : ∀ w ∈ wsL_law_r7, w ∈ lw_tbl := fun w h => (goodIn_p wsL_law_r7 [535, 190, 194, 198, 539, 203] (by decide +kernel) (by decide +kernel) w h).1
set_option maxRecDepth 20000 in
theorem xl_wsL_law_r8 : ∀ w ∈ wsL_law_r8, w ∈ lw_tbl := fun w h => (goodIn_p wsL_law_r8 [207, 211, 215, 219, 226, 223] (by decide +kernel) (by decide +kernel) w h).1
set_option maxRecDepth 20000 in
theorem xl_wsL_law_r9 : ∀ w ∈ wsL_law_r9, w ∈ lw_tbl := fun w h => (goodIn_p wsL_law_r9 [230, 234, 238, 242, 246, 249] (by decide +kernel) (by decide +kernel) w h).1
set_option maxRecDepth 20000 in
theorem xl_wsL_law_r10 : ∀ w ∈ wsL_law_r10, w ∈ lw_tbl := fun w h => (goodIn_p wsL_law_r10 [253, 256, 259, 263, 267, 271] (by decide +kernel) (by decide +kernel) w h).1
set_option maxRecDepth 20000 in
theorem xl_wsL_law_r11 : ∀ w ∈ wsL_law_r11, w ∈ lw_tbl := fun w h => (goodIn_p wsL_law_r11 [544, 548, 552, 556, 560, 275] (by decide +kernel) (by decide +kernel) w h).1
