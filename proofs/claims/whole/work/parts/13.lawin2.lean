set_option maxRecDepth 20000 in
theorem xl_wsL_law_r12 : ∀ w ∈ wsL_law_r12, w ∈ lw_tbl := fun w h => (goodIn_p wsL_law_r12 [278, 282, 564, 286, 568, 290] (by decide +kernel) (by decide +kernel) w h).1
set_option maxRecDepth 20000 in
theorem xl_wsL_law_r13 : ∀ w ∈ wsL_law_r13, w ∈ lw_tbl := fun w h => (goodIn_p wsL_law_r13 [294, 298, 572, 302, 308, 313] (by decide +kernel) (by decide +kernel) w h).1
set_option maxRecDepth 20000 in
theorem xl_wsL_law_r14 : ∀ w ∈ wsL_law_r14, w ∈ lw_tbl := fun w h => (goodIn_p wsL_law_r14 [317, 576, 580, 585, 321] (by decide +kernel) (by decide +kernel) w h).1
set_option maxRecDepth 20000 in
theorem xl_wsL_law_r15 : ∀ w ∈ wsL_law_r15, w ∈ lw_tbl := fun w h => (goodIn_p wsL_law_r15 [325, 589, 594, 329, 333, 337] (by decide +kernel) (by decide +kernel) w h).1
set_option maxRecDepth 20000 in
theorem xl_wsL_law_r16 : ∀ w ∈ wsL_law_r16, w ∈ lw_tbl := fun w h => (goodIn_p wsL_law_r16 [341, 345, 598, 602] (by decide +kernel) (by decide +kernel) w h).1
set_option maxRecDepth 20000 in
theorem xl_wsL_law_r17 : ∀ w ∈ wsL_law_r17, w ∈ lw_tbl := fun w h => (goodIn_p wsL_law_r17 [354, 358, 362, 608, 366, 370] (by decide +kernel) (by decide +kernel) w h).1
set_option maxRecDepth 20000 in
theorem xl_wsL_law_r18 : ∀ w ∈ wsL_law_r18, w ∈ lw_tbl := fun w h => (goodIn_p wsL_law_r18 [613, 375, 379, 383, 387, 391] (by decide +kernel) (by decide +kernel) w h).1
set_option maxRecDepth 20000 in
theorem xl_wsL_law_r19 : ∀ w ∈ wsL_law_r19, w ∈ lw_tbl := fun w h => (goodIn_p wsL_law_r19 [617, 395, 399, 403, 621, 625] (by decide +kernel) (by decide +kernel) w h).1
set_option maxRecDepth 20000 in
theorem xl_wsL_law_r20 : ∀ w ∈ wsL_law_r20, w ∈ lw_tbl := fun w h => (goodIn_p wsL_law_r20 [629, 407, 411, 633, 415] (by decide +kernel) (by decide +kernel) w h).1
set_option maxRecDepth 20000 in
theorem xl_wsL_law_r21 : ∀ w ∈ wsL_law_r21, w ∈ lw_tbl := fun w h => (goodIn_p wsL_law_r21 [637, 422, 426, 642, 431] (by decide +kernel) (by decide +kernel) w h).1
set_option maxRecDepth 20000 in
theorem xl_wsL_law_r22 : ∀ w ∈ wsL_law_r22, w ∈ lw_tbl := fun w h => (goodIn_p wsL_law_r22 [436, 440, 444, 646] (by decide +kernel) (by decide +kernel) w h).1
