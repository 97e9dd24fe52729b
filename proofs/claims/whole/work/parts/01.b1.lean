set_option maxRecDepth 20000 in
theorem zin_wsL_law_r11 : ∀ w ∈ wsL_law_r11, w ∈ lw_tbl := fun w h => (goodIn_p wsL_law_r11 [1068, 1072, 427, 431, 435] (by decide +kernel) (by decide +kernel) w h).1
set_option maxRecDepth 20000 in
theorem zin_wsL_law_r12 : ∀ w ∈ wsL_law_r12, w ∈ lw_tbl := fun w h => (goodIn_p wsL_law_r12 [443, 439, 446, 450, 454, 458] (by decide +kernel) (by decide +kernel) w h).1
set_option maxRecDepth 20000 in
theorem zin_wsL_law_r13 : ∀ w ∈ wsL_law_r13, w ∈ lw_tbl := fun w h => (goodIn_p wsL_law_r13 [462, 466, 470, 473, 477] (by decide +kernel) (by decide +kernel) w h).1
set_option maxRecDepth 20000 in
theorem zin_wsL_law_r14 : ∀ w ∈ wsL_law_r14, w ∈ lw_tbl := fun w h => (goodIn_p wsL_law_r14 [481, 485, 488, 492, 496] (by decide +kernel) (by decide +kernel) w h).1
set_option maxRecDepth 20000 in
theorem zin_wsL_law_r15 : ∀ w ∈ wsL_law_r15, w ∈ lw_tbl := fun w h => (goodIn_p wsL_law_r15 [500, 504, 508, 512, 516, 520] (by decide +kernel) (by decide +kernel) w h).1
set_option maxRecDepth 20000 in
theorem zin_wsL_law_r16 : ∀ w ∈ wsL_law_r16, w ∈ lw_tbl := fun w h => (goodIn_p wsL_law_r16 [524, 1076, 1080, 1084, 1088] (by decide +kernel) (by decide +kernel) w h).1
set_option maxRecDepth 20000 in
theorem zin_wsL_law_r17 : ∀ w ∈ wsL_law_r17, w ∈ lw_tbl := fun w h => (goodIn_p wsL_law_r17 [528, 532, 1092, 1096, 536] (by decide +kernel) (by decide +kernel) w h).1
set_option maxRecDepth 20000 in
theorem zin_wsL_law_r18 : ∀ w ∈ wsL_law_r18, w ∈ lw_tbl := fun w h => (goodIn_p wsL_law_r18 [1100, 1104, 540, 1108, 544, 547] (by decide +kernel) (by decide +kernel) w h).1
set_option maxRecDepth 20000 in
theorem zin_wsL_law_r19 : ∀ w ∈ wsL_law_r19, w ∈ lw_tbl := fun w h => (goodIn_p wsL_law_r19 [551, 555, 559, 1112, 1115, 1119] (by decide +kernel) (by decide +kernel) w h).1
set_option maxRecDepth 20000 in
theorem zin_wsL_law_r20 : ∀ w ∈ wsL_law_r20, w ∈ lw_tbl := fun w h => (goodIn_p wsL_law_r20 [1123, 1127, 1131, 1135] (by decide +kernel) (by decide +kernel) w h).1
