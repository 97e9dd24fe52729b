set_option maxRecDepth 20000 in
theorem zin_wsL_law_r21 : ∀ w ∈ wsL_law_r21, w ∈ lw_tbl := fun w h => (goodIn_p wsL_law_r21 [1139, 1143, 1146, 1150, 1154, 1158] (by decide +kernel) (by decide +kernel) w h).1
set_option maxRecDepth 20000 in
theorem zin_wsL_law_r22 : ∀ w ∈ wsL_law_r22, w ∈ lw_tbl := fun w h => (goodIn_p wsL_law_r22 [1162, 563, 567, 1166, 1170, 571] (by decide +kernel) (by decide +kernel) w h).1
set_option maxRecDepth 20000 in
theorem zin_wsL_law_r23 : ∀ w ∈ wsL_law_r23, w ∈ lw_tbl := fun w h => (goodIn_p wsL_law_r23 [575, 579, 583, 1174, 1178, 587] (by decide +kernel) (by decide +kernel) w h).1
set_option maxRecDepth 20000 in
theorem zin_wsL_law_r24 : ∀ w ∈ wsL_law_r24, w ∈ lw_tbl := fun w h => (goodIn_p wsL_law_r24 [591, 595, 599, 1182, 1186, 603] (by decide +kernel) (by decide +kernel) w h).1
set_option maxRecDepth 20000 in
theorem zin_wsL_law_r25 : ∀ w ∈ wsL_law_r25, w ∈ lw_tbl := fun w h => (goodIn_p wsL_law_r25 [1190, 1194, 1198, 608, 612] (by decide +kernel) (by decide +kernel) w h).1
set_option maxRecDepth 20000 in
theorem zin_wsL_law_r26 : ∀ w ∈ wsL_law_r26, w ∈ lw_tbl := fun w h => (goodIn_p wsL_law_r26 [616, 619, 622, 1202, 1206, 627, 631] (by decide +kernel) (by decide +kernel) w h).1
set_option maxRecDepth 20000 in
theorem zin_wsL_law_r27 : ∀ w ∈ wsL_law_r27, w ∈ lw_tbl := fun w h => (goodIn_p wsL_law_r27 [634, 641, 645, 648] (by decide +kernel) (by decide +kernel) w h).1
set_option maxRecDepth 20000 in
theorem zin_wsL_law_r28 : ∀ w ∈ wsL_law_r28, w ∈ lw_tbl := fun w h => (goodIn_p wsL_law_r28 [656, 660, 1210, 1214, 1218, 1222] (by decide +kernel) (by decide +kernel) w h).1
set_option maxRecDepth 20000 in
theorem zin_wsL_law_r29 : ∀ w ∈ wsL_law_r29, w ∈ lw_tbl := fun w h => (goodIn_p wsL_law_r29 [664, 668, 672, 677, 1226, 1230] (by decide +kernel) (by decide +kernel) w h).1
set_option maxRecDepth 20000 in
theorem zin_wsL_law_r30 : ∀ w ∈ wsL_law_r30, w ∈ lw_tbl := fun w h => (goodIn_p wsL_law_r30 [1234, 681, 685, 690, 1238] (by decide +kernel) (by decide +kernel) w h).1
