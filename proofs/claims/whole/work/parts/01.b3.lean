set_option maxRecDepth 20000 in
theorem zin_wsL_law_r31 : ∀ w ∈ wsL_law_r31, w ∈ lw_tbl := fun w h => (goodIn_p wsL_law_r31 [694, 1242, 698, 701, 705, 1246] (by decide +kernel) (by decide +kernel) w h).1
set_option maxRecDepth 20000 in
theorem zin_wsL_law_r32 : ∀ w ∈ wsL_law_r32, w ∈ lw_tbl := fun w h => (goodIn_p wsL_law_r32 [1249, 1253, 709, 713, 717] (by decide +kernel) (by decide +kernel) w h).1
set_option maxRecDepth 20000 in
theorem zin_wsL_law_r33 : ∀ w ∈ wsL_law_r33, w ∈ lw_tbl := fun w h => (goodIn_p wsL_law_r33 [724, 1258, 1262, 1266, 1270] (by decide +kernel) (by decide +kernel) w h).1
set_option maxRecDepth 20000 in
theorem zin_wsL_law_r34 : ∀ w ∈ wsL_law_r34, w ∈ lw_tbl := fun w h => (goodIn_p wsL_law_r34 [729, 733, 1274, 1278, 738] (by decide +kernel) (by decide +kernel) w h).1
set_option maxRecDepth 20000 in
theorem zin_wsL_law_r35 : ∀ w ∈ wsL_law_r35, w ∈ lw_tbl := fun w h => (goodIn_p wsL_law_r35 [742, 746, 750, 753, 1282, 1286] (by decide +kernel) (by decide +kernel) w h).1
set_option maxRecDepth 20000 in
theorem zin_wsL_law_r36 : ∀ w ∈ wsL_law_r36, w ∈ lw_tbl := fun w h => (goodIn_p wsL_law_r36 [757, 762, 766, 774] (by decide +kernel) (by decide +kernel) w h).1
set_option maxRecDepth 20000 in
theorem zin_wsL_law_r37 : ∀ w ∈ wsL_law_r37, w ∈ lw_tbl := fun w h => (goodIn_p wsL_law_r37 [779, 1290, 1294, 1297, 1300, 784] (by decide +kernel) (by decide +kernel) w h).1
set_option maxRecDepth 20000 in
theorem zin_wsL_law_r38 : ∀ w ∈ wsL_law_r38, w ∈ lw_tbl := fun w h => (goodIn_p wsL_law_r38 [1305, 1309, 791, 794, 798] (by decide +kernel) (by decide +kernel) w h).1
set_option maxRecDepth 20000 in
theorem zin_wsL_law_r39 : ∀ w ∈ wsL_law_r39, w ∈ lw_tbl := fun w h => (goodIn_p wsL_law_r39 [1314, 805, 1318, 809, 813] (by decide +kernel) (by decide +kernel) w h).1
set_option maxRecDepth 20000 in
theorem zin_wsL_law_r40 : ∀ w ∈ wsL_law_r40, w ∈ lw_tbl := fun w h => (goodIn_p wsL_law_r40 [817, 1322, 1326, 1330, 821, 1334] (by decide +kernel) (by decide +kernel) w h).1
