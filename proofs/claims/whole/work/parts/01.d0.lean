theorem inlX0 : ∀ w ∈ wsX00, w ∈ wsL_law := fun _ h => List.mem_append_left _ (List.mem_append_left _ (List.mem_append_left _ (List.mem_append_left _ (List.mem_append_left _ (List.mem_append_right _ h)))))
theorem inX0 : ∀ w ∈ wsX00, w ∈ lw_tbl := fun w h => wsL_law_in w (inlX0 w h)
theorem inlX1 : ∀ w ∈ wsX10, w ∈ wsL_law := fun _ h => List.mem_append_left _ (List.mem_append_left _ (List.mem_append_left _ (List.mem_append_right _ h)))
theorem inX1 : ∀ w ∈ wsX10, w ∈ lw_tbl := fun w h => wsL_law_in w (inlX1 w h)
theorem inlX2 : ∀ w ∈ wsX20, w ∈ wsL_law := fun _ h => List.mem_append_left _ (List.mem_append_left _ (List.mem_append_left _ (List.mem_append_left _ (List.mem_append_left _ (List.mem_append_left _ (List.mem_append_left _ (List.mem_append_left _ (List.mem_append_right _ h))))))))
theorem inX2 : ∀ w ∈ wsX20, w ∈ lw_tbl := fun w h => wsL_law_in w (inlX2 w h)
theorem inlX3 : ∀ w ∈ wsX30, w ∈ wsL_law := fun _ h => List.mem_append_left _ (List.mem_append_left _ (List.mem_append_left _ (List.mem_append_left _ (List.mem_append_left _ (List.mem_append_left _ (List.mem_append_right _ h))))))
theorem inX3 : ∀ w ∈ wsX30, w ∈ lw_tbl := fun w h => wsL_law_in w (inlX3 w h)
theorem inlX4 : ∀ w ∈ wsX40, w ∈ wsL_law := fun _ h => List.mem_append_left _ (List.mem_append_left _ (List.mem_append_left _ (List.mem_append_left _ (List.mem_append_left _ (List.mem_append_left _ (List.mem_append_left _ (List.mem_append_right _ h)))))))
theorem inX4 : ∀ w ∈ wsX40, w ∈ lw_tbl := fun w h => wsL_law_in w (inlX4 w h)
theorem inlX5 : ∀ w ∈ wsX50, w ∈ wsL_law := fun _ h => List.mem_append_left _ (List.mem_append_right _ h)
theorem inX5 : ∀ w ∈ wsX50, w ∈ lw_tbl := fun w h => wsL_law_in w (inlX5 w h)
theorem inlX6 : ∀ w ∈ wsX60, w ∈ wsL_law := fun _ h => List.mem_append_left _ (List.mem_append_left _ (List.mem_append_left _ (List.mem_append_left _ (List.mem_append_right _ h))))
theorem inX6 : ∀ w ∈ wsX60, w ∈ lw_tbl := fun w h => wsL_law_in w (inlX6 w h)
theorem inlX7 : ∀ w ∈ wsX70, w ∈ wsL_law := fun _ h => List.mem_append_left _ (List.mem_append_left _ (List.mem_append_right _ h))
theorem inX7 : ∀ w ∈ wsX70, w ∈ lw_tbl := fun w h => wsL_law_in w (inlX7 w h)
theorem inlX8 : ∀ w ∈ wsX80, w ∈ wsL_law := fun _ h => List.mem_append_left _ (List.mem_append_left _ (List.mem_append_left _ (List.mem_append_left _ (List.mem_append_left _ (List.mem_append_left _ (List.mem_append_left _ (List.mem_append_left _ (List.mem_append_left _ (List.mem_append_left _ (List.mem_append_right _ h))))))))))
theorem inX8 : ∀ w ∈ wsX80, w ∈ lw_tbl := fun w h => wsL_law_in w (inlX8 w h)
theorem inlX9 : ∀ w ∈ wsX90, w ∈ wsL_law := fun _ h => List.mem_append_left _ (List.mem_append_left _ (List.mem_append_left _ (List.mem_append_left _ (List.mem_append_left _ (List.mem_append_left _ (List.mem_append_left _ (List.mem_append_left _ (List.mem_append_left _ (List.mem_append_right _ h)))))))))
theorem inX9 : ∀ w ∈ wsX90, w ∈ lw_tbl := fun w h => wsL_law_in w (inlX9 w h)
theorem inJ6 : ∀ w ∈ wsJ60, w ∈ lw_tbl := by decide +kernel
theorem inJ9 : ∀ w ∈ wsJ90, w ∈ lw_tbl := by decide +kernel
theorem inJ10 : ∀ w ∈ wsJ100, w ∈ lw_tbl := by decide +kernel
theorem inJ7 : ∀ w ∈ wsJ70, w ∈ lw_tbl := by decide +kernel
theorem dX0_init_0 : decode cX0_init 0 = .ok (.aload_n 0, 1) := by decide +kernel
theorem dX0_init_1 : decode cX0_init 1 = .ok (.invokespecial 3, 3) := by decide +kernel
theorem dX0_init_4 : decode cX0_init 4 = .ok (.aload_n 0, 1) := by decide +kernel
theorem dX0_init_5 : decode cX0_init 5 = .ok (.iconst 0, 1) := by decide +kernel
theorem dX0_init_6 : decode cX0_init 6 = .ok (.putfield 9, 3) := by decide +kernel
theorem dX0_init_9 : decode cX0_init 9 = .ok (.aload_n 0, 1) := by decide +kernel
theorem dX0_init_10 : decode cX0_init 10 = .ok (.sipush 256, 3) := by decide +kernel
theorem dX0_init_13 : decode cX0_init 13 = .ok (.newarray .long, 2) := by decide +kernel
theorem dX0_init_15 : decode cX0_init 15 = .ok (.putfield 15, 3) := by decide +kernel
theorem dX0_init_18 : decode cX0_init 18 = .ok (.aload_n 0, 1) := by decide +kernel
theorem dX0_init_19 : decode cX0_init 19 = .ok (.lconst 0, 1) := by decide +kernel
theorem dX0_init_20 : decode cX0_init 20 = .ok (.putfield 19, 3) := by decide +kernel
theorem dX0_init_23 : decode cX0_init 23 = .ok (.aload_n 0, 1) := by decide +kernel
theorem dX0_init_24 : decode cX0_init 24 = .ok (.lconst 1, 1) := by decide +kernel
theorem dX0_init_25 : decode cX0_init 25 = .ok (.putfield 23, 3) := by decide +kernel
theorem dX0_init_28 : decode cX0_init 28 = .ok (.aload_n 0, 1) := by decide +kernel
theorem dX0_init_29 : decode cX0_init 29 = .ok (.aload_n 1, 1) := by decide +kernel
theorem dX0_init_30 : decode cX0_init 30 = .ok (.putfield 26, 3) := by decide +kernel
theorem dX0_init_33 : decode cX0_init 33 = .ok (.aload_n 0, 1) := by decide +kernel
theorem dX0_init_34 : decode cX0_init 34 = .ok (.aload_n 2, 1) := by decide +kernel
theorem dX0_init_35 : decode cX0_init 35 = .ok (.putfield 30, 3) := by decide +kernel
theorem dX0_init_38 : decode cX0_init 38 = .ok (.return_, 1) := by decide +kernel
theorem dX0_outdate_0 : decode cX0_outdate 0 = .ok (.aload_n 0, 1) := by decide +kernel
theorem dX0_outdate_1 : decode cX0_outdate 1 = .ok (.iconst 0, 1) := by decide +kernel
theorem dX0_outdate_2 : decode cX0_outdate 2 = .ok (.putfield 9, 3) := by decide +kernel
theorem dX0_outdate_5 : decode cX0_outdate 5 = .ok (.return_, 1) := by decide +kernel
theorem dX0_work_0 : decode cX0_work 0 = .ok (.aload_n 0, 1) := by decide +kernel
theorem dX0_work_1 : decode cX0_work 1 = .ok (.invokevirtual 34, 3) := by decide +kernel
theorem dX0_work_4 : decode cX0_work 4 = .ok (.aload_n 0, 1) := by decide +kernel
theorem dX0_work_5 : decode cX0_work 5 = .ok (.lconst 0, 1) := by decide +kernel
theorem dX0_work_6 : decode cX0_work 6 = .ok (.putfield 19, 3) := by decide +kernel
theorem dX0_work_9 : decode cX0_work 9 = .ok (.iconst 0, 1) := by decide +kernel
theorem dX0_work_10 : decode cX0_work 10 = .ok (.istore 4, 2) := by decide +kernel
theorem dX0_work_12 : decode cX0_work 12 = .ok (.iload 4, 2) := by decide +kernel
theorem dX0_work_14 : decode cX0_work 14 = .ok (.iconst 1, 1) := by decide +kernel
theorem dX0_work_15 : decode cX0_work 15 = .ok (.aload_n 0, 1) := by decide +kernel
theorem dX0_work_16 : decode cX0_work 16 = .ok (.getfield 26, 3) := by decide +kernel
theorem dX0_work_19 : decode cX0_work 19 = .ok (.getfield 37, 3) := by decide +kernel
theorem dX0_work_22 : decode cX0_work 22 = .ok (.ishl, 1) := by decide +kernel
theorem dX0_work_23 : decode cX0_work 23 = .ok (.if_icmp .ge 62, 3) := by decide +kernel
theorem dX0_work_26 : decode cX0_work 26 = .ok (.iload 4, 2) := by decide +kernel
theorem dX0_work_28 : decode cX0_work 28 = .ok (.aload_n 0, 1) := by decide +kernel
theorem dX0_work_29 : decode cX0_work 29 = .ok (.getfield 15, 3) := by decide +kernel
theorem dX0_work_32 : decode cX0_work 32 = .ok (.arraylength, 1) := by decide +kernel
theorem dX0_work_33 : decode cX0_work 33 = .ok (.if_icmp .ge 52, 3) := by decide +kernel
theorem dX0_work_36 : decode cX0_work 36 = .ok (.aload_n 0, 1) := by decide +kernel
theorem dX0_work_37 : decode cX0_work 37 = .ok (.getfield 15, 3) := by decide +kernel
theorem dX0_work_40 : decode cX0_work 40 = .ok (.iload 4, 2) := by decide +kernel
theorem dX0_work_42 : decode cX0_work 42 = .ok (.laload, 1) := by decide +kernel
theorem dX0_work_43 : decode cX0_work 43 = .ok (.iload_n 2, 1) := by decide +kernel
theorem dX0_work_44 : decode cX0_work 44 = .ok (.invokestatic 43, 3) := by decide +kernel
theorem dX0_work_47 : decode cX0_work 47 = .ok (.istore 5, 2) := by decide +kernel
theorem dX0_work_49 : decode cX0_work 49 = .ok (.iload 5, 2) := by decide +kernel
theorem dX0_work_51 : decode cX0_work 51 = .ok (.sipush 255, 3) := by decide +kernel
theorem dX0_work_54 : decode cX0_work 54 = .ok (.if_icmp .eq 25, 3) := by decide +kernel
theorem dX0_work_57 : decode cX0_work 57 = .ok (.iload 5, 2) := by decide +kernel
theorem dX0_work_59 : decode cX0_work 59 = .ok (.iload_n 3, 1) := by decide +kernel
theorem dX0_work_60 : decode cX0_work 60 = .ok (.if_icmp .gt 19, 3) := by decide +kernel
theorem dX0_work_63 : decode cX0_work 63 = .ok (.aload_n 0, 1) := by decide +kernel
theorem dX0_work_64 : decode cX0_work 64 = .ok (.dup, 1) := by decide +kernel
theorem dX0_work_65 : decode cX0_work 65 = .ok (.getfield 19, 3) := by decide +kernel
theorem dX0_work_68 : decode cX0_work 68 = .ok (.aload_n 0, 1) := by decide +kernel
theorem dX0_work_69 : decode cX0_work 69 = .ok (.iload 4, 2) := by decide +kernel
theorem dX0_work_71 : decode cX0_work 71 = .ok (.iload_n 1, 1) := by decide +kernel
theorem dX0_work_72 : decode cX0_work 72 = .ok (.invokevirtual 47, 3) := by decide +kernel
theorem dX0_work_75 : decode cX0_work 75 = .ok (.ladd, 1) := by decide +kernel
theorem dX0_work_76 : decode cX0_work 76 = .ok (.putfield 19, 3) := by decide +kernel
theorem dX0_work_79 : decode cX0_work 79 = .ok (.iinc 4 1, 3) := by decide +kernel
theorem dX0_work_82 : decode cX0_work 82 = .ok (.goto (-70), 3) := by decide +kernel
theorem dX0_work_85 : decode cX0_work 85 = .ok (.aload_n 0, 1) := by decide +kernel
theorem dX0_work_86 : decode cX0_work 86 = .ok (.lconst 1, 1) := by decide +kernel
theorem dX0_work_87 : decode cX0_work 87 = .ok (.iconst 4, 1) := by decide +kernel
theorem dX0_work_88 : decode cX0_work 88 = .ok (.aload_n 0, 1) := by decide +kernel
theorem dX0_work_89 : decode cX0_work 89 = .ok (.getfield 26, 3) := by decide +kernel
theorem dX0_work_92 : decode cX0_work 92 = .ok (.getfield 37, 3) := by decide +kernel
theorem dX0_work_95 : decode cX0_work 95 = .ok (.imul, 1) := by decide +kernel
theorem dX0_work_96 : decode cX0_work 96 = .ok (.lshl, 1) := by decide +kernel
theorem dX0_work_97 : decode cX0_work 97 = .ok (.putfield 23, 3) := by decide +kernel
theorem dX0_work_100 : decode cX0_work 100 = .ok (.aload_n 0, 1) := by decide +kernel
theorem dX0_work_101 : decode cX0_work 101 = .ok (.invokevirtual 51, 3) := by decide +kernel
theorem dX0_work_104 : decode cX0_work 104 = .ok (.return_, 1) := by decide +kernel
theorem dX0_rideAll_0 : decode cX0_rideAll 0 = .ok (.aload_n 0, 1) := by decide +kernel
theorem dX0_rideAll_1 : decode cX0_rideAll 1 = .ok (.getfield 9, 3) := by decide +kernel
theorem dX0_rideAll_4 : decode cX0_rideAll 4 = .ok (.ifCond .eq 4, 3) := by decide +kernel
theorem dX0_rideAll_7 : decode cX0_rideAll 7 = .ok (.return_, 1) := by decide +kernel
theorem dX0_rideAll_8 : decode cX0_rideAll 8 = .ok (.aload_n 0, 1) := by decide +kernel
theorem dX0_rideAll_9 : decode cX0_rideAll 9 = .ok (.iconst 1, 1) := by decide +kernel
theorem dX0_rideAll_10 : decode cX0_rideAll 10 = .ok (.putfield 9, 3) := by decide +kernel
theorem dX0_rideAll_13 : decode cX0_rideAll 13 = .ok (.iconst 0, 1) := by decide +kernel
theorem dX0_rideAll_14 : decode cX0_rideAll 14 = .ok (.istore_n 1, 1) := by decide +kernel
theorem dX0_rideAll_15 : decode cX0_rideAll 15 = .ok (.iload_n 1, 1) := by decide +kernel
theorem dX0_rideAll_16 : decode cX0_rideAll 16 = .ok (.iconst 1, 1) := by decide +kernel
theorem dX0_rideAll_17 : decode cX0_rideAll 17 = .ok (.aload_n 0, 1) := by decide +kernel
theorem dX0_rideAll_18 : decode cX0_rideAll 18 = .ok (.getfield 26, 3) := by decide +kernel
theorem dX0_rideAll_21 : decode cX0_rideAll 21 = .ok (.getfield 37, 3) := by decide +kernel
theorem dX0_rideAll_24 : decode cX0_rideAll 24 = .ok (.ishl, 1) := by decide +kernel
theorem dX0_rideAll_25 : decode cX0_rideAll 25 = .ok (.if_icmp .ge 100, 3) := by decide +kernel
theorem dX0_rideAll_28 : decode cX0_rideAll 28 = .ok (.iload_n 1, 1) := by decide +kernel
theorem dX0_rideAll_29 : decode cX0_rideAll 29 = .ok (.aload_n 0, 1) := by decide +kernel
theorem dX0_rideAll_30 : decode cX0_rideAll 30 = .ok (.getfield 15, 3) := by decide +kernel
theorem dX0_rideAll_33 : decode cX0_rideAll 33 = .ok (.arraylength, 1) := by decide +kernel
theorem dX0_rideAll_34 : decode cX0_rideAll 34 = .ok (.if_icmp .ge 91, 3) := by decide +kernel
theorem dX0_rideAll_37 : decode cX0_rideAll 37 = .ok (.aload_n 0, 1) := by decide +kernel
theorem dX0_rideAll_38 : decode cX0_rideAll 38 = .ok (.getfield 30, 3) := by decide +kernel
theorem dX0_rideAll_41 : decode cX0_rideAll 41 = .ok (.iload_n 1, 1) := by decide +kernel
theorem dX0_rideAll_42 : decode cX0_rideAll 42 = .ok (.invokevirtual 54, 3) := by decide +kernel
theorem dX0_rideAll_45 : decode cX0_rideAll 45 = .ok (.aload_n 0, 1) := by decide +kernel
theorem dX0_rideAll_46 : decode cX0_rideAll 46 = .ok (.getfield 30, 3) := by decide +kernel
theorem dX0_rideAll_49 : decode cX0_rideAll 49 = .ok (.iconst (-1), 1) := by decide +kernel
theorem dX0_rideAll_50 : decode cX0_rideAll 50 = .ok (.iconst (-1), 1) := by decide +kernel
theorem dX0_rideAll_51 : decode cX0_rideAll 51 = .ok (.invokevirtual 60, 3) := by decide +kernel
theorem dX0_rideAll_54 : decode cX0_rideAll 54 = .ok (.lconst 0, 1) := by decide +kernel
theorem dX0_rideAll_55 : decode cX0_rideAll 55 = .ok (.lstore_n 2, 1) := by decide +kernel
theorem dX0_rideAll_56 : decode cX0_rideAll 56 = .ok (.iconst 0, 1) := by decide +kernel
theorem dX0_rideAll_57 : decode cX0_rideAll 57 = .ok (.istore 4, 2) := by decide +kernel
theorem dX0_rideAll_59 : decode cX0_rideAll 59 = .ok (.iload 4, 2) := by decide +kernel
theorem dX0_rideAll_61 : decode cX0_rideAll 61 = .ok (.aload_n 0, 1) := by decide +kernel
theorem dX0_rideAll_62 : decode cX0_rideAll 62 = .ok (.getfield 26, 3) := by decide +kernel
theorem dX0_rideAll_65 : decode cX0_rideAll 65 = .ok (.getfield 64, 3) := by decide +kernel
theorem dX0_rideAll_68 : decode cX0_rideAll 68 = .ok (.if_icmp .ge 44, 3) := by decide +kernel
theorem dX0_rideAll_71 : decode cX0_rideAll 71 = .ok (.aload_n 0, 1) := by decide +kernel
theorem dX0_rideAll_72 : decode cX0_rideAll 72 = .ok (.getfield 30, 3) := by decide +kernel
theorem dX0_rideAll_75 : decode cX0_rideAll 75 = .ok (.iload 4, 2) := by decide +kernel
theorem dX0_rideAll_77 : decode cX0_rideAll 77 = .ok (.invokevirtual 67, 3) := by decide +kernel
theorem dX0_rideAll_80 : decode cX0_rideAll 80 = .ok (.istore 5, 2) := by decide +kernel
theorem dX0_rideAll_82 : decode cX0_rideAll 82 = .ok (.lload_n 2, 1) := by decide +kernel
theorem dX0_rideAll_83 : decode cX0_rideAll 83 = .ok (.iload 5, 2) := by decide +kernel
theorem dX0_rideAll_85 : decode cX0_rideAll 85 = .ok (.iconst (-1), 1) := by decide +kernel
theorem dX0_rideAll_86 : decode cX0_rideAll 86 = .ok (.if_icmp .ne 9, 3) := by decide +kernel
theorem dX0_rideAll_89 : decode cX0_rideAll 89 = .ok (.sipush 255, 3) := by decide +kernel
theorem dX0_rideAll_92 : decode cX0_rideAll 92 = .ok (.goto 5, 3) := by decide +kernel
theorem dX0_rideAll_95 : decode cX0_rideAll 95 = .ok (.iload 5, 2) := by decide +kernel
theorem dX0_rideAll_97 : decode cX0_rideAll 97 = .ok (.i2l, 1) := by decide +kernel
theorem dX0_rideAll_98 : decode cX0_rideAll 98 = .ok (.bipush 8, 2) := by decide +kernel
theorem dX0_rideAll_100 : decode cX0_rideAll 100 = .ok (.iload 4, 2) := by decide +kernel
theorem dX0_rideAll_102 : decode cX0_rideAll 102 = .ok (.imul, 1) := by decide +kernel
theorem dX0_rideAll_103 : decode cX0_rideAll 103 = .ok (.lshl, 1) := by decide +kernel
theorem dX0_rideAll_104 : decode cX0_rideAll 104 = .ok (.lor, 1) := by decide +kernel
theorem dX0_rideAll_105 : decode cX0_rideAll 105 = .ok (.lstore_n 2, 1) := by decide +kernel
theorem dX0_rideAll_106 : decode cX0_rideAll 106 = .ok (.iinc 4 1, 3) := by decide +kernel
theorem dX0_rideAll_109 : decode cX0_rideAll 109 = .ok (.goto (-50), 3) := by decide +kernel
theorem dX0_rideAll_112 : decode cX0_rideAll 112 = .ok (.aload_n 0, 1) := by decide +kernel
theorem dX0_rideAll_113 : decode cX0_rideAll 113 = .ok (.getfield 15, 3) := by decide +kernel
theorem dX0_rideAll_116 : decode cX0_rideAll 116 = .ok (.iload_n 1, 1) := by decide +kernel
theorem dX0_rideAll_117 : decode cX0_rideAll 117 = .ok (.lload_n 2, 1) := by decide +kernel
theorem dX0_rideAll_118 : decode cX0_rideAll 118 = .ok (.lastore, 1) := by decide +kernel
theorem dX0_rideAll_119 : decode cX0_rideAll 119 = .ok (.iinc 1 1, 3) := by decide +kernel
theorem dX0_rideAll_122 : decode cX0_rideAll 122 = .ok (.goto (-107), 3) := by decide +kernel
theorem dX0_rideAll_125 : decode cX0_rideAll 125 = .ok (.return_, 1) := by decide +kernel
theorem dX0_weightOf_0 : decode cX0_weightOf 0 = .ok (.lconst 1, 1) := by decide +kernel
theorem dX0_weightOf_1 : decode cX0_weightOf 1 = .ok (.lstore_n 3, 1) := by decide +kernel
theorem dX0_weightOf_2 : decode cX0_weightOf 2 = .ok (.iconst 0, 1) := by decide +kernel
theorem dX0_weightOf_3 : decode cX0_weightOf 3 = .ok (.istore 5, 2) := by decide +kernel
theorem dX0_weightOf_5 : decode cX0_weightOf 5 = .ok (.iload 5, 2) := by decide +kernel
theorem dX0_weightOf_7 : decode cX0_weightOf 7 = .ok (.aload_n 0, 1) := by decide +kernel
theorem dX0_weightOf_8 : decode cX0_weightOf 8 = .ok (.getfield 26, 3) := by decide +kernel
theorem dX0_weightOf_11 : decode cX0_weightOf 11 = .ok (.getfield 37, 3) := by decide +kernel
theorem dX0_weightOf_14 : decode cX0_weightOf 14 = .ok (.if_icmp .ge 31, 3) := by decide +kernel
theorem dX0_weightOf_17 : decode cX0_weightOf 17 = .ok (.lload_n 3, 1) := by decide +kernel
theorem dX0_weightOf_18 : decode cX0_weightOf 18 = .ok (.iload_n 1, 1) := by decide +kernel
theorem dX0_weightOf_19 : decode cX0_weightOf 19 = .ok (.iload 5, 2) := by decide +kernel
theorem dX0_weightOf_21 : decode cX0_weightOf 21 = .ok (.invokestatic 71, 3) := by decide +kernel
theorem dX0_weightOf_24 : decode cX0_weightOf 24 = .ok (.ifCond .eq 8, 3) := by decide +kernel
theorem dX0_weightOf_27 : decode cX0_weightOf 27 = .ok (.iload_n 2, 1) := by decide +kernel
theorem dX0_weightOf_28 : decode cX0_weightOf 28 = .ok (.i2l, 1) := by decide +kernel
theorem dX0_weightOf_29 : decode cX0_weightOf 29 = .ok (.goto 8, 3) := by decide +kernel
theorem dX0_weightOf_32 : decode cX0_weightOf 32 = .ok (.bipush 16, 2) := by decide +kernel
theorem dX0_weightOf_34 : decode cX0_weightOf 34 = .ok (.iload_n 2, 1) := by decide +kernel
theorem dX0_weightOf_35 : decode cX0_weightOf 35 = .ok (.isub, 1) := by decide +kernel
theorem dX0_weightOf_36 : decode cX0_weightOf 36 = .ok (.i2l, 1) := by decide +kernel
theorem dX0_weightOf_37 : decode cX0_weightOf 37 = .ok (.lmul, 1) := by decide +kernel
theorem dX0_weightOf_38 : decode cX0_weightOf 38 = .ok (.lstore_n 3, 1) := by decide +kernel
theorem dX0_weightOf_39 : decode cX0_weightOf 39 = .ok (.iinc 5 1, 3) := by decide +kernel
theorem dX0_weightOf_42 : decode cX0_weightOf 42 = .ok (.goto (-37), 3) := by decide +kernel
theorem dX0_weightOf_45 : decode cX0_weightOf 45 = .ok (.lload_n 3, 1) := by decide +kernel
theorem dX0_weightOf_46 : decode cX0_weightOf 46 = .ok (.lreturn, 1) := by decide +kernel
theorem dX0_shorten_0 : decode cX0_shorten 0 = .ok (.aload_n 0, 1) := by decide +kernel
theorem dX0_shorten_1 : decode cX0_shorten 1 = .ok (.getfield 19, 3) := by decide +kernel
theorem dX0_shorten_4 : decode cX0_shorten 4 = .ok (.lconst 0, 1) := by decide +kernel
theorem dX0_shorten_5 : decode cX0_shorten 5 = .ok (.lcmp, 1) := by decide +kernel
theorem dX0_shorten_6 : decode cX0_shorten 6 = .ok (.ifCond .ne 8, 3) := by decide +kernel
theorem dX0_shorten_9 : decode cX0_shorten 9 = .ok (.aload_n 0, 1) := by decide +kernel
theorem dX0_shorten_10 : decode cX0_shorten 10 = .ok (.lconst 1, 1) := by decide +kernel
theorem dX0_shorten_11 : decode cX0_shorten 11 = .ok (.putfield 23, 3) := by decide +kernel
theorem dX0_shorten_14 : decode cX0_shorten 14 = .ok (.iconst 0, 1) := by decide +kernel
theorem dX0_shorten_15 : decode cX0_shorten 15 = .ok (.istore_n 1, 1) := by decide +kernel
theorem dX0_shorten_16 : decode cX0_shorten 16 = .ok (.iload_n 1, 1) := by decide +kernel
theorem dX0_shorten_17 : decode cX0_shorten 17 = .ok (.bipush 32, 2) := by decide +kernel
theorem dX0_shorten_19 : decode cX0_shorten 19 = .ok (.if_icmp .ge 55, 3) := by decide +kernel
theorem dX0_shorten_22 : decode cX0_shorten 22 = .ok (.aload_n 0, 1) := by decide +kernel
theorem dX0_shorten_23 : decode cX0_shorten 23 = .ok (.getfield 23, 3) := by decide +kernel
theorem dX0_shorten_26 : decode cX0_shorten 26 = .ok (.lconst 1, 1) := by decide +kernel
theorem dX0_shorten_27 : decode cX0_shorten 27 = .ok (.lcmp, 1) := by decide +kernel
theorem dX0_shorten_28 : decode cX0_shorten 28 = .ok (.ifCond .le 46, 3) := by decide +kernel
theorem dX0_shorten_31 : decode cX0_shorten 31 = .ok (.aload_n 0, 1) := by decide +kernel
theorem dX0_shorten_32 : decode cX0_shorten 32 = .ok (.getfield 19, 3) := by decide +kernel
theorem dX0_shorten_35 : decode cX0_shorten 35 = .ok (.ldc2_w 75, 3) := by decide +kernel
theorem dX0_shorten_38 : decode cX0_shorten 38 = .ok (.lrem, 1) := by decide +kernel
theorem dX0_shorten_39 : decode cX0_shorten 39 = .ok (.lconst 0, 1) := by decide +kernel
theorem dX0_shorten_40 : decode cX0_shorten 40 = .ok (.lcmp, 1) := by decide +kernel
theorem dX0_shorten_41 : decode cX0_shorten 41 = .ok (.ifCond .ne 33, 3) := by decide +kernel
theorem dX0_shorten_44 : decode cX0_shorten 44 = .ok (.aload_n 0, 1) := by decide +kernel
theorem dX0_shorten_45 : decode cX0_shorten 45 = .ok (.dup, 1) := by decide +kernel
theorem dX0_shorten_46 : decode cX0_shorten 46 = .ok (.getfield 19, 3) := by decide +kernel
theorem dX0_shorten_49 : decode cX0_shorten 49 = .ok (.ldc2_w 75, 3) := by decide +kernel
theorem dX0_shorten_52 : decode cX0_shorten 52 = .ok (.ldiv, 1) := by decide +kernel
theorem dX0_shorten_53 : decode cX0_shorten 53 = .ok (.putfield 19, 3) := by decide +kernel
theorem dX0_shorten_56 : decode cX0_shorten 56 = .ok (.aload_n 0, 1) := by decide +kernel
theorem dX0_shorten_57 : decode cX0_shorten 57 = .ok (.dup, 1) := by decide +kernel
theorem dX0_shorten_58 : decode cX0_shorten 58 = .ok (.getfield 23, 3) := by decide +kernel
theorem dX0_shorten_61 : decode cX0_shorten 61 = .ok (.ldc2_w 75, 3) := by decide +kernel
theorem dX0_shorten_64 : decode cX0_shorten 64 = .ok (.ldiv, 1) := by decide +kernel
theorem dX0_shorten_65 : decode cX0_shorten 65 = .ok (.putfield 23, 3) := by decide +kernel
theorem dX0_shorten_68 : decode cX0_shorten 68 = .ok (.iinc 1 1, 3) := by decide +kernel
theorem dX0_shorten_71 : decode cX0_shorten 71 = .ok (.goto (-55), 3) := by decide +kernel
theorem dX0_shorten_74 : decode cX0_shorten 74 = .ok (.return_, 1) := by decide +kernel
theorem dX1_init_0 : decode cX1_init 0 = .ok (.aload_n 0, 1) := by decide +kernel
theorem dX1_init_1 : decode cX1_init 1 = .ok (.invokespecial 3, 3) := by decide +kernel
theorem dX1_init_4 : decode cX1_init 4 = .ok (.aload_n 0, 1) := by decide +kernel
theorem dX1_init_5 : decode cX1_init 5 = .ok (.sipush 800, 3) := by decide +kernel
theorem dX1_init_8 : decode cX1_init 8 = .ok (.newarray .int, 2) := by decide +kernel
theorem dX1_init_10 : decode cX1_init 10 = .ok (.putfield 9, 3) := by decide +kernel
theorem dX1_init_13 : decode cX1_init 13 = .ok (.aload_n 0, 1) := by decide +kernel
theorem dX1_init_14 : decode cX1_init 14 = .ok (.aload_n 1, 1) := by decide +kernel
theorem dX1_init_15 : decode cX1_init 15 = .ok (.putfield 15, 3) := by decide +kernel
theorem dX1_init_18 : decode cX1_init 18 = .ok (.aload_n 0, 1) := by decide +kernel
theorem dX1_init_19 : decode cX1_init 19 = .ok (.aload_n 2, 1) := by decide +kernel
theorem dX1_init_20 : decode cX1_init 20 = .ok (.putfield 19, 3) := by decide +kernel
theorem dX1_init_23 : decode cX1_init 23 = .ok (.aload_n 0, 1) := by decide +kernel
theorem dX1_init_24 : decode cX1_init 24 = .ok (.aload_n 3, 1) := by decide +kernel
theorem dX1_init_25 : decode cX1_init 25 = .ok (.putfield 23, 3) := by decide +kernel
theorem dX1_init_28 : decode cX1_init 28 = .ok (.return_, 1) := by decide +kernel
theorem dX1_neverLeft_0 : decode cX1_neverLeft 0 = .ok (.iconst 0, 1) := by decide +kernel
theorem dX1_neverLeft_1 : decode cX1_neverLeft 1 = .ok (.istore_n 1, 1) := by decide +kernel
theorem dX1_neverLeft_2 : decode cX1_neverLeft 2 = .ok (.iconst 0, 1) := by decide +kernel
theorem dX1_neverLeft_3 : decode cX1_neverLeft 3 = .ok (.istore_n 2, 1) := by decide +kernel
theorem dX1_neverLeft_4 : decode cX1_neverLeft 4 = .ok (.iload_n 2, 1) := by decide +kernel
theorem dX1_neverLeft_5 : decode cX1_neverLeft 5 = .ok (.aload_n 0, 1) := by decide +kernel
theorem dX1_neverLeft_6 : decode cX1_neverLeft 6 = .ok (.getfield 15, 3) := by decide +kernel
theorem dX1_neverLeft_9 : decode cX1_neverLeft 9 = .ok (.getfield 27, 3) := by decide +kernel
theorem dX1_neverLeft_12 : decode cX1_neverLeft 12 = .ok (.if_icmp .ge 23, 3) := by decide +kernel
theorem dX1_neverLeft_15 : decode cX1_neverLeft 15 = .ok (.aload_n 0, 1) := by decide +kernel
theorem dX1_neverLeft_16 : decode cX1_neverLeft 16 = .ok (.iload_n 2, 1) := by decide +kernel
theorem dX1_neverLeft_17 : decode cX1_neverLeft 17 = .ok (.invokevirtual 33, 3) := by decide +kernel
theorem dX1_neverLeft_20 : decode cX1_neverLeft 20 = .ok (.ifCond .eq 9, 3) := by decide +kernel
theorem dX1_neverLeft_23 : decode cX1_neverLeft 23 = .ok (.iload_n 1, 1) := by decide +kernel
theorem dX1_neverLeft_24 : decode cX1_neverLeft 24 = .ok (.iconst 1, 1) := by decide +kernel
theorem dX1_neverLeft_25 : decode cX1_neverLeft 25 = .ok (.iload_n 2, 1) := by decide +kernel
theorem dX1_neverLeft_26 : decode cX1_neverLeft 26 = .ok (.ishl, 1) := by decide +kernel
theorem dX1_neverLeft_27 : decode cX1_neverLeft 27 = .ok (.ior, 1) := by decide +kernel
theorem dX1_neverLeft_28 : decode cX1_neverLeft 28 = .ok (.istore_n 1, 1) := by decide +kernel
theorem dX1_neverLeft_29 : decode cX1_neverLeft 29 = .ok (.iinc 2 1, 3) := by decide +kernel
theorem dX1_neverLeft_32 : decode cX1_neverLeft 32 = .ok (.goto (-28), 3) := by decide +kernel
theorem dX1_neverLeft_35 : decode cX1_neverLeft 35 = .ok (.iload_n 1, 1) := by decide +kernel
theorem dX1_neverLeft_36 : decode cX1_neverLeft 36 = .ok (.ireturn, 1) := by decide +kernel
theorem dX1_fitsWithout_0 : decode cX1_fitsWithout 0 = .ok (.aload_n 0, 1) := by decide +kernel
theorem dX1_fitsWithout_1 : decode cX1_fitsWithout 1 = .ok (.getfield 19, 3) := by decide +kernel
theorem dX1_fitsWithout_4 : decode cX1_fitsWithout 4 = .ok (.aload_n 0, 1) := by decide +kernel
theorem dX1_fitsWithout_5 : decode cX1_fitsWithout 5 = .ok (.getfield 15, 3) := by decide +kernel
theorem dX1_fitsWithout_8 : decode cX1_fitsWithout 8 = .ok (.invokevirtual 37, 3) := by decide +kernel
theorem dX1_fitsWithout_11 : decode cX1_fitsWithout 11 = .ok (.iconst 1, 1) := by decide +kernel
theorem dX1_fitsWithout_12 : decode cX1_fitsWithout 12 = .ok (.iload_n 1, 1) := by decide +kernel
theorem dX1_fitsWithout_13 : decode cX1_fitsWithout 13 = .ok (.ishl, 1) := by decide +kernel
theorem dX1_fitsWithout_14 : decode cX1_fitsWithout 14 = .ok (.iconst (-1), 1) := by decide +kernel
theorem dX1_fitsWithout_15 : decode cX1_fitsWithout 15 = .ok (.ixor, 1) := by decide +kernel
theorem dX1_fitsWithout_16 : decode cX1_fitsWithout 16 = .ok (.iand, 1) := by decide +kernel
theorem dX1_fitsWithout_17 : decode cX1_fitsWithout 17 = .ok (.invokevirtual 41, 3) := by decide +kernel
theorem dX1_fitsWithout_20 : decode cX1_fitsWithout 20 = .ok (.aload_n 0, 1) := by decide +kernel
theorem dX1_fitsWithout_21 : decode cX1_fitsWithout 21 = .ok (.getfield 19, 3) := by decide +kernel
theorem dX1_fitsWithout_24 : decode cX1_fitsWithout 24 = .ok (.iconst (-1), 1) := by decide +kernel
theorem dX1_fitsWithout_25 : decode cX1_fitsWithout 25 = .ok (.iconst (-1), 1) := by decide +kernel
theorem dX1_fitsWithout_26 : decode cX1_fitsWithout 26 = .ok (.invokevirtual 47, 3) := by decide +kernel
theorem dX1_fitsWithout_29 : decode cX1_fitsWithout 29 = .ok (.aload_n 0, 1) := by decide +kernel
theorem dX1_fitsWithout_30 : decode cX1_fitsWithout 30 = .ok (.getfield 23, 3) := by decide +kernel
theorem dX1_fitsWithout_33 : decode cX1_fitsWithout 33 = .ok (.aload_n 0, 1) := by decide +kernel
theorem dX1_fitsWithout_34 : decode cX1_fitsWithout 34 = .ok (.getfield 19, 3) := by decide +kernel
theorem dX1_fitsWithout_37 : decode cX1_fitsWithout 37 = .ok (.invokevirtual 51, 3) := by decide +kernel
theorem dX1_fitsWithout_40 : decode cX1_fitsWithout 40 = .ok (.ireturn, 1) := by decide +kernel
theorem dX1_whoElse_0 : decode cX1_whoElse 0 = .ok (.iconst 0, 1) := by decide +kernel
theorem dX1_whoElse_1 : decode cX1_whoElse 1 = .ok (.istore_n 2, 1) := by decide +kernel
theorem dX1_whoElse_2 : decode cX1_whoElse 2 = .ok (.iconst 0, 1) := by decide +kernel
theorem dX1_whoElse_3 : decode cX1_whoElse 3 = .ok (.istore_n 3, 1) := by decide +kernel
theorem dX1_whoElse_4 : decode cX1_whoElse 4 = .ok (.iload_n 3, 1) := by decide +kernel
theorem dX1_whoElse_5 : decode cX1_whoElse 5 = .ok (.aload_n 0, 1) := by decide +kernel
theorem dX1_whoElse_6 : decode cX1_whoElse 6 = .ok (.getfield 15, 3) := by decide +kernel
theorem dX1_whoElse_9 : decode cX1_whoElse 9 = .ok (.getfield 57, 3) := by decide +kernel
theorem dX1_whoElse_12 : decode cX1_whoElse 12 = .ok (.if_icmp .ge 61, 3) := by decide +kernel
theorem dX1_whoElse_15 : decode cX1_whoElse 15 = .ok (.aload_n 0, 1) := by decide +kernel
theorem dX1_whoElse_16 : decode cX1_whoElse 16 = .ok (.getfield 19, 3) := by decide +kernel
theorem dX1_whoElse_19 : decode cX1_whoElse 19 = .ok (.aload_n 0, 1) := by decide +kernel
theorem dX1_whoElse_20 : decode cX1_whoElse 20 = .ok (.getfield 15, 3) := by decide +kernel
theorem dX1_whoElse_23 : decode cX1_whoElse 23 = .ok (.invokevirtual 37, 3) := by decide +kernel
theorem dX1_whoElse_26 : decode cX1_whoElse 26 = .ok (.invokevirtual 41, 3) := by decide +kernel
theorem dX1_whoElse_29 : decode cX1_whoElse 29 = .ok (.aload_n 0, 1) := by decide +kernel
theorem dX1_whoElse_30 : decode cX1_whoElse 30 = .ok (.getfield 19, 3) := by decide +kernel
theorem dX1_whoElse_33 : decode cX1_whoElse 33 = .ok (.iload_n 1, 1) := by decide +kernel
theorem dX1_whoElse_34 : decode cX1_whoElse 34 = .ok (.iload_n 3, 1) := by decide +kernel
theorem dX1_whoElse_35 : decode cX1_whoElse 35 = .ok (.invokevirtual 60, 3) := by decide +kernel
theorem dX1_whoElse_38 : decode cX1_whoElse 38 = .ok (.aload_n 0, 1) := by decide +kernel
theorem dX1_whoElse_39 : decode cX1_whoElse 39 = .ok (.getfield 19, 3) := by decide +kernel
theorem dX1_whoElse_42 : decode cX1_whoElse 42 = .ok (.iconst (-1), 1) := by decide +kernel
theorem dX1_whoElse_43 : decode cX1_whoElse 43 = .ok (.iconst (-1), 1) := by decide +kernel
theorem dX1_whoElse_44 : decode cX1_whoElse 44 = .ok (.invokevirtual 47, 3) := by decide +kernel
theorem dX1_whoElse_47 : decode cX1_whoElse 47 = .ok (.aload_n 0, 1) := by decide +kernel
theorem dX1_whoElse_48 : decode cX1_whoElse 48 = .ok (.getfield 23, 3) := by decide +kernel
theorem dX1_whoElse_51 : decode cX1_whoElse 51 = .ok (.aload_n 0, 1) := by decide +kernel
theorem dX1_whoElse_52 : decode cX1_whoElse 52 = .ok (.getfield 19, 3) := by decide +kernel
theorem dX1_whoElse_55 : decode cX1_whoElse 55 = .ok (.invokevirtual 51, 3) := by decide +kernel
theorem dX1_whoElse_58 : decode cX1_whoElse 58 = .ok (.ifCond .eq 9, 3) := by decide +kernel
theorem dX1_whoElse_61 : decode cX1_whoElse 61 = .ok (.iload_n 2, 1) := by decide +kernel
theorem dX1_whoElse_62 : decode cX1_whoElse 62 = .ok (.iconst 1, 1) := by decide +kernel
theorem dX1_whoElse_63 : decode cX1_whoElse 63 = .ok (.iload_n 3, 1) := by decide +kernel
theorem dX1_whoElse_64 : decode cX1_whoElse 64 = .ok (.ishl, 1) := by decide +kernel
theorem dX1_whoElse_65 : decode cX1_whoElse 65 = .ok (.ior, 1) := by decide +kernel
theorem dX1_whoElse_66 : decode cX1_whoElse 66 = .ok (.istore_n 2, 1) := by decide +kernel
theorem dX1_whoElse_67 : decode cX1_whoElse 67 = .ok (.iinc 3 1, 3) := by decide +kernel
theorem dX1_whoElse_70 : decode cX1_whoElse 70 = .ok (.goto (-66), 3) := by decide +kernel
theorem dX1_whoElse_73 : decode cX1_whoElse 73 = .ok (.iload_n 2, 1) := by decide +kernel
theorem dX1_whoElse_74 : decode cX1_whoElse 74 = .ok (.ireturn, 1) := by decide +kernel
theorem dX1_bestStep_0 : decode cX1_bestStep 0 = .ok (.iconst 0, 1) := by decide +kernel
theorem dX1_bestStep_1 : decode cX1_bestStep 1 = .ok (.istore_n 1, 1) := by decide +kernel
theorem dX1_bestStep_2 : decode cX1_bestStep 2 = .ok (.iconst 0, 1) := by decide +kernel
theorem dX1_bestStep_3 : decode cX1_bestStep 3 = .ok (.istore_n 2, 1) := by decide +kernel
theorem dX1_bestStep_4 : decode cX1_bestStep 4 = .ok (.iload_n 2, 1) := by decide +kernel
theorem dX1_bestStep_5 : decode cX1_bestStep 5 = .ok (.aload_n 0, 1) := by decide +kernel
theorem dX1_bestStep_6 : decode cX1_bestStep 6 = .ok (.getfield 15, 3) := by decide +kernel
theorem dX1_bestStep_9 : decode cX1_bestStep 9 = .ok (.getfield 27, 3) := by decide +kernel
theorem dX1_bestStep_12 : decode cX1_bestStep 12 = .ok (.if_icmp .ge 25, 3) := by decide +kernel
theorem dX1_bestStep_15 : decode cX1_bestStep 15 = .ok (.aload_n 0, 1) := by decide +kernel
theorem dX1_bestStep_16 : decode cX1_bestStep 16 = .ok (.iload_n 2, 1) := by decide +kernel
theorem dX1_bestStep_17 : decode cX1_bestStep 17 = .ok (.invokevirtual 33, 3) := by decide +kernel
theorem dX1_bestStep_20 : decode cX1_bestStep 20 = .ok (.ifCond .eq 11, 3) := by decide +kernel
theorem dX1_bestStep_23 : decode cX1_bestStep 23 = .ok (.aload_n 0, 1) := by decide +kernel
theorem dX1_bestStep_24 : decode cX1_bestStep 24 = .ok (.iload_n 1, 1) := by decide +kernel
theorem dX1_bestStep_25 : decode cX1_bestStep 25 = .ok (.invokevirtual 63, 3) := by decide +kernel
theorem dX1_bestStep_28 : decode cX1_bestStep 28 = .ok (.iinc 1 1, 3) := by decide +kernel
theorem dX1_bestStep_31 : decode cX1_bestStep 31 = .ok (.iinc 2 1, 3) := by decide +kernel
theorem dX1_bestStep_34 : decode cX1_bestStep 34 = .ok (.goto (-30), 3) := by decide +kernel
theorem dX1_bestStep_37 : decode cX1_bestStep 37 = .ok (.iconst 0, 1) := by decide +kernel
theorem dX1_bestStep_38 : decode cX1_bestStep 38 = .ok (.istore_n 2, 1) := by decide +kernel
theorem dX1_bestStep_39 : decode cX1_bestStep 39 = .ok (.bipush 9, 2) := by decide +kernel
theorem dX1_bestStep_41 : decode cX1_bestStep 41 = .ok (.istore_n 3, 1) := by decide +kernel
theorem dX1_bestStep_42 : decode cX1_bestStep 42 = .ok (.iconst 0, 1) := by decide +kernel
theorem dX1_bestStep_43 : decode cX1_bestStep 43 = .ok (.istore 4, 2) := by decide +kernel
theorem dX1_bestStep_45 : decode cX1_bestStep 45 = .ok (.iload 4, 2) := by decide +kernel
theorem dX1_bestStep_47 : decode cX1_bestStep 47 = .ok (.bipush 100, 2) := by decide +kernel
theorem dX1_bestStep_49 : decode cX1_bestStep 49 = .ok (.if_icmp .ge 30, 3) := by decide +kernel
theorem dX1_bestStep_52 : decode cX1_bestStep 52 = .ok (.aload_n 0, 1) := by decide +kernel
theorem dX1_bestStep_53 : decode cX1_bestStep 53 = .ok (.iload_n 1, 1) := by decide +kernel
theorem dX1_bestStep_54 : decode cX1_bestStep 54 = .ok (.iload 4, 2) := by decide +kernel
theorem dX1_bestStep_56 : decode cX1_bestStep 56 = .ok (.invokevirtual 66, 3) := by decide +kernel
theorem dX1_bestStep_59 : decode cX1_bestStep 59 = .ok (.istore 5, 2) := by decide +kernel
theorem dX1_bestStep_61 : decode cX1_bestStep 61 = .ok (.iload 5, 2) := by decide +kernel
theorem dX1_bestStep_63 : decode cX1_bestStep 63 = .ok (.iload_n 3, 1) := by decide +kernel
theorem dX1_bestStep_64 : decode cX1_bestStep 64 = .ok (.if_icmp .ge 9, 3) := by decide +kernel
theorem dX1_bestStep_67 : decode cX1_bestStep 67 = .ok (.iload 5, 2) := by decide +kernel
theorem dX1_bestStep_69 : decode cX1_bestStep 69 = .ok (.istore_n 3, 1) := by decide +kernel
theorem dX1_bestStep_70 : decode cX1_bestStep 70 = .ok (.iload 4, 2) := by decide +kernel
theorem dX1_bestStep_72 : decode cX1_bestStep 72 = .ok (.istore_n 2, 1) := by decide +kernel
theorem dX1_bestStep_73 : decode cX1_bestStep 73 = .ok (.iinc 4 1, 3) := by decide +kernel
theorem dX1_bestStep_76 : decode cX1_bestStep 76 = .ok (.goto (-31), 3) := by decide +kernel
theorem dX1_bestStep_79 : decode cX1_bestStep 79 = .ok (.iload_n 2, 1) := by decide +kernel
theorem dX1_bestStep_80 : decode cX1_bestStep 80 = .ok (.ireturn, 1) := by decide +kernel
theorem dX1_noteWeights_0 : decode cX1_noteWeights 0 = .ok (.iload_n 1, 1) := by decide +kernel
theorem dX1_noteWeights_1 : decode cX1_noteWeights 1 = .ok (.ifCond .lt 9, 3) := by decide +kernel
theorem dX1_noteWeights_4 : decode cX1_noteWeights 4 = .ok (.iload_n 1, 1) := by decide +kernel
theorem dX1_noteWeights_5 : decode cX1_noteWeights 5 = .ok (.bipush 8, 2) := by decide +kernel
theorem dX1_noteWeights_7 : decode cX1_noteWeights 7 = .ok (.if_icmp .lt 4, 3) := by decide +kernel
theorem dX1_noteWeights_10 : decode cX1_noteWeights 10 = .ok (.return_, 1) := by decide +kernel
theorem dX1_noteWeights_11 : decode cX1_noteWeights 11 = .ok (.iconst 0, 1) := by decide +kernel
theorem dX1_noteWeights_12 : decode cX1_noteWeights 12 = .ok (.istore_n 2, 1) := by decide +kernel
theorem dX1_noteWeights_13 : decode cX1_noteWeights 13 = .ok (.iconst 0, 1) := by decide +kernel
theorem dX1_noteWeights_14 : decode cX1_noteWeights 14 = .ok (.istore_n 3, 1) := by decide +kernel
theorem dX1_noteWeights_15 : decode cX1_noteWeights 15 = .ok (.iload_n 3, 1) := by decide +kernel
theorem dX1_noteWeights_16 : decode cX1_noteWeights 16 = .ok (.bipush 100, 2) := by decide +kernel
theorem dX1_noteWeights_18 : decode cX1_noteWeights 18 = .ok (.if_icmp .ge 60, 3) := by decide +kernel
theorem dX1_noteWeights_21 : decode cX1_noteWeights 21 = .ok (.iload_n 2, 1) := by decide +kernel
theorem dX1_noteWeights_22 : decode cX1_noteWeights 22 = .ok (.iconst 1, 1) := by decide +kernel
theorem dX1_noteWeights_23 : decode cX1_noteWeights 23 = .ok (.iadd, 1) := by decide +kernel
theorem dX1_noteWeights_24 : decode cX1_noteWeights 24 = .ok (.aload_n 0, 1) := by decide +kernel
theorem dX1_noteWeights_25 : decode cX1_noteWeights 25 = .ok (.getfield 19, 3) := by decide +kernel
theorem dX1_noteWeights_28 : decode cX1_noteWeights 28 = .ok (.getfield 70, 3) := by decide +kernel
theorem dX1_noteWeights_31 : decode cX1_noteWeights 31 = .ok (.if_icmp .ge 21, 3) := by decide +kernel
theorem dX1_noteWeights_34 : decode cX1_noteWeights 34 = .ok (.aload_n 0, 1) := by decide +kernel
theorem dX1_noteWeights_35 : decode cX1_noteWeights 35 = .ok (.getfield 19, 3) := by decide +kernel
theorem dX1_noteWeights_38 : decode cX1_noteWeights 38 = .ok (.getfield 73, 3) := by decide +kernel
theorem dX1_noteWeights_41 : decode cX1_noteWeights 41 = .ok (.iload_n 2, 1) := by decide +kernel
theorem dX1_noteWeights_42 : decode cX1_noteWeights 42 = .ok (.iconst 1, 1) := by decide +kernel
theorem dX1_noteWeights_43 : decode cX1_noteWeights 43 = .ok (.iadd, 1) := by decide +kernel
theorem dX1_noteWeights_44 : decode cX1_noteWeights 44 = .ok (.iaload, 1) := by decide +kernel
theorem dX1_noteWeights_45 : decode cX1_noteWeights 45 = .ok (.iload_n 3, 1) := by decide +kernel
theorem dX1_noteWeights_46 : decode cX1_noteWeights 46 = .ok (.if_icmp .gt 6, 3) := by decide +kernel
theorem dX1_noteWeights_49 : decode cX1_noteWeights 49 = .ok (.iinc 2 1, 3) := by decide +kernel
theorem dX1_noteWeights_52 : decode cX1_noteWeights 52 = .ok (.aload_n 0, 1) := by decide +kernel
theorem dX1_noteWeights_53 : decode cX1_noteWeights 53 = .ok (.getfield 9, 3) := by decide +kernel
theorem dX1_noteWeights_56 : decode cX1_noteWeights 56 = .ok (.iload_n 1, 1) := by decide +kernel
theorem dX1_noteWeights_57 : decode cX1_noteWeights 57 = .ok (.bipush 100, 2) := by decide +kernel
theorem dX1_noteWeights_59 : decode cX1_noteWeights 59 = .ok (.imul, 1) := by decide +kernel
theorem dX1_noteWeights_60 : decode cX1_noteWeights 60 = .ok (.iload_n 3, 1) := by decide +kernel
theorem dX1_noteWeights_61 : decode cX1_noteWeights 61 = .ok (.iadd, 1) := by decide +kernel
theorem dX1_noteWeights_62 : decode cX1_noteWeights 62 = .ok (.aload_n 0, 1) := by decide +kernel
theorem dX1_noteWeights_63 : decode cX1_noteWeights 63 = .ok (.getfield 19, 3) := by decide +kernel
theorem dX1_noteWeights_66 : decode cX1_noteWeights 66 = .ok (.getfield 76, 3) := by decide +kernel
theorem dX1_noteWeights_69 : decode cX1_noteWeights 69 = .ok (.iload_n 2, 1) := by decide +kernel
theorem dX1_noteWeights_70 : decode cX1_noteWeights 70 = .ok (.iaload, 1) := by decide +kernel
theorem dX1_noteWeights_71 : decode cX1_noteWeights 71 = .ok (.iastore, 1) := by decide +kernel
theorem dX1_noteWeights_72 : decode cX1_noteWeights 72 = .ok (.iinc 3 1, 3) := by decide +kernel
theorem dX1_noteWeights_75 : decode cX1_noteWeights 75 = .ok (.goto (-60), 3) := by decide +kernel
theorem dX1_noteWeights_78 : decode cX1_noteWeights 78 = .ok (.return_, 1) := by decide +kernel
theorem dX1_mostAlike_0 : decode cX1_mostAlike 0 = .ok (.iconst 0, 1) := by decide +kernel
theorem dX1_mostAlike_1 : decode cX1_mostAlike 1 = .ok (.istore_n 3, 1) := by decide +kernel
theorem dX1_mostAlike_2 : decode cX1_mostAlike 2 = .ok (.iconst 0, 1) := by decide +kernel
theorem dX1_mostAlike_3 : decode cX1_mostAlike 3 = .ok (.istore 4, 2) := by decide +kernel
theorem dX1_mostAlike_5 : decode cX1_mostAlike 5 = .ok (.iload 4, 2) := by decide +kernel
theorem dX1_mostAlike_7 : decode cX1_mostAlike 7 = .ok (.iload_n 1, 1) := by decide +kernel
theorem dX1_mostAlike_8 : decode cX1_mostAlike 8 = .ok (.if_icmp .ge 78, 3) := by decide +kernel
theorem dX1_mostAlike_11 : decode cX1_mostAlike 11 = .ok (.iload 4, 2) := by decide +kernel
theorem dX1_mostAlike_13 : decode cX1_mostAlike 13 = .ok (.bipush 8, 2) := by decide +kernel
theorem dX1_mostAlike_15 : decode cX1_mostAlike 15 = .ok (.if_icmp .ge 71, 3) := by decide +kernel
theorem dX1_mostAlike_18 : decode cX1_mostAlike 18 = .ok (.iconst 0, 1) := by decide +kernel
theorem dX1_mostAlike_19 : decode cX1_mostAlike 19 = .ok (.istore 5, 2) := by decide +kernel
theorem dX1_mostAlike_21 : decode cX1_mostAlike 21 = .ok (.iconst 0, 1) := by decide +kernel
theorem dX1_mostAlike_22 : decode cX1_mostAlike 22 = .ok (.istore 6, 2) := by decide +kernel
theorem dX1_mostAlike_24 : decode cX1_mostAlike 24 = .ok (.iload 6, 2) := by decide +kernel
theorem dX1_mostAlike_26 : decode cX1_mostAlike 26 = .ok (.iload_n 1, 1) := by decide +kernel
theorem dX1_mostAlike_27 : decode cX1_mostAlike 27 = .ok (.if_icmp .ge 46, 3) := by decide +kernel
theorem dX1_mostAlike_30 : decode cX1_mostAlike 30 = .ok (.iload 6, 2) := by decide +kernel
theorem dX1_mostAlike_32 : decode cX1_mostAlike 32 = .ok (.bipush 8, 2) := by decide +kernel
theorem dX1_mostAlike_34 : decode cX1_mostAlike 34 = .ok (.if_icmp .ge 39, 3) := by decide +kernel
theorem dX1_mostAlike_37 : decode cX1_mostAlike 37 = .ok (.aload_n 0, 1) := by decide +kernel
theorem dX1_mostAlike_38 : decode cX1_mostAlike 38 = .ok (.getfield 9, 3) := by decide +kernel
theorem dX1_mostAlike_41 : decode cX1_mostAlike 41 = .ok (.iload 4, 2) := by decide +kernel
theorem dX1_mostAlike_43 : decode cX1_mostAlike 43 = .ok (.bipush 100, 2) := by decide +kernel
theorem dX1_mostAlike_45 : decode cX1_mostAlike 45 = .ok (.imul, 1) := by decide +kernel
theorem dX1_mostAlike_46 : decode cX1_mostAlike 46 = .ok (.iload_n 2, 1) := by decide +kernel
theorem dX1_mostAlike_47 : decode cX1_mostAlike 47 = .ok (.iadd, 1) := by decide +kernel
theorem dX1_mostAlike_48 : decode cX1_mostAlike 48 = .ok (.iaload, 1) := by decide +kernel
theorem dX1_mostAlike_49 : decode cX1_mostAlike 49 = .ok (.aload_n 0, 1) := by decide +kernel
theorem dX1_mostAlike_50 : decode cX1_mostAlike 50 = .ok (.getfield 9, 3) := by decide +kernel
theorem dX1_mostAlike_53 : decode cX1_mostAlike 53 = .ok (.iload 6, 2) := by decide +kernel
theorem dX1_mostAlike_55 : decode cX1_mostAlike 55 = .ok (.bipush 100, 2) := by decide +kernel
theorem dX1_mostAlike_57 : decode cX1_mostAlike 57 = .ok (.imul, 1) := by decide +kernel
theorem dX1_mostAlike_58 : decode cX1_mostAlike 58 = .ok (.iload_n 2, 1) := by decide +kernel
theorem dX1_mostAlike_59 : decode cX1_mostAlike 59 = .ok (.iadd, 1) := by decide +kernel
theorem dX1_mostAlike_60 : decode cX1_mostAlike 60 = .ok (.iaload, 1) := by decide +kernel
theorem dX1_mostAlike_61 : decode cX1_mostAlike 61 = .ok (.if_icmp .ne 6, 3) := by decide +kernel
theorem dX1_mostAlike_64 : decode cX1_mostAlike 64 = .ok (.iinc 5 1, 3) := by decide +kernel
theorem dX1_mostAlike_67 : decode cX1_mostAlike 67 = .ok (.iinc 6 1, 3) := by decide +kernel
theorem dX1_mostAlike_70 : decode cX1_mostAlike 70 = .ok (.goto (-46), 3) := by decide +kernel
theorem dX1_mostAlike_73 : decode cX1_mostAlike 73 = .ok (.iload_n 3, 1) := by decide +kernel
theorem dX1_mostAlike_74 : decode cX1_mostAlike 74 = .ok (.iload 5, 2) := by decide +kernel
theorem dX1_mostAlike_76 : decode cX1_mostAlike 76 = .ok (.invokestatic 79, 3) := by decide +kernel
theorem dX1_mostAlike_79 : decode cX1_mostAlike 79 = .ok (.istore_n 3, 1) := by decide +kernel
theorem dX1_mostAlike_80 : decode cX1_mostAlike 80 = .ok (.iinc 4 1, 3) := by decide +kernel
theorem dX1_mostAlike_83 : decode cX1_mostAlike 83 = .ok (.goto (-78), 3) := by decide +kernel
theorem dX1_mostAlike_86 : decode cX1_mostAlike 86 = .ok (.iload_n 3, 1) := by decide +kernel
theorem dX1_mostAlike_87 : decode cX1_mostAlike 87 = .ok (.ireturn, 1) := by decide +kernel
theorem dX2_init_0 : decode cX2_init 0 = .ok (.aload_n 0, 1) := by decide +kernel
theorem dX2_init_1 : decode cX2_init 1 = .ok (.invokespecial 3, 3) := by decide +kernel
theorem dX2_init_4 : decode cX2_init 4 = .ok (.aload_n 0, 1) := by decide +kernel
theorem dX2_init_5 : decode cX2_init 5 = .ok (.iconst 4, 1) := by decide +kernel
theorem dX2_init_6 : decode cX2_init 6 = .ok (.putfield 9, 3) := by decide +kernel
theorem dX2_init_9 : decode cX2_init 9 = .ok (.aload_n 0, 1) := by decide +kernel
theorem dX2_init_10 : decode cX2_init 10 = .ok (.bipush 20, 2) := by decide +kernel
theorem dX2_init_12 : decode cX2_init 12 = .ok (.putfield 15, 3) := by decide +kernel
theorem dX2_init_15 : decode cX2_init 15 = .ok (.aload_n 0, 1) := by decide +kernel
theorem dX2_init_16 : decode cX2_init 16 = .ok (.iconst 0, 1) := by decide +kernel
theorem dX2_init_17 : decode cX2_init 17 = .ok (.putfield 18, 3) := by decide +kernel
theorem dX2_init_20 : decode cX2_init 20 = .ok (.aload_n 0, 1) := by decide +kernel
theorem dX2_init_21 : decode cX2_init 21 = .ok (.iconst 0, 1) := by decide +kernel
theorem dX2_init_22 : decode cX2_init 22 = .ok (.putfield 21, 3) := by decide +kernel
theorem dX2_init_25 : decode cX2_init 25 = .ok (.aload_n 0, 1) := by decide +kernel
theorem dX2_init_26 : decode cX2_init 26 = .ok (.iconst 0, 1) := by decide +kernel
theorem dX2_init_27 : decode cX2_init 27 = .ok (.putfield 24, 3) := by decide +kernel
theorem dX2_init_30 : decode cX2_init 30 = .ok (.aload_n 0, 1) := by decide +kernel
theorem dX2_init_31 : decode cX2_init 31 = .ok (.iconst 0, 1) := by decide +kernel
theorem dX2_init_32 : decode cX2_init 32 = .ok (.putfield 27, 3) := by decide +kernel
theorem dX2_init_35 : decode cX2_init 35 = .ok (.aload_n 0, 1) := by decide +kernel
theorem dX2_init_36 : decode cX2_init 36 = .ok (.bipush 8, 2) := by decide +kernel
theorem dX2_init_38 : decode cX2_init 38 = .ok (.newarray .int, 2) := by decide +kernel
theorem dX2_init_40 : decode cX2_init 40 = .ok (.putfield 30, 3) := by decide +kernel
theorem dX2_init_43 : decode cX2_init 43 = .ok (.aload_n 0, 1) := by decide +kernel
theorem dX2_init_44 : decode cX2_init 44 = .ok (.bipush 8, 2) := by decide +kernel
theorem dX2_init_46 : decode cX2_init 46 = .ok (.newarray .int, 2) := by decide +kernel
theorem dX2_init_48 : decode cX2_init 48 = .ok (.putfield 34, 3) := by decide +kernel
theorem dX2_init_51 : decode cX2_init 51 = .ok (.aload_n 0, 1) := by decide +kernel
theorem dX2_init_52 : decode cX2_init 52 = .ok (.bipush 8, 2) := by decide +kernel
theorem dX2_init_54 : decode cX2_init 54 = .ok (.newarray .int, 2) := by decide +kernel
theorem dX2_init_56 : decode cX2_init 56 = .ok (.putfield 37, 3) := by decide +kernel
theorem dX2_init_59 : decode cX2_init 59 = .ok (.aload_n 0, 1) := by decide +kernel
theorem dX2_init_60 : decode cX2_init 60 = .ok (.bipush 8, 2) := by decide +kernel
theorem dX2_init_62 : decode cX2_init 62 = .ok (.newarray .int, 2) := by decide +kernel
theorem dX2_init_64 : decode cX2_init 64 = .ok (.putfield 40, 3) := by decide +kernel
theorem dX2_init_67 : decode cX2_init 67 = .ok (.aload_n 0, 1) := by decide +kernel
theorem dX2_init_68 : decode cX2_init 68 = .ok (.bipush 8, 2) := by decide +kernel
theorem dX2_init_70 : decode cX2_init 70 = .ok (.newarray .int, 2) := by decide +kernel
theorem dX2_init_72 : decode cX2_init 72 = .ok (.putfield 43, 3) := by decide +kernel
theorem dX2_init_75 : decode cX2_init 75 = .ok (.aload_n 0, 1) := by decide +kernel
theorem dX2_init_76 : decode cX2_init 76 = .ok (.bipush 20, 2) := by decide +kernel
theorem dX2_init_78 : decode cX2_init 78 = .ok (.newarray .int, 2) := by decide +kernel
theorem dX2_init_80 : decode cX2_init 80 = .ok (.putfield 46, 3) := by decide +kernel
theorem dX2_init_83 : decode cX2_init 83 = .ok (.aload_n 0, 1) := by decide +kernel
theorem dX2_init_84 : decode cX2_init 84 = .ok (.bipush 10, 2) := by decide +kernel
theorem dX2_init_86 : decode cX2_init 86 = .ok (.newarray .int, 2) := by decide +kernel
theorem dX2_init_88 : decode cX2_init 88 = .ok (.putfield 49, 3) := by decide +kernel
theorem dX2_init_91 : decode cX2_init 91 = .ok (.aload_n 0, 1) := by decide +kernel
theorem dX2_init_92 : decode cX2_init 92 = .ok (.bipush 10, 2) := by decide +kernel
theorem dX2_init_94 : decode cX2_init 94 = .ok (.newarray .int, 2) := by decide +kernel
theorem dX2_init_96 : decode cX2_init 96 = .ok (.putfield 52, 3) := by decide +kernel
theorem dX2_init_99 : decode cX2_init 99 = .ok (.return_, 1) := by decide +kernel
theorem dX2_takeRiders_0 : decode cX2_takeRiders 0 = .ok (.aload_n 0, 1) := by decide +kernel
theorem dX2_takeRiders_1 : decode cX2_takeRiders 1 = .ok (.aload_n 1, 1) := by decide +kernel
theorem dX2_takeRiders_2 : decode cX2_takeRiders 2 = .ok (.invokevirtual 55, 3) := by decide +kernel
theorem dX2_takeRiders_5 : decode cX2_takeRiders 5 = .ok (.bipush 8, 2) := by decide +kernel
theorem dX2_takeRiders_7 : decode cX2_takeRiders 7 = .ok (.invokestatic 61, 3) := by decide +kernel
theorem dX2_takeRiders_10 : decode cX2_takeRiders 10 = .ok (.putfield 18, 3) := by decide +kernel
theorem dX2_takeRiders_13 : decode cX2_takeRiders 13 = .ok (.aload_n 0, 1) := by decide +kernel
theorem dX2_takeRiders_14 : decode cX2_takeRiders 14 = .ok (.iconst 0, 1) := by decide +kernel
theorem dX2_takeRiders_15 : decode cX2_takeRiders 15 = .ok (.putfield 27, 3) := by decide +kernel
theorem dX2_takeRiders_18 : decode cX2_takeRiders 18 = .ok (.aload_n 0, 1) := by decide +kernel
theorem dX2_takeRiders_19 : decode cX2_takeRiders 19 = .ok (.getfield 49, 3) := by decide +kernel
theorem dX2_takeRiders_22 : decode cX2_takeRiders 22 = .ok (.iconst 0, 1) := by decide +kernel
theorem dX2_takeRiders_23 : decode cX2_takeRiders 23 = .ok (.invokestatic 67, 3) := by decide +kernel
theorem dX2_takeRiders_26 : decode cX2_takeRiders 26 = .ok (.aload_n 0, 1) := by decide +kernel
theorem dX2_takeRiders_27 : decode cX2_takeRiders 27 = .ok (.getfield 52, 3) := by decide +kernel
theorem dX2_takeRiders_30 : decode cX2_takeRiders 30 = .ok (.iconst 0, 1) := by decide +kernel
theorem dX2_takeRiders_31 : decode cX2_takeRiders 31 = .ok (.invokestatic 67, 3) := by decide +kernel
theorem dX2_takeRiders_34 : decode cX2_takeRiders 34 = .ok (.iconst 0, 1) := by decide +kernel
theorem dX2_takeRiders_35 : decode cX2_takeRiders 35 = .ok (.istore_n 2, 1) := by decide +kernel
theorem dX2_takeRiders_36 : decode cX2_takeRiders 36 = .ok (.iload_n 2, 1) := by decide +kernel
theorem dX2_takeRiders_37 : decode cX2_takeRiders 37 = .ok (.aload_n 0, 1) := by decide +kernel
theorem dX2_takeRiders_38 : decode cX2_takeRiders 38 = .ok (.getfield 18, 3) := by decide +kernel
theorem dX2_takeRiders_41 : decode cX2_takeRiders 41 = .ok (.if_icmp .ge 84, 3) := by decide +kernel
theorem dX2_takeRiders_44 : decode cX2_takeRiders 44 = .ok (.aload_n 0, 1) := by decide +kernel
theorem dX2_takeRiders_45 : decode cX2_takeRiders 45 = .ok (.getfield 30, 3) := by decide +kernel
theorem dX2_takeRiders_48 : decode cX2_takeRiders 48 = .ok (.iload_n 2, 1) := by decide +kernel
theorem dX2_takeRiders_49 : decode cX2_takeRiders 49 = .ok (.aload_n 1, 1) := by decide +kernel
theorem dX2_takeRiders_50 : decode cX2_takeRiders 50 = .ok (.iconst 4, 1) := by decide +kernel
theorem dX2_takeRiders_51 : decode cX2_takeRiders 51 = .ok (.iload_n 2, 1) := by decide +kernel
theorem dX2_takeRiders_52 : decode cX2_takeRiders 52 = .ok (.imul, 1) := by decide +kernel
theorem dX2_takeRiders_53 : decode cX2_takeRiders 53 = .ok (.invokevirtual 73, 3) := by decide +kernel
theorem dX2_takeRiders_56 : decode cX2_takeRiders 56 = .ok (.iastore, 1) := by decide +kernel
theorem dX2_takeRiders_57 : decode cX2_takeRiders 57 = .ok (.aload_n 0, 1) := by decide +kernel
theorem dX2_takeRiders_58 : decode cX2_takeRiders 58 = .ok (.getfield 34, 3) := by decide +kernel
theorem dX2_takeRiders_61 : decode cX2_takeRiders 61 = .ok (.iload_n 2, 1) := by decide +kernel
theorem dX2_takeRiders_62 : decode cX2_takeRiders 62 = .ok (.aload_n 1, 1) := by decide +kernel
theorem dX2_takeRiders_63 : decode cX2_takeRiders 63 = .ok (.iconst 4, 1) := by decide +kernel
theorem dX2_takeRiders_64 : decode cX2_takeRiders 64 = .ok (.iload_n 2, 1) := by decide +kernel
theorem dX2_takeRiders_65 : decode cX2_takeRiders 65 = .ok (.imul, 1) := by decide +kernel
theorem dX2_takeRiders_66 : decode cX2_takeRiders 66 = .ok (.iconst 1, 1) := by decide +kernel
theorem dX2_takeRiders_67 : decode cX2_takeRiders 67 = .ok (.iadd, 1) := by decide +kernel
theorem dX2_takeRiders_68 : decode cX2_takeRiders 68 = .ok (.invokevirtual 73, 3) := by decide +kernel
theorem dX2_takeRiders_71 : decode cX2_takeRiders 71 = .ok (.iastore, 1) := by decide +kernel
theorem dX2_takeRiders_72 : decode cX2_takeRiders 72 = .ok (.aload_n 0, 1) := by decide +kernel
theorem dX2_takeRiders_73 : decode cX2_takeRiders 73 = .ok (.getfield 37, 3) := by decide +kernel
theorem dX2_takeRiders_76 : decode cX2_takeRiders 76 = .ok (.iload_n 2, 1) := by decide +kernel
theorem dX2_takeRiders_77 : decode cX2_takeRiders 77 = .ok (.aload_n 1, 1) := by decide +kernel
theorem dX2_takeRiders_78 : decode cX2_takeRiders 78 = .ok (.iconst 4, 1) := by decide +kernel
theorem dX2_takeRiders_79 : decode cX2_takeRiders 79 = .ok (.iload_n 2, 1) := by decide +kernel
theorem dX2_takeRiders_80 : decode cX2_takeRiders 80 = .ok (.imul, 1) := by decide +kernel
theorem dX2_takeRiders_81 : decode cX2_takeRiders 81 = .ok (.iconst 2, 1) := by decide +kernel
theorem dX2_takeRiders_82 : decode cX2_takeRiders 82 = .ok (.iadd, 1) := by decide +kernel
theorem dX2_takeRiders_83 : decode cX2_takeRiders 83 = .ok (.invokevirtual 73, 3) := by decide +kernel
theorem dX2_takeRiders_86 : decode cX2_takeRiders 86 = .ok (.iastore, 1) := by decide +kernel
theorem dX2_takeRiders_87 : decode cX2_takeRiders 87 = .ok (.aload_n 0, 1) := by decide +kernel
theorem dX2_takeRiders_88 : decode cX2_takeRiders 88 = .ok (.getfield 34, 3) := by decide +kernel
theorem dX2_takeRiders_91 : decode cX2_takeRiders 91 = .ok (.iload_n 2, 1) := by decide +kernel
theorem dX2_takeRiders_92 : decode cX2_takeRiders 92 = .ok (.iaload, 1) := by decide +kernel
theorem dX2_takeRiders_93 : decode cX2_takeRiders 93 = .ok (.aload_n 0, 1) := by decide +kernel
theorem dX2_takeRiders_94 : decode cX2_takeRiders 94 = .ok (.getfield 37, 3) := by decide +kernel
theorem dX2_takeRiders_97 : decode cX2_takeRiders 97 = .ok (.iload_n 2, 1) := by decide +kernel
theorem dX2_takeRiders_98 : decode cX2_takeRiders 98 = .ok (.iaload, 1) := by decide +kernel
theorem dX2_takeRiders_99 : decode cX2_takeRiders 99 = .ok (.if_icmp .ne 15, 3) := by decide +kernel
theorem dX2_takeRiders_102 : decode cX2_takeRiders 102 = .ok (.aload_n 0, 1) := by decide +kernel
theorem dX2_takeRiders_103 : decode cX2_takeRiders 103 = .ok (.dup, 1) := by decide +kernel
theorem dX2_takeRiders_104 : decode cX2_takeRiders 104 = .ok (.getfield 27, 3) := by decide +kernel
theorem dX2_takeRiders_107 : decode cX2_takeRiders 107 = .ok (.iconst 1, 1) := by decide +kernel
theorem dX2_takeRiders_108 : decode cX2_takeRiders 108 = .ok (.iload_n 2, 1) := by decide +kernel
theorem dX2_takeRiders_109 : decode cX2_takeRiders 109 = .ok (.ishl, 1) := by decide +kernel
theorem dX2_takeRiders_110 : decode cX2_takeRiders 110 = .ok (.ior, 1) := by decide +kernel
theorem dX2_takeRiders_111 : decode cX2_takeRiders 111 = .ok (.putfield 27, 3) := by decide +kernel
theorem dX2_takeRiders_114 : decode cX2_takeRiders 114 = .ok (.aload_n 0, 1) := by decide +kernel
theorem dX2_takeRiders_115 : decode cX2_takeRiders 115 = .ok (.iload_n 2, 1) := by decide +kernel
theorem dX2_takeRiders_116 : decode cX2_takeRiders 116 = .ok (.invokevirtual 77, 3) := by decide +kernel
theorem dX2_takeRiders_119 : decode cX2_takeRiders 119 = .ok (.iinc 2 1, 3) := by decide +kernel
theorem dX2_takeRiders_122 : decode cX2_takeRiders 122 = .ok (.goto (-86), 3) := by decide +kernel
theorem dX2_takeRiders_125 : decode cX2_takeRiders 125 = .ok (.return_, 1) := by decide +kernel
theorem dX2_noteFloors_0 : decode cX2_noteFloors 0 = .ok (.iconst 0, 1) := by decide +kernel
theorem dX2_noteFloors_1 : decode cX2_noteFloors 1 = .ok (.istore_n 2, 1) := by decide +kernel
theorem dX2_noteFloors_2 : decode cX2_noteFloors 2 = .ok (.iload_n 2, 1) := by decide +kernel
theorem dX2_noteFloors_3 : decode cX2_noteFloors 3 = .ok (.bipush 10, 2) := by decide +kernel
theorem dX2_noteFloors_5 : decode cX2_noteFloors 5 = .ok (.if_icmp .ge 53, 3) := by decide +kernel
theorem dX2_noteFloors_8 : decode cX2_noteFloors 8 = .ok (.aload_n 0, 1) := by decide +kernel
theorem dX2_noteFloors_9 : decode cX2_noteFloors 9 = .ok (.getfield 34, 3) := by decide +kernel
theorem dX2_noteFloors_12 : decode cX2_noteFloors 12 = .ok (.iload_n 1, 1) := by decide +kernel
theorem dX2_noteFloors_13 : decode cX2_noteFloors 13 = .ok (.iaload, 1) := by decide +kernel
theorem dX2_noteFloors_14 : decode cX2_noteFloors 14 = .ok (.iload_n 2, 1) := by decide +kernel
theorem dX2_noteFloors_15 : decode cX2_noteFloors 15 = .ok (.if_icmp .ne 15, 3) := by decide +kernel
theorem dX2_noteFloors_18 : decode cX2_noteFloors 18 = .ok (.aload_n 0, 1) := by decide +kernel
theorem dX2_noteFloors_19 : decode cX2_noteFloors 19 = .ok (.getfield 49, 3) := by decide +kernel
theorem dX2_noteFloors_22 : decode cX2_noteFloors 22 = .ok (.iload_n 2, 1) := by decide +kernel
theorem dX2_noteFloors_23 : decode cX2_noteFloors 23 = .ok (.dup2, 1) := by decide +kernel
theorem dX2_noteFloors_24 : decode cX2_noteFloors 24 = .ok (.iaload, 1) := by decide +kernel
theorem dX2_noteFloors_25 : decode cX2_noteFloors 25 = .ok (.iconst 1, 1) := by decide +kernel
theorem dX2_noteFloors_26 : decode cX2_noteFloors 26 = .ok (.iload_n 1, 1) := by decide +kernel
theorem dX2_noteFloors_27 : decode cX2_noteFloors 27 = .ok (.ishl, 1) := by decide +kernel
theorem dX2_noteFloors_28 : decode cX2_noteFloors 28 = .ok (.ior, 1) := by decide +kernel
theorem dX2_noteFloors_29 : decode cX2_noteFloors 29 = .ok (.iastore, 1) := by decide +kernel
theorem dX2_noteFloors_30 : decode cX2_noteFloors 30 = .ok (.aload_n 0, 1) := by decide +kernel
theorem dX2_noteFloors_31 : decode cX2_noteFloors 31 = .ok (.getfield 37, 3) := by decide +kernel
theorem dX2_noteFloors_34 : decode cX2_noteFloors 34 = .ok (.iload_n 1, 1) := by decide +kernel
theorem dX2_noteFloors_35 : decode cX2_noteFloors 35 = .ok (.iaload, 1) := by decide +kernel
theorem dX2_noteFloors_36 : decode cX2_noteFloors 36 = .ok (.iload_n 2, 1) := by decide +kernel
theorem dX2_noteFloors_37 : decode cX2_noteFloors 37 = .ok (.if_icmp .ne 15, 3) := by decide +kernel
theorem dX2_noteFloors_40 : decode cX2_noteFloors 40 = .ok (.aload_n 0, 1) := by decide +kernel
theorem dX2_noteFloors_41 : decode cX2_noteFloors 41 = .ok (.getfield 52, 3) := by decide +kernel
theorem dX2_noteFloors_44 : decode cX2_noteFloors 44 = .ok (.iload_n 2, 1) := by decide +kernel
theorem dX2_noteFloors_45 : decode cX2_noteFloors 45 = .ok (.dup2, 1) := by decide +kernel
theorem dX2_noteFloors_46 : decode cX2_noteFloors 46 = .ok (.iaload, 1) := by decide +kernel
theorem dX2_noteFloors_47 : decode cX2_noteFloors 47 = .ok (.iconst 1, 1) := by decide +kernel
theorem dX2_noteFloors_48 : decode cX2_noteFloors 48 = .ok (.iload_n 1, 1) := by decide +kernel
theorem dX2_noteFloors_49 : decode cX2_noteFloors 49 = .ok (.ishl, 1) := by decide +kernel
theorem dX2_noteFloors_50 : decode cX2_noteFloors 50 = .ok (.ior, 1) := by decide +kernel
theorem dX2_noteFloors_51 : decode cX2_noteFloors 51 = .ok (.iastore, 1) := by decide +kernel
theorem dX2_noteFloors_52 : decode cX2_noteFloors 52 = .ok (.iinc 2 1, 3) := by decide +kernel
theorem dX2_noteFloors_55 : decode cX2_noteFloors 55 = .ok (.goto (-53), 3) := by decide +kernel
theorem dX2_noteFloors_58 : decode cX2_noteFloors 58 = .ok (.return_, 1) := by decide +kernel
theorem dX2_takeLeavers_0 : decode cX2_takeLeavers 0 = .ok (.aload_n 0, 1) := by decide +kernel
theorem dX2_takeLeavers_1 : decode cX2_takeLeavers 1 = .ok (.aload_n 1, 1) := by decide +kernel
theorem dX2_takeLeavers_2 : decode cX2_takeLeavers 2 = .ok (.invokevirtual 55, 3) := by decide +kernel
theorem dX2_takeLeavers_5 : decode cX2_takeLeavers 5 = .ok (.bipush 8, 2) := by decide +kernel
theorem dX2_takeLeavers_7 : decode cX2_takeLeavers 7 = .ok (.invokestatic 61, 3) := by decide +kernel
theorem dX2_takeLeavers_10 : decode cX2_takeLeavers 10 = .ok (.putfield 21, 3) := by decide +kernel
theorem dX2_takeLeavers_13 : decode cX2_takeLeavers 13 = .ok (.iconst 0, 1) := by decide +kernel
theorem dX2_takeLeavers_14 : decode cX2_takeLeavers 14 = .ok (.istore_n 2, 1) := by decide +kernel
theorem dX2_takeLeavers_15 : decode cX2_takeLeavers 15 = .ok (.iload_n 2, 1) := by decide +kernel
theorem dX2_takeLeavers_16 : decode cX2_takeLeavers 16 = .ok (.aload_n 0, 1) := by decide +kernel
theorem dX2_takeLeavers_17 : decode cX2_takeLeavers 17 = .ok (.getfield 21, 3) := by decide +kernel
theorem dX2_takeLeavers_20 : decode cX2_takeLeavers 20 = .ok (.if_icmp .ge 50, 3) := by decide +kernel
theorem dX2_takeLeavers_23 : decode cX2_takeLeavers 23 = .ok (.aload_n 0, 1) := by decide +kernel
theorem dX2_takeLeavers_24 : decode cX2_takeLeavers 24 = .ok (.getfield 40, 3) := by decide +kernel
theorem dX2_takeLeavers_27 : decode cX2_takeLeavers 27 = .ok (.iload_n 2, 1) := by decide +kernel
theorem dX2_takeLeavers_28 : decode cX2_takeLeavers 28 = .ok (.bipush 10, 2) := by decide +kernel
theorem dX2_takeLeavers_30 : decode cX2_takeLeavers 30 = .ok (.aload_n 1, 1) := by decide +kernel
theorem dX2_takeLeavers_31 : decode cX2_takeLeavers 31 = .ok (.iconst 4, 1) := by decide +kernel
theorem dX2_takeLeavers_32 : decode cX2_takeLeavers 32 = .ok (.iload_n 2, 1) := by decide +kernel
theorem dX2_takeLeavers_33 : decode cX2_takeLeavers 33 = .ok (.imul, 1) := by decide +kernel
theorem dX2_takeLeavers_34 : decode cX2_takeLeavers 34 = .ok (.invokevirtual 73, 3) := by decide +kernel
theorem dX2_takeLeavers_37 : decode cX2_takeLeavers 37 = .ok (.imul, 1) := by decide +kernel
theorem dX2_takeLeavers_38 : decode cX2_takeLeavers 38 = .ok (.aload_n 1, 1) := by decide +kernel
theorem dX2_takeLeavers_39 : decode cX2_takeLeavers 39 = .ok (.iconst 4, 1) := by decide +kernel
theorem dX2_takeLeavers_40 : decode cX2_takeLeavers 40 = .ok (.iload_n 2, 1) := by decide +kernel
theorem dX2_takeLeavers_41 : decode cX2_takeLeavers 41 = .ok (.imul, 1) := by decide +kernel
theorem dX2_takeLeavers_42 : decode cX2_takeLeavers 42 = .ok (.iconst 1, 1) := by decide +kernel
theorem dX2_takeLeavers_43 : decode cX2_takeLeavers 43 = .ok (.iadd, 1) := by decide +kernel
theorem dX2_takeLeavers_44 : decode cX2_takeLeavers 44 = .ok (.invokevirtual 73, 3) := by decide +kernel
theorem dX2_takeLeavers_47 : decode cX2_takeLeavers 47 = .ok (.iadd, 1) := by decide +kernel
theorem dX2_takeLeavers_48 : decode cX2_takeLeavers 48 = .ok (.iastore, 1) := by decide +kernel
theorem dX2_takeLeavers_49 : decode cX2_takeLeavers 49 = .ok (.aload_n 0, 1) := by decide +kernel
theorem dX2_takeLeavers_50 : decode cX2_takeLeavers 50 = .ok (.getfield 43, 3) := by decide +kernel
theorem dX2_takeLeavers_53 : decode cX2_takeLeavers 53 = .ok (.iload_n 2, 1) := by decide +kernel
theorem dX2_takeLeavers_54 : decode cX2_takeLeavers 54 = .ok (.aload_n 1, 1) := by decide +kernel
theorem dX2_takeLeavers_55 : decode cX2_takeLeavers 55 = .ok (.iconst 4, 1) := by decide +kernel
theorem dX2_takeLeavers_56 : decode cX2_takeLeavers 56 = .ok (.iload_n 2, 1) := by decide +kernel
theorem dX2_takeLeavers_57 : decode cX2_takeLeavers 57 = .ok (.imul, 1) := by decide +kernel
theorem dX2_takeLeavers_58 : decode cX2_takeLeavers 58 = .ok (.iconst 2, 1) := by decide +kernel
theorem dX2_takeLeavers_59 : decode cX2_takeLeavers 59 = .ok (.iadd, 1) := by decide +kernel
theorem dX2_takeLeavers_60 : decode cX2_takeLeavers 60 = .ok (.invokevirtual 73, 3) := by decide +kernel
theorem dX2_takeLeavers_63 : decode cX2_takeLeavers 63 = .ok (.iastore, 1) := by decide +kernel
theorem dX2_takeLeavers_64 : decode cX2_takeLeavers 64 = .ok (.iinc 2 1, 3) := by decide +kernel
theorem dX2_takeLeavers_67 : decode cX2_takeLeavers 67 = .ok (.goto (-52), 3) := by decide +kernel
theorem dX2_takeLeavers_70 : decode cX2_takeLeavers 70 = .ok (.return_, 1) := by decide +kernel
theorem dX2_takeStops_0 : decode cX2_takeStops 0 = .ok (.aload_n 0, 1) := by decide +kernel
theorem dX2_takeStops_1 : decode cX2_takeStops 1 = .ok (.aload_n 1, 1) := by decide +kernel
theorem dX2_takeStops_2 : decode cX2_takeStops 2 = .ok (.invokevirtual 55, 3) := by decide +kernel
theorem dX2_takeStops_5 : decode cX2_takeStops 5 = .ok (.bipush 20, 2) := by decide +kernel
theorem dX2_takeStops_7 : decode cX2_takeStops 7 = .ok (.invokestatic 61, 3) := by decide +kernel
theorem dX2_takeStops_10 : decode cX2_takeStops 10 = .ok (.putfield 24, 3) := by decide +kernel
theorem dX2_takeStops_13 : decode cX2_takeStops 13 = .ok (.iconst 0, 1) := by decide +kernel
theorem dX2_takeStops_14 : decode cX2_takeStops 14 = .ok (.istore_n 2, 1) := by decide +kernel
theorem dX2_takeStops_15 : decode cX2_takeStops 15 = .ok (.iload_n 2, 1) := by decide +kernel
theorem dX2_takeStops_16 : decode cX2_takeStops 16 = .ok (.aload_n 0, 1) := by decide +kernel
theorem dX2_takeStops_17 : decode cX2_takeStops 17 = .ok (.getfield 24, 3) := by decide +kernel
theorem dX2_takeStops_20 : decode cX2_takeStops 20 = .ok (.if_icmp .ge 20, 3) := by decide +kernel
theorem dX2_takeStops_23 : decode cX2_takeStops 23 = .ok (.aload_n 0, 1) := by decide +kernel
theorem dX2_takeStops_24 : decode cX2_takeStops 24 = .ok (.getfield 46, 3) := by decide +kernel
theorem dX2_takeStops_27 : decode cX2_takeStops 27 = .ok (.iload_n 2, 1) := by decide +kernel
theorem dX2_takeStops_28 : decode cX2_takeStops 28 = .ok (.aload_n 1, 1) := by decide +kernel
theorem dX2_takeStops_29 : decode cX2_takeStops 29 = .ok (.iload_n 2, 1) := by decide +kernel
theorem dX2_takeStops_30 : decode cX2_takeStops 30 = .ok (.invokevirtual 73, 3) := by decide +kernel
theorem dX2_takeStops_33 : decode cX2_takeStops 33 = .ok (.iastore, 1) := by decide +kernel
theorem dX2_takeStops_34 : decode cX2_takeStops 34 = .ok (.iinc 2 1, 3) := by decide +kernel
theorem dX2_takeStops_37 : decode cX2_takeStops 37 = .ok (.goto (-22), 3) := by decide +kernel
theorem dX2_takeStops_40 : decode cX2_takeStops 40 = .ok (.return_, 1) := by decide +kernel
theorem dX2_allLeavers_0 : decode cX2_allLeavers 0 = .ok (.iconst 1, 1) := by decide +kernel
theorem dX2_allLeavers_1 : decode cX2_allLeavers 1 = .ok (.aload_n 0, 1) := by decide +kernel
theorem dX2_allLeavers_2 : decode cX2_allLeavers 2 = .ok (.getfield 21, 3) := by decide +kernel
theorem dX2_allLeavers_5 : decode cX2_allLeavers 5 = .ok (.ishl, 1) := by decide +kernel
theorem dX2_allLeavers_6 : decode cX2_allLeavers 6 = .ok (.iconst 1, 1) := by decide +kernel
theorem dX2_allLeavers_7 : decode cX2_allLeavers 7 = .ok (.isub, 1) := by decide +kernel
theorem dX2_allLeavers_8 : decode cX2_allLeavers 8 = .ok (.ireturn, 1) := by decide +kernel
theorem dX3_init_0 : decode cX3_init 0 = .ok (.aload_n 0, 1) := by decide +kernel
theorem dX3_init_1 : decode cX3_init 1 = .ok (.invokespecial 3, 3) := by decide +kernel
theorem dX3_init_4 : decode cX3_init 4 = .ok (.aload_n 0, 1) := by decide +kernel
theorem dX3_init_5 : decode cX3_init 5 = .ok (.iconst 0, 1) := by decide +kernel
theorem dX3_init_6 : decode cX3_init 6 = .ok (.putfield 9, 3) := by decide +kernel
theorem dX3_init_9 : decode cX3_init 9 = .ok (.aload_n 0, 1) := by decide +kernel
theorem dX3_init_10 : decode cX3_init 10 = .ok (.iconst 3, 1) := by decide +kernel
theorem dX3_init_11 : decode cX3_init 11 = .ok (.newarray .int, 2) := by decide +kernel
theorem dX3_init_13 : decode cX3_init 13 = .ok (.putfield 15, 3) := by decide +kernel
theorem dX3_init_16 : decode cX3_init 16 = .ok (.aload_n 0, 1) := by decide +kernel
theorem dX3_init_17 : decode cX3_init 17 = .ok (.iconst 3, 1) := by decide +kernel
theorem dX3_init_18 : decode cX3_init 18 = .ok (.newarray .int, 2) := by decide +kernel
theorem dX3_init_20 : decode cX3_init 20 = .ok (.putfield 19, 3) := by decide +kernel
theorem dX3_init_23 : decode cX3_init 23 = .ok (.aload_n 0, 1) := by decide +kernel
theorem dX3_init_24 : decode cX3_init 24 = .ok (.sipush 211, 3) := by decide +kernel
theorem dX3_init_27 : decode cX3_init 27 = .ok (.newarray .long, 2) := by decide +kernel
theorem dX3_init_29 : decode cX3_init 29 = .ok (.putfield 22, 3) := by decide +kernel
theorem dX3_init_32 : decode cX3_init 32 = .ok (.aload_n 0, 1) := by decide +kernel
theorem dX3_init_33 : decode cX3_init 33 = .ok (.iconst 0, 1) := by decide +kernel
theorem dX3_init_34 : decode cX3_init 34 = .ok (.putfield 26, 3) := by decide +kernel
theorem dX3_init_37 : decode cX3_init 37 = .ok (.aload_n 0, 1) := by decide +kernel
theorem dX3_init_38 : decode cX3_init 38 = .ok (.aload_n 1, 1) := by decide +kernel
theorem dX3_init_39 : decode cX3_init 39 = .ok (.putfield 30, 3) := by decide +kernel
theorem dX3_init_42 : decode cX3_init 42 = .ok (.aload_n 0, 1) := by decide +kernel
theorem dX3_init_43 : decode cX3_init 43 = .ok (.aload_n 2, 1) := by decide +kernel
theorem dX3_init_44 : decode cX3_init 44 = .ok (.putfield 34, 3) := by decide +kernel
theorem dX3_init_47 : decode cX3_init 47 = .ok (.return_, 1) := by decide +kernel
theorem dX3_outdate_0 : decode cX3_outdate 0 = .ok (.aload_n 0, 1) := by decide +kernel
theorem dX3_outdate_1 : decode cX3_outdate 1 = .ok (.iconst 0, 1) := by decide +kernel
theorem dX3_outdate_2 : decode cX3_outdate 2 = .ok (.putfield 9, 3) := by decide +kernel
theorem dX3_outdate_5 : decode cX3_outdate 5 = .ok (.aload_n 0, 1) := by decide +kernel
theorem dX3_outdate_6 : decode cX3_outdate 6 = .ok (.iconst 0, 1) := by decide +kernel
theorem dX3_outdate_7 : decode cX3_outdate 7 = .ok (.putfield 26, 3) := by decide +kernel
theorem dX3_outdate_10 : decode cX3_outdate 10 = .ok (.return_, 1) := by decide +kernel
theorem dX3_foundMore_0 : decode cX3_foundMore 0 = .ok (.iload_n 1, 1) := by decide +kernel
theorem dX3_foundMore_1 : decode cX3_foundMore 1 = .ok (.iconst (-1), 1) := by decide +kernel
theorem dX3_foundMore_2 : decode cX3_foundMore 2 = .ok (.if_icmp .lt 8, 3) := by decide +kernel
theorem dX3_foundMore_5 : decode cX3_foundMore 5 = .ok (.iload_n 1, 1) := by decide +kernel
theorem dX3_foundMore_6 : decode cX3_foundMore 6 = .ok (.iconst 2, 1) := by decide +kernel
theorem dX3_foundMore_7 : decode cX3_foundMore 7 = .ok (.if_icmp .lt 7, 3) := by decide +kernel
theorem dX3_foundMore_10 : decode cX3_foundMore 10 = .ok (.iconst (-1), 1) := by decide +kernel
theorem dX3_foundMore_11 : decode cX3_foundMore 11 = .ok (.goto 11, 3) := by decide +kernel
theorem dX3_foundMore_14 : decode cX3_foundMore 14 = .ok (.aload_n 0, 1) := by decide +kernel
theorem dX3_foundMore_15 : decode cX3_foundMore 15 = .ok (.getfield 15, 3) := by decide +kernel
theorem dX3_foundMore_18 : decode cX3_foundMore 18 = .ok (.iconst 1, 1) := by decide +kernel
theorem dX3_foundMore_19 : decode cX3_foundMore 19 = .ok (.iload_n 1, 1) := by decide +kernel
theorem dX3_foundMore_20 : decode cX3_foundMore 20 = .ok (.iadd, 1) := by decide +kernel
theorem dX3_foundMore_21 : decode cX3_foundMore 21 = .ok (.iaload, 1) := by decide +kernel
theorem dX3_foundMore_22 : decode cX3_foundMore 22 = .ok (.ireturn, 1) := by decide +kernel
theorem dX3_foundOut_0 : decode cX3_foundOut 0 = .ok (.iload_n 1, 1) := by decide +kernel
theorem dX3_foundOut_1 : decode cX3_foundOut 1 = .ok (.iconst (-1), 1) := by decide +kernel
theorem dX3_foundOut_2 : decode cX3_foundOut 2 = .ok (.if_icmp .lt 8, 3) := by decide +kernel
theorem dX3_foundOut_5 : decode cX3_foundOut 5 = .ok (.iload_n 1, 1) := by decide +kernel
theorem dX3_foundOut_6 : decode cX3_foundOut 6 = .ok (.iconst 2, 1) := by decide +kernel
theorem dX3_foundOut_7 : decode cX3_foundOut 7 = .ok (.if_icmp .lt 7, 3) := by decide +kernel
theorem dX3_foundOut_10 : decode cX3_foundOut 10 = .ok (.iconst (-1), 1) := by decide +kernel
theorem dX3_foundOut_11 : decode cX3_foundOut 11 = .ok (.goto 11, 3) := by decide +kernel
theorem dX3_foundOut_14 : decode cX3_foundOut 14 = .ok (.aload_n 0, 1) := by decide +kernel
theorem dX3_foundOut_15 : decode cX3_foundOut 15 = .ok (.getfield 19, 3) := by decide +kernel
theorem dX3_foundOut_18 : decode cX3_foundOut 18 = .ok (.iconst 1, 1) := by decide +kernel
theorem dX3_foundOut_19 : decode cX3_foundOut 19 = .ok (.iload_n 1, 1) := by decide +kernel
theorem dX3_foundOut_20 : decode cX3_foundOut 20 = .ok (.iadd, 1) := by decide +kernel
theorem dX3_foundOut_21 : decode cX3_foundOut 21 = .ok (.iaload, 1) := by decide +kernel
theorem dX3_foundOut_22 : decode cX3_foundOut 22 = .ok (.ireturn, 1) := by decide +kernel
theorem dX3_note_0 : decode cX3_note 0 = .ok (.aload_n 0, 1) := by decide +kernel
theorem dX3_note_1 : decode cX3_note 1 = .ok (.iconst 0, 1) := by decide +kernel
theorem dX3_note_2 : decode cX3_note 2 = .ok (.iload_n 1, 1) := by decide +kernel
theorem dX3_note_3 : decode cX3_note 3 = .ok (.iastore, 1) := by decide +kernel
theorem dX3_note_4 : decode cX3_note 4 = .ok (.aload_n 0, 1) := by decide +kernel
theorem dX3_note_5 : decode cX3_note 5 = .ok (.iconst 1, 1) := by decide +kernel
theorem dX3_note_6 : decode cX3_note 6 = .ok (.iload_n 2, 1) := by decide +kernel
theorem dX3_note_7 : decode cX3_note 7 = .ok (.iastore, 1) := by decide +kernel
theorem dX3_note_8 : decode cX3_note 8 = .ok (.aload_n 0, 1) := by decide +kernel
theorem dX3_note_9 : decode cX3_note 9 = .ok (.iconst 2, 1) := by decide +kernel
theorem dX3_note_10 : decode cX3_note 10 = .ok (.iload_n 3, 1) := by decide +kernel
theorem dX3_note_11 : decode cX3_note 11 = .ok (.iastore, 1) := by decide +kernel
theorem dX3_note_12 : decode cX3_note 12 = .ok (.return_, 1) := by decide +kernel
theorem dX3_findMore_0 : decode cX3_findMore 0 = .ok (.aload_n 0, 1) := by decide +kernel
theorem dX3_findMore_1 : decode cX3_findMore 1 = .ok (.getfield 9, 3) := by decide +kernel
theorem dX3_findMore_4 : decode cX3_findMore 4 = .ok (.ifCond .eq 4, 3) := by decide +kernel
theorem dX3_findMore_7 : decode cX3_findMore 7 = .ok (.return_, 1) := by decide +kernel
theorem dX3_findMore_8 : decode cX3_findMore 8 = .ok (.aload_n 0, 1) := by decide +kernel
theorem dX3_findMore_9 : decode cX3_findMore 9 = .ok (.iconst 1, 1) := by decide +kernel
theorem dX3_findMore_10 : decode cX3_findMore 10 = .ok (.putfield 9, 3) := by decide +kernel
theorem dX3_findMore_13 : decode cX3_findMore 13 = .ok (.aload_n 0, 1) := by decide +kernel
theorem dX3_findMore_14 : decode cX3_findMore 14 = .ok (.getfield 15, 3) := by decide +kernel
theorem dX3_findMore_17 : decode cX3_findMore 17 = .ok (.iconst (-1), 1) := by decide +kernel
theorem dX3_findMore_18 : decode cX3_findMore 18 = .ok (.iconst (-1), 1) := by decide +kernel
theorem dX3_findMore_19 : decode cX3_findMore 19 = .ok (.iconst (-1), 1) := by decide +kernel
theorem dX3_findMore_20 : decode cX3_findMore 20 = .ok (.invokestatic 38, 3) := by decide +kernel
theorem dX3_findMore_23 : decode cX3_findMore 23 = .ok (.aload_n 0, 1) := by decide +kernel
theorem dX3_findMore_24 : decode cX3_findMore 24 = .ok (.getfield 34, 3) := by decide +kernel
theorem dX3_findMore_27 : decode cX3_findMore 27 = .ok (.aload_n 0, 1) := by decide +kernel
theorem dX3_findMore_28 : decode cX3_findMore 28 = .ok (.getfield 30, 3) := by decide +kernel
theorem dX3_findMore_31 : decode cX3_findMore 31 = .ok (.invokevirtual 42, 3) := by decide +kernel
theorem dX3_findMore_34 : decode cX3_findMore 34 = .ok (.invokevirtual 48, 3) := by decide +kernel
theorem dX3_findMore_37 : decode cX3_findMore 37 = .ok (.aload_n 0, 1) := by decide +kernel
theorem dX3_findMore_38 : decode cX3_findMore 38 = .ok (.getfield 34, 3) := by decide +kernel
theorem dX3_findMore_41 : decode cX3_findMore 41 = .ok (.iconst (-1), 1) := by decide +kernel
theorem dX3_findMore_42 : decode cX3_findMore 42 = .ok (.iconst (-1), 1) := by decide +kernel
theorem dX3_findMore_43 : decode cX3_findMore 43 = .ok (.invokevirtual 54, 3) := by decide +kernel
theorem dX3_findMore_46 : decode cX3_findMore 46 = .ok (.aload_n 0, 1) := by decide +kernel
theorem dX3_findMore_47 : decode cX3_findMore 47 = .ok (.getfield 34, 3) := by decide +kernel
theorem dX3_findMore_50 : decode cX3_findMore 50 = .ok (.invokevirtual 58, 3) := by decide +kernel
theorem dX3_findMore_53 : decode cX3_findMore 53 = .ok (.ifCond .eq 14, 3) := by decide +kernel
theorem dX3_findMore_56 : decode cX3_findMore 56 = .ok (.aload_n 0, 1) := by decide +kernel
theorem dX3_findMore_57 : decode cX3_findMore 57 = .ok (.getfield 15, 3) := by decide +kernel
theorem dX3_findMore_60 : decode cX3_findMore 60 = .ok (.iconst 0, 1) := by decide +kernel
theorem dX3_findMore_61 : decode cX3_findMore 61 = .ok (.iconst (-1), 1) := by decide +kernel
theorem dX3_findMore_62 : decode cX3_findMore 62 = .ok (.iconst (-1), 1) := by decide +kernel
theorem dX3_findMore_63 : decode cX3_findMore 63 = .ok (.invokestatic 38, 3) := by decide +kernel
theorem dX3_findMore_66 : decode cX3_findMore 66 = .ok (.return_, 1) := by decide +kernel
theorem dX3_findMore_67 : decode cX3_findMore 67 = .ok (.aload_n 0, 1) := by decide +kernel
theorem dX3_findMore_68 : decode cX3_findMore 68 = .ok (.getfield 34, 3) := by decide +kernel
theorem dX3_findMore_71 : decode cX3_findMore 71 = .ok (.getfield 62, 3) := by decide +kernel
theorem dX3_findMore_74 : decode cX3_findMore 74 = .ok (.istore_n 1, 1) := by decide +kernel
theorem dX3_findMore_75 : decode cX3_findMore 75 = .ok (.iconst 0, 1) := by decide +kernel
theorem dX3_findMore_76 : decode cX3_findMore 76 = .ok (.istore_n 2, 1) := by decide +kernel
theorem dX3_findMore_77 : decode cX3_findMore 77 = .ok (.iload_n 2, 1) := by decide +kernel
theorem dX3_findMore_78 : decode cX3_findMore 78 = .ok (.bipush 10, 2) := by decide +kernel
theorem dX3_findMore_80 : decode cX3_findMore 80 = .ok (.if_icmp .ge 46, 3) := by decide +kernel
theorem dX3_findMore_83 : decode cX3_findMore 83 = .ok (.aload_n 0, 1) := by decide +kernel
theorem dX3_findMore_84 : decode cX3_findMore 84 = .ok (.getfield 34, 3) := by decide +kernel
theorem dX3_findMore_87 : decode cX3_findMore 87 = .ok (.iload_n 1, 1) := by decide +kernel
theorem dX3_findMore_88 : decode cX3_findMore 88 = .ok (.putfield 62, 3) := by decide +kernel
theorem dX3_findMore_91 : decode cX3_findMore 91 = .ok (.aload_n 0, 1) := by decide +kernel
theorem dX3_findMore_92 : decode cX3_findMore 92 = .ok (.getfield 34, 3) := by decide +kernel
theorem dX3_findMore_95 : decode cX3_findMore 95 = .ok (.iload_n 2, 1) := by decide +kernel
theorem dX3_findMore_96 : decode cX3_findMore 96 = .ok (.invokevirtual 65, 3) := by decide +kernel
theorem dX3_findMore_99 : decode cX3_findMore 99 = .ok (.aload_n 0, 1) := by decide +kernel
theorem dX3_findMore_100 : decode cX3_findMore 100 = .ok (.getfield 34, 3) := by decide +kernel
theorem dX3_findMore_103 : decode cX3_findMore 103 = .ok (.invokevirtual 58, 3) := by decide +kernel
theorem dX3_findMore_106 : decode cX3_findMore 106 = .ok (.ifCond .eq 14, 3) := by decide +kernel
theorem dX3_findMore_109 : decode cX3_findMore 109 = .ok (.aload_n 0, 1) := by decide +kernel
theorem dX3_findMore_110 : decode cX3_findMore 110 = .ok (.getfield 15, 3) := by decide +kernel
theorem dX3_findMore_113 : decode cX3_findMore 113 = .ok (.iconst 1, 1) := by decide +kernel
theorem dX3_findMore_114 : decode cX3_findMore 114 = .ok (.iload_n 2, 1) := by decide +kernel
theorem dX3_findMore_115 : decode cX3_findMore 115 = .ok (.iconst (-1), 1) := by decide +kernel
theorem dX3_findMore_116 : decode cX3_findMore 116 = .ok (.invokestatic 38, 3) := by decide +kernel
theorem dX3_findMore_119 : decode cX3_findMore 119 = .ok (.return_, 1) := by decide +kernel
theorem dX3_findMore_120 : decode cX3_findMore 120 = .ok (.iinc 2 1, 3) := by decide +kernel
theorem dX3_findMore_123 : decode cX3_findMore 123 = .ok (.goto (-46), 3) := by decide +kernel
theorem dX3_findMore_126 : decode cX3_findMore 126 = .ok (.aload_n 0, 1) := by decide +kernel
theorem dX3_findMore_127 : decode cX3_findMore 127 = .ok (.iload_n 1, 1) := by decide +kernel
theorem dX3_findMore_128 : decode cX3_findMore 128 = .ok (.invokevirtual 68, 3) := by decide +kernel
theorem dX3_findMore_131 : decode cX3_findMore 131 = .ok (.return_, 1) := by decide +kernel
theorem dX3_findTwoMore_0 : decode cX3_findTwoMore 0 = .ok (.iconst 0, 1) := by decide +kernel
theorem dX3_findTwoMore_1 : decode cX3_findTwoMore 1 = .ok (.istore_n 2, 1) := by decide +kernel
theorem dX3_findTwoMore_2 : decode cX3_findTwoMore 2 = .ok (.iload_n 2, 1) := by decide +kernel
theorem dX3_findTwoMore_3 : decode cX3_findTwoMore 3 = .ok (.bipush 10, 2) := by decide +kernel
theorem dX3_findTwoMore_5 : decode cX3_findTwoMore 5 = .ok (.if_icmp .ge 88, 3) := by decide +kernel
theorem dX3_findTwoMore_8 : decode cX3_findTwoMore 8 = .ok (.aload_n 0, 1) := by decide +kernel
theorem dX3_findTwoMore_9 : decode cX3_findTwoMore 9 = .ok (.getfield 34, 3) := by decide +kernel
theorem dX3_findTwoMore_12 : decode cX3_findTwoMore 12 = .ok (.iload_n 1, 1) := by decide +kernel
theorem dX3_findTwoMore_13 : decode cX3_findTwoMore 13 = .ok (.putfield 62, 3) := by decide +kernel
theorem dX3_findTwoMore_16 : decode cX3_findTwoMore 16 = .ok (.aload_n 0, 1) := by decide +kernel
theorem dX3_findTwoMore_17 : decode cX3_findTwoMore 17 = .ok (.getfield 34, 3) := by decide +kernel
theorem dX3_findTwoMore_20 : decode cX3_findTwoMore 20 = .ok (.iload_n 2, 1) := by decide +kernel
theorem dX3_findTwoMore_21 : decode cX3_findTwoMore 21 = .ok (.invokevirtual 65, 3) := by decide +kernel
theorem dX3_findTwoMore_24 : decode cX3_findTwoMore 24 = .ok (.aload_n 0, 1) := by decide +kernel
theorem dX3_findTwoMore_25 : decode cX3_findTwoMore 25 = .ok (.getfield 34, 3) := by decide +kernel
theorem dX3_findTwoMore_28 : decode cX3_findTwoMore 28 = .ok (.getfield 62, 3) := by decide +kernel
theorem dX3_findTwoMore_31 : decode cX3_findTwoMore 31 = .ok (.istore_n 3, 1) := by decide +kernel
theorem dX3_findTwoMore_32 : decode cX3_findTwoMore 32 = .ok (.iconst 0, 1) := by decide +kernel
theorem dX3_findTwoMore_33 : decode cX3_findTwoMore 33 = .ok (.istore 4, 2) := by decide +kernel
theorem dX3_findTwoMore_35 : decode cX3_findTwoMore 35 = .ok (.iload 4, 2) := by decide +kernel
theorem dX3_findTwoMore_37 : decode cX3_findTwoMore 37 = .ok (.bipush 10, 2) := by decide +kernel
theorem dX3_findTwoMore_39 : decode cX3_findTwoMore 39 = .ok (.if_icmp .ge 48, 3) := by decide +kernel
theorem dX3_findTwoMore_42 : decode cX3_findTwoMore 42 = .ok (.aload_n 0, 1) := by decide +kernel
theorem dX3_findTwoMore_43 : decode cX3_findTwoMore 43 = .ok (.getfield 34, 3) := by decide +kernel
theorem dX3_findTwoMore_46 : decode cX3_findTwoMore 46 = .ok (.iload_n 3, 1) := by decide +kernel
theorem dX3_findTwoMore_47 : decode cX3_findTwoMore 47 = .ok (.putfield 62, 3) := by decide +kernel
theorem dX3_findTwoMore_50 : decode cX3_findTwoMore 50 = .ok (.aload_n 0, 1) := by decide +kernel
theorem dX3_findTwoMore_51 : decode cX3_findTwoMore 51 = .ok (.getfield 34, 3) := by decide +kernel
theorem dX3_findTwoMore_54 : decode cX3_findTwoMore 54 = .ok (.iload 4, 2) := by decide +kernel
theorem dX3_findTwoMore_56 : decode cX3_findTwoMore 56 = .ok (.invokevirtual 65, 3) := by decide +kernel
theorem dX3_findTwoMore_59 : decode cX3_findTwoMore 59 = .ok (.aload_n 0, 1) := by decide +kernel
theorem dX3_findTwoMore_60 : decode cX3_findTwoMore 60 = .ok (.getfield 34, 3) := by decide +kernel
theorem dX3_findTwoMore_63 : decode cX3_findTwoMore 63 = .ok (.invokevirtual 58, 3) := by decide +kernel
theorem dX3_findTwoMore_66 : decode cX3_findTwoMore 66 = .ok (.ifCond .eq 15, 3) := by decide +kernel
theorem dX3_findTwoMore_69 : decode cX3_findTwoMore 69 = .ok (.aload_n 0, 1) := by decide +kernel
theorem dX3_findTwoMore_70 : decode cX3_findTwoMore 70 = .ok (.getfield 15, 3) := by decide +kernel
theorem dX3_findTwoMore_73 : decode cX3_findTwoMore 73 = .ok (.iconst 2, 1) := by decide +kernel
theorem dX3_findTwoMore_74 : decode cX3_findTwoMore 74 = .ok (.iload_n 2, 1) := by decide +kernel
theorem dX3_findTwoMore_75 : decode cX3_findTwoMore 75 = .ok (.iload 4, 2) := by decide +kernel
theorem dX3_findTwoMore_77 : decode cX3_findTwoMore 77 = .ok (.invokestatic 38, 3) := by decide +kernel
theorem dX3_findTwoMore_80 : decode cX3_findTwoMore 80 = .ok (.return_, 1) := by decide +kernel
theorem dX3_findTwoMore_81 : decode cX3_findTwoMore 81 = .ok (.iinc 4 1, 3) := by decide +kernel
theorem dX3_findTwoMore_84 : decode cX3_findTwoMore 84 = .ok (.goto (-49), 3) := by decide +kernel
theorem dX3_findTwoMore_87 : decode cX3_findTwoMore 87 = .ok (.iinc 2 1, 3) := by decide +kernel
theorem dX3_findTwoMore_90 : decode cX3_findTwoMore 90 = .ok (.goto (-88), 3) := by decide +kernel
theorem dX3_findTwoMore_93 : decode cX3_findTwoMore 93 = .ok (.return_, 1) := by decide +kernel
theorem dX3_findOut_0 : decode cX3_findOut 0 = .ok (.aload_n 0, 1) := by decide +kernel
theorem dX3_findOut_1 : decode cX3_findOut 1 = .ok (.getfield 19, 3) := by decide +kernel
theorem dX3_findOut_4 : decode cX3_findOut 4 = .ok (.iconst (-1), 1) := by decide +kernel
theorem dX3_findOut_5 : decode cX3_findOut 5 = .ok (.iconst (-1), 1) := by decide +kernel
theorem dX3_findOut_6 : decode cX3_findOut 6 = .ok (.iconst (-1), 1) := by decide +kernel
theorem dX3_findOut_7 : decode cX3_findOut 7 = .ok (.invokestatic 38, 3) := by decide +kernel
theorem dX3_findOut_10 : decode cX3_findOut 10 = .ok (.bipush 8, 2) := by decide +kernel
theorem dX3_findOut_12 : decode cX3_findOut 12 = .ok (.iload_n 1, 1) := by decide +kernel
theorem dX3_findOut_13 : decode cX3_findOut 13 = .ok (.imul, 1) := by decide +kernel
theorem dX3_findOut_14 : decode cX3_findOut 14 = .ok (.iload_n 2, 1) := by decide +kernel
theorem dX3_findOut_15 : decode cX3_findOut 15 = .ok (.iadd, 1) := by decide +kernel
theorem dX3_findOut_16 : decode cX3_findOut 16 = .ok (.istore_n 3, 1) := by decide +kernel
theorem dX3_findOut_17 : decode cX3_findOut 17 = .ok (.aload_n 0, 1) := by decide +kernel
theorem dX3_findOut_18 : decode cX3_findOut 18 = .ok (.iconst 0, 1) := by decide +kernel
theorem dX3_findOut_19 : decode cX3_findOut 19 = .ok (.iload_n 3, 1) := by decide +kernel
theorem dX3_findOut_20 : decode cX3_findOut 20 = .ok (.iconst (-1), 1) := by decide +kernel
theorem dX3_findOut_21 : decode cX3_findOut 21 = .ok (.iconst (-1), 1) := by decide +kernel
theorem dX3_findOut_22 : decode cX3_findOut 22 = .ok (.invokevirtual 71, 3) := by decide +kernel
theorem dX3_findOut_25 : decode cX3_findOut 25 = .ok (.ifCond .eq 14, 3) := by decide +kernel
theorem dX3_findOut_28 : decode cX3_findOut 28 = .ok (.aload_n 0, 1) := by decide +kernel
theorem dX3_findOut_29 : decode cX3_findOut 29 = .ok (.getfield 19, 3) := by decide +kernel
theorem dX3_findOut_32 : decode cX3_findOut 32 = .ok (.iconst 0, 1) := by decide +kernel
theorem dX3_findOut_33 : decode cX3_findOut 33 = .ok (.iconst (-1), 1) := by decide +kernel
theorem dX3_findOut_34 : decode cX3_findOut 34 = .ok (.iconst (-1), 1) := by decide +kernel
theorem dX3_findOut_35 : decode cX3_findOut 35 = .ok (.invokestatic 38, 3) := by decide +kernel
theorem dX3_findOut_38 : decode cX3_findOut 38 = .ok (.return_, 1) := by decide +kernel
theorem dX3_findOut_39 : decode cX3_findOut 39 = .ok (.iconst 1, 1) := by decide +kernel
theorem dX3_findOut_40 : decode cX3_findOut 40 = .ok (.istore 4, 2) := by decide +kernel
theorem dX3_findOut_42 : decode cX3_findOut 42 = .ok (.iconst 0, 1) := by decide +kernel
theorem dX3_findOut_43 : decode cX3_findOut 43 = .ok (.istore 5, 2) := by decide +kernel
theorem dX3_findOut_45 : decode cX3_findOut 45 = .ok (.iload 5, 2) := by decide +kernel
theorem dX3_findOut_47 : decode cX3_findOut 47 = .ok (.aload_n 0, 1) := by decide +kernel
theorem dX3_findOut_48 : decode cX3_findOut 48 = .ok (.getfield 30, 3) := by decide +kernel
theorem dX3_findOut_51 : decode cX3_findOut 51 = .ok (.getfield 75, 3) := by decide +kernel
theorem dX3_findOut_54 : decode cX3_findOut 54 = .ok (.if_icmp .ge 37, 3) := by decide +kernel
theorem dX3_findOut_57 : decode cX3_findOut 57 = .ok (.aload_n 0, 1) := by decide +kernel
theorem dX3_findOut_58 : decode cX3_findOut 58 = .ok (.iload 4, 2) := by decide +kernel
theorem dX3_findOut_60 : decode cX3_findOut 60 = .ok (.iload_n 3, 1) := by decide +kernel
theorem dX3_findOut_61 : decode cX3_findOut 61 = .ok (.iload 5, 2) := by decide +kernel
theorem dX3_findOut_63 : decode cX3_findOut 63 = .ok (.iconst (-1), 1) := by decide +kernel
theorem dX3_findOut_64 : decode cX3_findOut 64 = .ok (.invokevirtual 71, 3) := by decide +kernel
theorem dX3_findOut_67 : decode cX3_findOut 67 = .ok (.ifCond .eq 15, 3) := by decide +kernel
theorem dX3_findOut_70 : decode cX3_findOut 70 = .ok (.aload_n 0, 1) := by decide +kernel
theorem dX3_findOut_71 : decode cX3_findOut 71 = .ok (.getfield 19, 3) := by decide +kernel
theorem dX3_findOut_74 : decode cX3_findOut 74 = .ok (.iconst 1, 1) := by decide +kernel
theorem dX3_findOut_75 : decode cX3_findOut 75 = .ok (.iload 5, 2) := by decide +kernel
theorem dX3_findOut_77 : decode cX3_findOut 77 = .ok (.iconst (-1), 1) := by decide +kernel
theorem dX3_findOut_78 : decode cX3_findOut 78 = .ok (.invokestatic 38, 3) := by decide +kernel
theorem dX3_findOut_81 : decode cX3_findOut 81 = .ok (.return_, 1) := by decide +kernel
theorem dX3_findOut_82 : decode cX3_findOut 82 = .ok (.iinc 4 1, 3) := by decide +kernel
theorem dX3_findOut_85 : decode cX3_findOut 85 = .ok (.iinc 5 1, 3) := by decide +kernel
theorem dX3_findOut_88 : decode cX3_findOut 88 = .ok (.goto (-43), 3) := by decide +kernel
theorem dX3_findOut_91 : decode cX3_findOut 91 = .ok (.iconst 0, 1) := by decide +kernel
theorem dX3_findOut_92 : decode cX3_findOut 92 = .ok (.istore 5, 2) := by decide +kernel
theorem dX3_findOut_94 : decode cX3_findOut 94 = .ok (.iload 5, 2) := by decide +kernel
theorem dX3_findOut_96 : decode cX3_findOut 96 = .ok (.aload_n 0, 1) := by decide +kernel
theorem dX3_findOut_97 : decode cX3_findOut 97 = .ok (.getfield 30, 3) := by decide +kernel
theorem dX3_findOut_100 : decode cX3_findOut 100 = .ok (.getfield 75, 3) := by decide +kernel
theorem dX3_findOut_103 : decode cX3_findOut 103 = .ok (.if_icmp .ge 63, 3) := by decide +kernel
theorem dX3_findOut_106 : decode cX3_findOut 106 = .ok (.iload 5, 2) := by decide +kernel
theorem dX3_findOut_108 : decode cX3_findOut 108 = .ok (.iconst 1, 1) := by decide +kernel
theorem dX3_findOut_109 : decode cX3_findOut 109 = .ok (.iadd, 1) := by decide +kernel
theorem dX3_findOut_110 : decode cX3_findOut 110 = .ok (.istore 6, 2) := by decide +kernel
theorem dX3_findOut_112 : decode cX3_findOut 112 = .ok (.iload 6, 2) := by decide +kernel
theorem dX3_findOut_114 : decode cX3_findOut 114 = .ok (.aload_n 0, 1) := by decide +kernel
theorem dX3_findOut_115 : decode cX3_findOut 115 = .ok (.getfield 30, 3) := by decide +kernel
theorem dX3_findOut_118 : decode cX3_findOut 118 = .ok (.getfield 75, 3) := by decide +kernel
theorem dX3_findOut_121 : decode cX3_findOut 121 = .ok (.if_icmp .ge 39, 3) := by decide +kernel
theorem dX3_findOut_124 : decode cX3_findOut 124 = .ok (.aload_n 0, 1) := by decide +kernel
theorem dX3_findOut_125 : decode cX3_findOut 125 = .ok (.iload 4, 2) := by decide +kernel
theorem dX3_findOut_127 : decode cX3_findOut 127 = .ok (.iload_n 3, 1) := by decide +kernel
theorem dX3_findOut_128 : decode cX3_findOut 128 = .ok (.iload 5, 2) := by decide +kernel
theorem dX3_findOut_130 : decode cX3_findOut 130 = .ok (.iload 6, 2) := by decide +kernel
theorem dX3_findOut_132 : decode cX3_findOut 132 = .ok (.invokevirtual 71, 3) := by decide +kernel
theorem dX3_findOut_135 : decode cX3_findOut 135 = .ok (.ifCond .eq 16, 3) := by decide +kernel
theorem dX3_findOut_138 : decode cX3_findOut 138 = .ok (.aload_n 0, 1) := by decide +kernel
theorem dX3_findOut_139 : decode cX3_findOut 139 = .ok (.getfield 19, 3) := by decide +kernel
theorem dX3_findOut_142 : decode cX3_findOut 142 = .ok (.iconst 2, 1) := by decide +kernel
theorem dX3_findOut_143 : decode cX3_findOut 143 = .ok (.iload 5, 2) := by decide +kernel
theorem dX3_findOut_145 : decode cX3_findOut 145 = .ok (.iload 6, 2) := by decide +kernel
theorem dX3_findOut_147 : decode cX3_findOut 147 = .ok (.invokestatic 38, 3) := by decide +kernel
theorem dX3_findOut_150 : decode cX3_findOut 150 = .ok (.return_, 1) := by decide +kernel
theorem dX3_findOut_151 : decode cX3_findOut 151 = .ok (.iinc 4 1, 3) := by decide +kernel
theorem dX3_findOut_154 : decode cX3_findOut 154 = .ok (.iinc 6 1, 3) := by decide +kernel
theorem dX3_findOut_157 : decode cX3_findOut 157 = .ok (.goto (-45), 3) := by decide +kernel
theorem dX3_findOut_160 : decode cX3_findOut 160 = .ok (.iinc 5 1, 3) := by decide +kernel
theorem dX3_findOut_163 : decode cX3_findOut 163 = .ok (.goto (-69), 3) := by decide +kernel
theorem dX3_findOut_166 : decode cX3_findOut 166 = .ok (.return_, 1) := by decide +kernel
theorem dX3_silent_0 : decode cX3_silent 0 = .ok (.iload_n 1, 1) := by decide +kernel
theorem dX3_silent_1 : decode cX3_silent 1 = .ok (.ifCond .lt 10, 3) := by decide +kernel
theorem dX3_silent_4 : decode cX3_silent 4 = .ok (.iload_n 1, 1) := by decide +kernel
theorem dX3_silent_5 : decode cX3_silent 5 = .ok (.sipush 211, 3) := by decide +kernel
theorem dX3_silent_8 : decode cX3_silent 8 = .ok (.if_icmp .lt 5, 3) := by decide +kernel
theorem dX3_silent_11 : decode cX3_silent 11 = .ok (.iconst 0, 1) := by decide +kernel
theorem dX3_silent_12 : decode cX3_silent 12 = .ok (.ireturn, 1) := by decide +kernel
theorem dX3_silent_13 : decode cX3_silent 13 = .ok (.iload_n 1, 1) := by decide +kernel
theorem dX3_silent_14 : decode cX3_silent 14 = .ok (.aload_n 0, 1) := by decide +kernel
theorem dX3_silent_15 : decode cX3_silent 15 = .ok (.getfield 26, 3) := by decide +kernel
theorem dX3_silent_18 : decode cX3_silent 18 = .ok (.if_icmp .lt 47, 3) := by decide +kernel
theorem dX3_silent_21 : decode cX3_silent 21 = .ok (.aload_n 0, 1) := by decide +kernel
theorem dX3_silent_22 : decode cX3_silent 22 = .ok (.getfield 34, 3) := by decide +kernel
theorem dX3_silent_25 : decode cX3_silent 25 = .ok (.aload_n 0, 1) := by decide +kernel
theorem dX3_silent_26 : decode cX3_silent 26 = .ok (.getfield 30, 3) := by decide +kernel
theorem dX3_silent_29 : decode cX3_silent 29 = .ok (.invokevirtual 42, 3) := by decide +kernel
theorem dX3_silent_32 : decode cX3_silent 32 = .ok (.invokevirtual 48, 3) := by decide +kernel
theorem dX3_silent_35 : decode cX3_silent 35 = .ok (.aload_n 0, 1) := by decide +kernel
theorem dX3_silent_36 : decode cX3_silent 36 = .ok (.getfield 34, 3) := by decide +kernel
theorem dX3_silent_39 : decode cX3_silent 39 = .ok (.iload_n 3, 1) := by decide +kernel
theorem dX3_silent_40 : decode cX3_silent 40 = .ok (.iload 4, 2) := by decide +kernel
theorem dX3_silent_42 : decode cX3_silent 42 = .ok (.invokevirtual 54, 3) := by decide +kernel
theorem dX3_silent_45 : decode cX3_silent 45 = .ok (.aload_n 0, 1) := by decide +kernel
theorem dX3_silent_46 : decode cX3_silent 46 = .ok (.getfield 22, 3) := by decide +kernel
theorem dX3_silent_49 : decode cX3_silent 49 = .ok (.iload_n 1, 1) := by decide +kernel
theorem dX3_silent_50 : decode cX3_silent 50 = .ok (.aload_n 0, 1) := by decide +kernel
theorem dX3_silent_51 : decode cX3_silent 51 = .ok (.getfield 34, 3) := by decide +kernel
theorem dX3_silent_54 : decode cX3_silent 54 = .ok (.invokevirtual 78, 3) := by decide +kernel
theorem dX3_silent_57 : decode cX3_silent 57 = .ok (.lastore, 1) := by decide +kernel
theorem dX3_silent_58 : decode cX3_silent 58 = .ok (.aload_n 0, 1) := by decide +kernel
theorem dX3_silent_59 : decode cX3_silent 59 = .ok (.iload_n 1, 1) := by decide +kernel
theorem dX3_silent_60 : decode cX3_silent 60 = .ok (.iconst 1, 1) := by decide +kernel
theorem dX3_silent_61 : decode cX3_silent 61 = .ok (.iadd, 1) := by decide +kernel
theorem dX3_silent_62 : decode cX3_silent 62 = .ok (.putfield 26, 3) := by decide +kernel
theorem dX3_silent_65 : decode cX3_silent 65 = .ok (.aload_n 0, 1) := by decide +kernel
theorem dX3_silent_66 : decode cX3_silent 66 = .ok (.getfield 22, 3) := by decide +kernel
theorem dX3_silent_69 : decode cX3_silent 69 = .ok (.iload_n 1, 1) := by decide +kernel
theorem dX3_silent_70 : decode cX3_silent 70 = .ok (.laload, 1) := by decide +kernel
theorem dX3_silent_71 : decode cX3_silent 71 = .ok (.iload_n 2, 1) := by decide +kernel
theorem dX3_silent_72 : decode cX3_silent 72 = .ok (.lushr, 1) := by decide +kernel
theorem dX3_silent_73 : decode cX3_silent 73 = .ok (.lconst 1, 1) := by decide +kernel
theorem dX3_silent_74 : decode cX3_silent 74 = .ok (.land, 1) := by decide +kernel
theorem dX3_silent_75 : decode cX3_silent 75 = .ok (.lconst 0, 1) := by decide +kernel
theorem dX3_silent_76 : decode cX3_silent 76 = .ok (.lcmp, 1) := by decide +kernel
theorem dX3_silent_77 : decode cX3_silent 77 = .ok (.ifCond .ne 7, 3) := by decide +kernel
theorem dX3_silent_80 : decode cX3_silent 80 = .ok (.iconst 1, 1) := by decide +kernel
theorem dX3_silent_81 : decode cX3_silent 81 = .ok (.goto 4, 3) := by decide +kernel
theorem dX3_silent_84 : decode cX3_silent 84 = .ok (.iconst 0, 1) := by decide +kernel
theorem dX3_silent_85 : decode cX3_silent 85 = .ok (.ireturn, 1) := by decide +kernel
theorem dX4_init_0 : decode cX4_init 0 = .ok (.aload_n 0, 1) := by decide +kernel
theorem dX4_init_1 : decode cX4_init 1 = .ok (.invokespecial 3, 3) := by decide +kernel
theorem dX4_init_4 : decode cX4_init 4 = .ok (.aload_n 0, 1) := by decide +kernel
theorem dX4_init_5 : decode cX4_init 5 = .ok (.bipush 45, 2) := by decide +kernel
theorem dX4_init_7 : decode cX4_init 7 = .ok (.newarray .int, 2) := by decide +kernel
theorem dX4_init_9 : decode cX4_init 9 = .ok (.putfield 11, 3) := by decide +kernel
theorem dX4_init_12 : decode cX4_init 12 = .ok (.aload_n 0, 1) := by decide +kernel
theorem dX4_init_13 : decode cX4_init 13 = .ok (.bipush 45, 2) := by decide +kernel
theorem dX4_init_15 : decode cX4_init 15 = .ok (.newarray .int, 2) := by decide +kernel
theorem dX4_init_17 : decode cX4_init 17 = .ok (.putfield 15, 3) := by decide +kernel
theorem dX4_init_20 : decode cX4_init 20 = .ok (.aload_n 0, 1) := by decide +kernel
theorem dX4_init_21 : decode cX4_init 21 = .ok (.bipush 45, 2) := by decide +kernel
theorem dX4_init_23 : decode cX4_init 23 = .ok (.newarray .int, 2) := by decide +kernel
theorem dX4_init_25 : decode cX4_init 25 = .ok (.putfield 18, 3) := by decide +kernel
theorem dX4_init_28 : decode cX4_init 28 = .ok (.aload_n 0, 1) := by decide +kernel
theorem dX4_init_29 : decode cX4_init 29 = .ok (.bipush 45, 2) := by decide +kernel
theorem dX4_init_31 : decode cX4_init 31 = .ok (.newarray .int, 2) := by decide +kernel
theorem dX4_init_33 : decode cX4_init 33 = .ok (.putfield 21, 3) := by decide +kernel
theorem dX4_init_36 : decode cX4_init 36 = .ok (.aload_n 0, 1) := by decide +kernel
theorem dX4_init_37 : decode cX4_init 37 = .ok (.bipush 45, 2) := by decide +kernel
theorem dX4_init_39 : decode cX4_init 39 = .ok (.newarray .int, 2) := by decide +kernel
theorem dX4_init_41 : decode cX4_init 41 = .ok (.putfield 24, 3) := by decide +kernel
theorem dX4_init_44 : decode cX4_init 44 = .ok (.aload_n 0, 1) := by decide +kernel
theorem dX4_init_45 : decode cX4_init 45 = .ok (.bipush 45, 2) := by decide +kernel
theorem dX4_init_47 : decode cX4_init 47 = .ok (.newarray .int, 2) := by decide +kernel
theorem dX4_init_49 : decode cX4_init 49 = .ok (.putfield 27, 3) := by decide +kernel
theorem dX4_init_52 : decode cX4_init 52 = .ok (.aload_n 0, 1) := by decide +kernel
theorem dX4_init_53 : decode cX4_init 53 = .ok (.bipush 45, 2) := by decide +kernel
theorem dX4_init_55 : decode cX4_init 55 = .ok (.newarray .int, 2) := by decide +kernel
theorem dX4_init_57 : decode cX4_init 57 = .ok (.putfield 30, 3) := by decide +kernel
theorem dX4_init_60 : decode cX4_init 60 = .ok (.aload_n 0, 1) := by decide +kernel
theorem dX4_init_61 : decode cX4_init 61 = .ok (.bipush 45, 2) := by decide +kernel
theorem dX4_init_63 : decode cX4_init 63 = .ok (.newarray .int, 2) := by decide +kernel
theorem dX4_init_65 : decode cX4_init 65 = .ok (.putfield 33, 3) := by decide +kernel
theorem dX4_init_68 : decode cX4_init 68 = .ok (.aload_n 0, 1) := by decide +kernel
theorem dX4_init_69 : decode cX4_init 69 = .ok (.iconst 1, 1) := by decide +kernel
theorem dX4_init_70 : decode cX4_init 70 = .ok (.putfield 36, 3) := by decide +kernel
theorem dX4_init_73 : decode cX4_init 73 = .ok (.aload_n 0, 1) := by decide +kernel
theorem dX4_init_74 : decode cX4_init 74 = .ok (.iconst 0, 1) := by decide +kernel
theorem dX4_init_75 : decode cX4_init 75 = .ok (.putfield 40, 3) := by decide +kernel
theorem dX4_init_78 : decode cX4_init 78 = .ok (.aload_n 0, 1) := by decide +kernel
theorem dX4_init_79 : decode cX4_init 79 = .ok (.bipush 8, 2) := by decide +kernel
theorem dX4_init_81 : decode cX4_init 81 = .ok (.newarray .int, 2) := by decide +kernel
theorem dX4_init_83 : decode cX4_init 83 = .ok (.putfield 43, 3) := by decide +kernel
theorem dX4_init_86 : decode cX4_init 86 = .ok (.aload_n 0, 1) := by decide +kernel
theorem dX4_init_87 : decode cX4_init 87 = .ok (.aload_n 1, 1) := by decide +kernel
theorem dX4_init_88 : decode cX4_init 88 = .ok (.putfield 46, 3) := by decide +kernel
theorem dX4_init_91 : decode cX4_init 91 = .ok (.return_, 1) := by decide +kernel
theorem dX4_begin_0 : decode cX4_begin 0 = .ok (.aload_n 0, 1) := by decide +kernel
theorem dX4_begin_1 : decode cX4_begin 1 = .ok (.iconst 1, 1) := by decide +kernel
theorem dX4_begin_2 : decode cX4_begin 2 = .ok (.putfield 36, 3) := by decide +kernel
theorem dX4_begin_5 : decode cX4_begin 5 = .ok (.aload_n 0, 1) := by decide +kernel
theorem dX4_begin_6 : decode cX4_begin 6 = .ok (.getfield 30, 3) := by decide +kernel
theorem dX4_begin_9 : decode cX4_begin 9 = .ok (.iconst 0, 1) := by decide +kernel
theorem dX4_begin_10 : decode cX4_begin 10 = .ok (.aload_n 0, 1) := by decide +kernel
theorem dX4_begin_11 : decode cX4_begin 11 = .ok (.getfield 46, 3) := by decide +kernel
theorem dX4_begin_14 : decode cX4_begin 14 = .ok (.getfield 50, 3) := by decide +kernel
theorem dX4_begin_17 : decode cX4_begin 17 = .ok (.iastore, 1) := by decide +kernel
theorem dX4_begin_18 : decode cX4_begin 18 = .ok (.aload_n 0, 1) := by decide +kernel
theorem dX4_begin_19 : decode cX4_begin 19 = .ok (.iconst 0, 1) := by decide +kernel
theorem dX4_begin_20 : decode cX4_begin 20 = .ok (.putfield 40, 3) := by decide +kernel
theorem dX4_begin_23 : decode cX4_begin 23 = .ok (.iconst 0, 1) := by decide +kernel
theorem dX4_begin_24 : decode cX4_begin 24 = .ok (.istore_n 2, 1) := by decide +kernel
theorem dX4_begin_25 : decode cX4_begin 25 = .ok (.iload_n 2, 1) := by decide +kernel
theorem dX4_begin_26 : decode cX4_begin 26 = .ok (.aload_n 0, 1) := by decide +kernel
theorem dX4_begin_27 : decode cX4_begin 27 = .ok (.getfield 46, 3) := by decide +kernel
theorem dX4_begin_30 : decode cX4_begin 30 = .ok (.getfield 55, 3) := by decide +kernel
theorem dX4_begin_33 : decode cX4_begin 33 = .ok (.if_icmp .ge 31, 3) := by decide +kernel
theorem dX4_begin_36 : decode cX4_begin 36 = .ok (.iload_n 1, 1) := by decide +kernel
theorem dX4_begin_37 : decode cX4_begin 37 = .ok (.iload_n 2, 1) := by decide +kernel
theorem dX4_begin_38 : decode cX4_begin 38 = .ok (.invokestatic 58, 3) := by decide +kernel
theorem dX4_begin_41 : decode cX4_begin 41 = .ok (.ifCond .eq 17, 3) := by decide +kernel
theorem dX4_begin_44 : decode cX4_begin 44 = .ok (.aload_n 0, 1) := by decide +kernel
theorem dX4_begin_45 : decode cX4_begin 45 = .ok (.iload_n 2, 1) := by decide +kernel
theorem dX4_begin_46 : decode cX4_begin 46 = .ok (.aload_n 0, 1) := by decide +kernel
theorem dX4_begin_47 : decode cX4_begin 47 = .ok (.getfield 46, 3) := by decide +kernel
theorem dX4_begin_50 : decode cX4_begin 50 = .ok (.getfield 62, 3) := by decide +kernel
theorem dX4_begin_53 : decode cX4_begin 53 = .ok (.iload_n 2, 1) := by decide +kernel
theorem dX4_begin_54 : decode cX4_begin 54 = .ok (.iaload, 1) := by decide +kernel
theorem dX4_begin_55 : decode cX4_begin 55 = .ok (.invokevirtual 65, 3) := by decide +kernel
theorem dX4_begin_58 : decode cX4_begin 58 = .ok (.iinc 2 1, 3) := by decide +kernel
theorem dX4_begin_61 : decode cX4_begin 61 = .ok (.goto (-36), 3) := by decide +kernel
theorem dX4_begin_64 : decode cX4_begin 64 = .ok (.return_, 1) := by decide +kernel
theorem dX4_leavesAs_0 : decode cX4_leavesAs 0 = .ok (.iload_n 1, 1) := by decide +kernel
theorem dX4_leavesAs_1 : decode cX4_leavesAs 1 = .ok (.ifCond .lt 9, 3) := by decide +kernel
theorem dX4_leavesAs_4 : decode cX4_leavesAs 4 = .ok (.iload_n 1, 1) := by decide +kernel
theorem dX4_leavesAs_5 : decode cX4_leavesAs 5 = .ok (.bipush 8, 2) := by decide +kernel
theorem dX4_leavesAs_7 : decode cX4_leavesAs 7 = .ok (.if_icmp .lt 4, 3) := by decide +kernel
theorem dX4_leavesAs_10 : decode cX4_leavesAs 10 = .ok (.return_, 1) := by decide +kernel
theorem dX4_leavesAs_11 : decode cX4_leavesAs 11 = .ok (.aload_n 0, 1) := by decide +kernel
theorem dX4_leavesAs_12 : decode cX4_leavesAs 12 = .ok (.dup, 1) := by decide +kernel
theorem dX4_leavesAs_13 : decode cX4_leavesAs 13 = .ok (.getfield 40, 3) := by decide +kernel
theorem dX4_leavesAs_16 : decode cX4_leavesAs 16 = .ok (.iconst 1, 1) := by decide +kernel
theorem dX4_leavesAs_17 : decode cX4_leavesAs 17 = .ok (.iload_n 1, 1) := by decide +kernel
theorem dX4_leavesAs_18 : decode cX4_leavesAs 18 = .ok (.ishl, 1) := by decide +kernel
theorem dX4_leavesAs_19 : decode cX4_leavesAs 19 = .ok (.iconst (-1), 1) := by decide +kernel
theorem dX4_leavesAs_20 : decode cX4_leavesAs 20 = .ok (.ixor, 1) := by decide +kernel
theorem dX4_leavesAs_21 : decode cX4_leavesAs 21 = .ok (.iand, 1) := by decide +kernel
theorem dX4_leavesAs_22 : decode cX4_leavesAs 22 = .ok (.putfield 40, 3) := by decide +kernel
theorem dX4_leavesAs_25 : decode cX4_leavesAs 25 = .ok (.iload_n 2, 1) := by decide +kernel
theorem dX4_leavesAs_26 : decode cX4_leavesAs 26 = .ok (.ifCond .lt 43, 3) := by decide +kernel
theorem dX4_leavesAs_29 : decode cX4_leavesAs 29 = .ok (.iload_n 2, 1) := by decide +kernel
theorem dX4_leavesAs_30 : decode cX4_leavesAs 30 = .ok (.aload_n 0, 1) := by decide +kernel
theorem dX4_leavesAs_31 : decode cX4_leavesAs 31 = .ok (.getfield 46, 3) := by decide +kernel
theorem dX4_leavesAs_34 : decode cX4_leavesAs 34 = .ok (.getfield 69, 3) := by decide +kernel
theorem dX4_leavesAs_37 : decode cX4_leavesAs 37 = .ok (.if_icmp .ge 32, 3) := by decide +kernel
theorem dX4_leavesAs_40 : decode cX4_leavesAs 40 = .ok (.aload_n 0, 1) := by decide +kernel
theorem dX4_leavesAs_41 : decode cX4_leavesAs 41 = .ok (.dup, 1) := by decide +kernel
theorem dX4_leavesAs_42 : decode cX4_leavesAs 42 = .ok (.getfield 40, 3) := by decide +kernel
theorem dX4_leavesAs_45 : decode cX4_leavesAs 45 = .ok (.iconst 1, 1) := by decide +kernel
theorem dX4_leavesAs_46 : decode cX4_leavesAs 46 = .ok (.iload_n 1, 1) := by decide +kernel
theorem dX4_leavesAs_47 : decode cX4_leavesAs 47 = .ok (.ishl, 1) := by decide +kernel
theorem dX4_leavesAs_48 : decode cX4_leavesAs 48 = .ok (.ior, 1) := by decide +kernel
theorem dX4_leavesAs_49 : decode cX4_leavesAs 49 = .ok (.putfield 40, 3) := by decide +kernel
theorem dX4_leavesAs_52 : decode cX4_leavesAs 52 = .ok (.aload_n 0, 1) := by decide +kernel
theorem dX4_leavesAs_53 : decode cX4_leavesAs 53 = .ok (.getfield 43, 3) := by decide +kernel
theorem dX4_leavesAs_56 : decode cX4_leavesAs 56 = .ok (.iload_n 1, 1) := by decide +kernel
theorem dX4_leavesAs_57 : decode cX4_leavesAs 57 = .ok (.aload_n 0, 1) := by decide +kernel
theorem dX4_leavesAs_58 : decode cX4_leavesAs 58 = .ok (.getfield 46, 3) := by decide +kernel
theorem dX4_leavesAs_61 : decode cX4_leavesAs 61 = .ok (.getfield 71, 3) := by decide +kernel
theorem dX4_leavesAs_64 : decode cX4_leavesAs 64 = .ok (.iload_n 2, 1) := by decide +kernel
theorem dX4_leavesAs_65 : decode cX4_leavesAs 65 = .ok (.iaload, 1) := by decide +kernel
theorem dX4_leavesAs_66 : decode cX4_leavesAs 66 = .ok (.iconst 2, 1) := by decide +kernel
theorem dX4_leavesAs_67 : decode cX4_leavesAs 67 = .ok (.idiv, 1) := by decide +kernel
theorem dX4_leavesAs_68 : decode cX4_leavesAs 68 = .ok (.iastore, 1) := by decide +kernel
theorem dX4_leavesAs_69 : decode cX4_leavesAs 69 = .ok (.return_, 1) := by decide +kernel
theorem dX4_goToStops_0 : decode cX4_goToStops 0 = .ok (.iconst 0, 1) := by decide +kernel
theorem dX4_goToStops_1 : decode cX4_goToStops 1 = .ok (.istore_n 3, 1) := by decide +kernel
theorem dX4_goToStops_2 : decode cX4_goToStops 2 = .ok (.iload_n 3, 1) := by decide +kernel
theorem dX4_goToStops_3 : decode cX4_goToStops 3 = .ok (.aload_n 0, 1) := by decide +kernel
theorem dX4_goToStops_4 : decode cX4_goToStops 4 = .ok (.getfield 46, 3) := by decide +kernel
theorem dX4_goToStops_7 : decode cX4_goToStops 7 = .ok (.getfield 72, 3) := by decide +kernel
theorem dX4_goToStops_10 : decode cX4_goToStops 10 = .ok (.if_icmp .ge 32, 3) := by decide +kernel
theorem dX4_goToStops_13 : decode cX4_goToStops 13 = .ok (.iload_n 3, 1) := by decide +kernel
theorem dX4_goToStops_14 : decode cX4_goToStops 14 = .ok (.iload_n 1, 1) := by decide +kernel
theorem dX4_goToStops_15 : decode cX4_goToStops 15 = .ok (.if_icmp .eq 21, 3) := by decide +kernel
theorem dX4_goToStops_18 : decode cX4_goToStops 18 = .ok (.iload_n 3, 1) := by decide +kernel
theorem dX4_goToStops_19 : decode cX4_goToStops 19 = .ok (.iload_n 2, 1) := by decide +kernel
theorem dX4_goToStops_20 : decode cX4_goToStops 20 = .ok (.if_icmp .eq 16, 3) := by decide +kernel
theorem dX4_goToStops_23 : decode cX4_goToStops 23 = .ok (.aload_n 0, 1) := by decide +kernel
theorem dX4_goToStops_24 : decode cX4_goToStops 24 = .ok (.aload_n 0, 1) := by decide +kernel
theorem dX4_goToStops_25 : decode cX4_goToStops 25 = .ok (.getfield 46, 3) := by decide +kernel
theorem dX4_goToStops_28 : decode cX4_goToStops 28 = .ok (.getfield 75, 3) := by decide +kernel
theorem dX4_goToStops_31 : decode cX4_goToStops 31 = .ok (.iload_n 3, 1) := by decide +kernel
theorem dX4_goToStops_32 : decode cX4_goToStops 32 = .ok (.iaload, 1) := by decide +kernel
theorem dX4_goToStops_33 : decode cX4_goToStops 33 = .ok (.invokevirtual 78, 3) := by decide +kernel
theorem dX4_goToStops_36 : decode cX4_goToStops 36 = .ok (.iinc 3 1, 3) := by decide +kernel
theorem dX4_goToStops_39 : decode cX4_goToStops 39 = .ok (.goto (-37), 3) := by decide +kernel
theorem dX4_goToStops_42 : decode cX4_goToStops 42 = .ok (.return_, 1) := by decide +kernel
theorem dX4_goTo_0 : decode cX4_goTo 0 = .ok (.iload_n 1, 1) := by decide +kernel
theorem dX4_goTo_1 : decode cX4_goTo 1 = .ok (.ifCond .lt 20, 3) := by decide +kernel
theorem dX4_goTo_4 : decode cX4_goTo 4 = .ok (.iload_n 1, 1) := by decide +kernel
theorem dX4_goTo_5 : decode cX4_goTo 5 = .ok (.bipush 10, 2) := by decide +kernel
theorem dX4_goTo_7 : decode cX4_goTo 7 = .ok (.if_icmp .ge 14, 3) := by decide +kernel
theorem dX4_goTo_10 : decode cX4_goTo 10 = .ok (.aload_n 0, 1) := by decide +kernel
theorem dX4_goTo_11 : decode cX4_goTo 11 = .ok (.getfield 36, 3) := by decide +kernel
theorem dX4_goTo_14 : decode cX4_goTo 14 = .ok (.iconst 2, 1) := by decide +kernel
theorem dX4_goTo_15 : decode cX4_goTo 15 = .ok (.iadd, 1) := by decide +kernel
theorem dX4_goTo_16 : decode cX4_goTo 16 = .ok (.bipush 45, 2) := by decide +kernel
theorem dX4_goTo_18 : decode cX4_goTo 18 = .ok (.if_icmp .le 4, 3) := by decide +kernel
theorem dX4_goTo_21 : decode cX4_goTo 21 = .ok (.return_, 1) := by decide +kernel
theorem dX4_goTo_22 : decode cX4_goTo 22 = .ok (.aload_n 0, 1) := by decide +kernel
theorem dX4_goTo_23 : decode cX4_goTo 23 = .ok (.getfield 36, 3) := by decide +kernel
theorem dX4_goTo_26 : decode cX4_goTo 26 = .ok (.iconst 1, 1) := by decide +kernel
theorem dX4_goTo_27 : decode cX4_goTo 27 = .ok (.isub, 1) := by decide +kernel
theorem dX4_goTo_28 : decode cX4_goTo 28 = .ok (.istore_n 2, 1) := by decide +kernel
theorem dX4_goTo_29 : decode cX4_goTo 29 = .ok (.aload_n 0, 1) := by decide +kernel
theorem dX4_goTo_30 : decode cX4_goTo 30 = .ok (.getfield 15, 3) := by decide +kernel
theorem dX4_goTo_33 : decode cX4_goTo 33 = .ok (.iload_n 2, 1) := by decide +kernel
theorem dX4_goTo_34 : decode cX4_goTo 34 = .ok (.iaload, 1) := by decide +kernel
theorem dX4_goTo_35 : decode cX4_goTo 35 = .ok (.iconst 2, 1) := by decide +kernel
theorem dX4_goTo_36 : decode cX4_goTo 36 = .ok (.idiv, 1) := by decide +kernel
theorem dX4_goTo_37 : decode cX4_goTo 37 = .ok (.istore_n 3, 1) := by decide +kernel
theorem dX4_goTo_38 : decode cX4_goTo 38 = .ok (.aload_n 0, 1) := by decide +kernel
theorem dX4_goTo_39 : decode cX4_goTo 39 = .ok (.getfield 11, 3) := by decide +kernel
theorem dX4_goTo_42 : decode cX4_goTo 42 = .ok (.iload_n 2, 1) := by decide +kernel
theorem dX4_goTo_43 : decode cX4_goTo 43 = .ok (.iaload, 1) := by decide +kernel
theorem dX4_goTo_44 : decode cX4_goTo 44 = .ok (.iload_n 1, 1) := by decide +kernel
theorem dX4_goTo_45 : decode cX4_goTo 45 = .ok (.iload_n 3, 1) := by decide +kernel
theorem dX4_goTo_46 : decode cX4_goTo 46 = .ok (.isub, 1) := by decide +kernel
theorem dX4_goTo_47 : decode cX4_goTo 47 = .ok (.invokestatic 82, 3) := by decide +kernel
theorem dX4_goTo_50 : decode cX4_goTo 50 = .ok (.iadd, 1) := by decide +kernel
theorem dX4_goTo_51 : decode cX4_goTo 51 = .ok (.istore 4, 2) := by decide +kernel
theorem dX4_goTo_53 : decode cX4_goTo 53 = .ok (.aload_n 0, 1) := by decide +kernel
theorem dX4_goTo_54 : decode cX4_goTo 54 = .ok (.iload 4, 2) := by decide +kernel
theorem dX4_goTo_56 : decode cX4_goTo 56 = .ok (.aload_n 0, 1) := by decide +kernel
theorem dX4_goTo_57 : decode cX4_goTo 57 = .ok (.iload_n 3, 1) := by decide +kernel
theorem dX4_goTo_58 : decode cX4_goTo 58 = .ok (.iload_n 1, 1) := by decide +kernel
theorem dX4_goTo_59 : decode cX4_goTo 59 = .ok (.invokevirtual 88, 3) := by decide +kernel
theorem dX4_goTo_62 : decode cX4_goTo 62 = .ok (.iadd, 1) := by decide +kernel
theorem dX4_goTo_63 : decode cX4_goTo 63 = .ok (.iconst 1, 1) := by decide +kernel
theorem dX4_goTo_64 : decode cX4_goTo 64 = .ok (.iadd, 1) := by decide +kernel
theorem dX4_goTo_65 : decode cX4_goTo 65 = .ok (.iconst 2, 1) := by decide +kernel
theorem dX4_goTo_66 : decode cX4_goTo 66 = .ok (.iload_n 1, 1) := by decide +kernel
theorem dX4_goTo_67 : decode cX4_goTo 67 = .ok (.imul, 1) := by decide +kernel
theorem dX4_goTo_68 : decode cX4_goTo 68 = .ok (.invokevirtual 92, 3) := by decide +kernel
theorem dX4_goTo_71 : decode cX4_goTo 71 = .ok (.aload_n 0, 1) := by decide +kernel
theorem dX4_goTo_72 : decode cX4_goTo 72 = .ok (.iload_n 1, 1) := by decide +kernel
theorem dX4_goTo_73 : decode cX4_goTo 73 = .ok (.invokevirtual 95, 3) := by decide +kernel
theorem dX4_goTo_76 : decode cX4_goTo 76 = .ok (.aload_n 0, 1) := by decide +kernel
theorem dX4_goTo_77 : decode cX4_goTo 77 = .ok (.iload_n 1, 1) := by decide +kernel
theorem dX4_goTo_78 : decode cX4_goTo 78 = .ok (.invokevirtual 98, 3) := by decide +kernel
theorem dX4_goTo_81 : decode cX4_goTo 81 = .ok (.return_, 1) := by decide +kernel
theorem dX4_passHalf_0 : decode cX4_passHalf 0 = .ok (.aload_n 0, 1) := by decide +kernel
theorem dX4_passHalf_1 : decode cX4_passHalf 1 = .ok (.getfield 46, 3) := by decide +kernel
theorem dX4_passHalf_4 : decode cX4_passHalf 4 = .ok (.getfield 101, 3) := by decide +kernel
theorem dX4_passHalf_7 : decode cX4_passHalf 7 = .ok (.istore_n 3, 1) := by decide +kernel
theorem dX4_passHalf_8 : decode cX4_passHalf 8 = .ok (.iload_n 1, 1) := by decide +kernel
theorem dX4_passHalf_9 : decode cX4_passHalf 9 = .ok (.iload_n 3, 1) := by decide +kernel
theorem dX4_passHalf_10 : decode cX4_passHalf 10 = .ok (.if_icmp .gt 12, 3) := by decide +kernel
theorem dX4_passHalf_13 : decode cX4_passHalf 13 = .ok (.iload_n 3, 1) := by decide +kernel
theorem dX4_passHalf_14 : decode cX4_passHalf 14 = .ok (.iload_n 2, 1) := by decide +kernel
theorem dX4_passHalf_15 : decode cX4_passHalf 15 = .ok (.if_icmp .ge 7, 3) := by decide +kernel
theorem dX4_passHalf_18 : decode cX4_passHalf 18 = .ok (.iconst 1, 1) := by decide +kernel
theorem dX4_passHalf_19 : decode cX4_passHalf 19 = .ok (.goto 4, 3) := by decide +kernel
theorem dX4_passHalf_22 : decode cX4_passHalf 22 = .ok (.iconst 0, 1) := by decide +kernel
theorem dX4_passHalf_23 : decode cX4_passHalf 23 = .ok (.istore 4, 2) := by decide +kernel
theorem dX4_passHalf_25 : decode cX4_passHalf 25 = .ok (.iload_n 2, 1) := by decide +kernel
theorem dX4_passHalf_26 : decode cX4_passHalf 26 = .ok (.iload_n 3, 1) := by decide +kernel
theorem dX4_passHalf_27 : decode cX4_passHalf 27 = .ok (.if_icmp .gt 12, 3) := by decide +kernel
theorem dX4_passHalf_30 : decode cX4_passHalf 30 = .ok (.iload_n 3, 1) := by decide +kernel
theorem dX4_passHalf_31 : decode cX4_passHalf 31 = .ok (.iload_n 1, 1) := by decide +kernel
theorem dX4_passHalf_32 : decode cX4_passHalf 32 = .ok (.if_icmp .ge 7, 3) := by decide +kernel
theorem dX4_passHalf_35 : decode cX4_passHalf 35 = .ok (.iconst 1, 1) := by decide +kernel
theorem dX4_passHalf_36 : decode cX4_passHalf 36 = .ok (.goto 4, 3) := by decide +kernel
theorem dX4_passHalf_39 : decode cX4_passHalf 39 = .ok (.iconst 0, 1) := by decide +kernel
theorem dX4_passHalf_40 : decode cX4_passHalf 40 = .ok (.istore 5, 2) := by decide +kernel
theorem dX4_passHalf_42 : decode cX4_passHalf 42 = .ok (.iload 4, 2) := by decide +kernel
theorem dX4_passHalf_44 : decode cX4_passHalf 44 = .ok (.ifCond .ne 10, 3) := by decide +kernel
theorem dX4_passHalf_47 : decode cX4_passHalf 47 = .ok (.iload 5, 2) := by decide +kernel
theorem dX4_passHalf_49 : decode cX4_passHalf 49 = .ok (.ifCond .ne 5, 3) := by decide +kernel
theorem dX4_passHalf_52 : decode cX4_passHalf 52 = .ok (.iconst 0, 1) := by decide +kernel
theorem dX4_passHalf_53 : decode cX4_passHalf 53 = .ok (.ireturn, 1) := by decide +kernel
theorem dX4_passHalf_54 : decode cX4_passHalf 54 = .ok (.aload_n 0, 1) := by decide +kernel
theorem dX4_passHalf_55 : decode cX4_passHalf 55 = .ok (.getfield 11, 3) := by decide +kernel
theorem dX4_passHalf_58 : decode cX4_passHalf 58 = .ok (.aload_n 0, 1) := by decide +kernel
theorem dX4_passHalf_59 : decode cX4_passHalf 59 = .ok (.getfield 36, 3) := by decide +kernel
theorem dX4_passHalf_62 : decode cX4_passHalf 62 = .ok (.iconst 1, 1) := by decide +kernel
theorem dX4_passHalf_63 : decode cX4_passHalf 63 = .ok (.isub, 1) := by decide +kernel
theorem dX4_passHalf_64 : decode cX4_passHalf 64 = .ok (.iaload, 1) := by decide +kernel
theorem dX4_passHalf_65 : decode cX4_passHalf 65 = .ok (.iload 4, 2) := by decide +kernel
theorem dX4_passHalf_67 : decode cX4_passHalf 67 = .ok (.ifCond .eq 9, 3) := by decide +kernel
theorem dX4_passHalf_70 : decode cX4_passHalf 70 = .ok (.iload_n 3, 1) := by decide +kernel
theorem dX4_passHalf_71 : decode cX4_passHalf 71 = .ok (.iload_n 1, 1) := by decide +kernel
theorem dX4_passHalf_72 : decode cX4_passHalf 72 = .ok (.isub, 1) := by decide +kernel
theorem dX4_passHalf_73 : decode cX4_passHalf 73 = .ok (.goto 8, 3) := by decide +kernel
theorem dX4_passHalf_76 : decode cX4_passHalf 76 = .ok (.iload_n 1, 1) := by decide +kernel
theorem dX4_passHalf_77 : decode cX4_passHalf 77 = .ok (.iload_n 3, 1) := by decide +kernel
theorem dX4_passHalf_78 : decode cX4_passHalf 78 = .ok (.isub, 1) := by decide +kernel
theorem dX4_passHalf_79 : decode cX4_passHalf 79 = .ok (.iconst 1, 1) := by decide +kernel
theorem dX4_passHalf_80 : decode cX4_passHalf 80 = .ok (.isub, 1) := by decide +kernel
theorem dX4_passHalf_81 : decode cX4_passHalf 81 = .ok (.iadd, 1) := by decide +kernel
theorem dX4_passHalf_82 : decode cX4_passHalf 82 = .ok (.istore 6, 2) := by decide +kernel
theorem dX4_passHalf_84 : decode cX4_passHalf 84 = .ok (.aload_n 0, 1) := by decide +kernel
theorem dX4_passHalf_85 : decode cX4_passHalf 85 = .ok (.iload 6, 2) := by decide +kernel
theorem dX4_passHalf_87 : decode cX4_passHalf 87 = .ok (.invokevirtual 104, 3) := by decide +kernel
theorem dX4_passHalf_90 : decode cX4_passHalf 90 = .ok (.istore 7, 2) := by decide +kernel
theorem dX4_passHalf_92 : decode cX4_passHalf 92 = .ok (.iload 7, 2) := by decide +kernel
theorem dX4_passHalf_94 : decode cX4_passHalf 94 = .ok (.ifCond .ne 5, 3) := by decide +kernel
theorem dX4_passHalf_97 : decode cX4_passHalf 97 = .ok (.iconst 0, 1) := by decide +kernel
theorem dX4_passHalf_98 : decode cX4_passHalf 98 = .ok (.ireturn, 1) := by decide +kernel
theorem dX4_passHalf_99 : decode cX4_passHalf 99 = .ok (.aload_n 0, 1) := by decide +kernel
theorem dX4_passHalf_100 : decode cX4_passHalf 100 = .ok (.iload 6, 2) := by decide +kernel
theorem dX4_passHalf_102 : decode cX4_passHalf 102 = .ok (.iconst 1, 1) := by decide +kernel
theorem dX4_passHalf_103 : decode cX4_passHalf 103 = .ok (.iadd, 1) := by decide +kernel
theorem dX4_passHalf_104 : decode cX4_passHalf 104 = .ok (.iconst 2, 1) := by decide +kernel
theorem dX4_passHalf_105 : decode cX4_passHalf 105 = .ok (.iload_n 3, 1) := by decide +kernel
theorem dX4_passHalf_106 : decode cX4_passHalf 106 = .ok (.imul, 1) := by decide +kernel
theorem dX4_passHalf_107 : decode cX4_passHalf 107 = .ok (.iconst 1, 1) := by decide +kernel
theorem dX4_passHalf_108 : decode cX4_passHalf 108 = .ok (.iadd, 1) := by decide +kernel
theorem dX4_passHalf_109 : decode cX4_passHalf 109 = .ok (.invokevirtual 92, 3) := by decide +kernel
theorem dX4_passHalf_112 : decode cX4_passHalf 112 = .ok (.aload_n 0, 1) := by decide +kernel
theorem dX4_passHalf_113 : decode cX4_passHalf 113 = .ok (.iload 7, 2) := by decide +kernel
theorem dX4_passHalf_115 : decode cX4_passHalf 115 = .ok (.invokevirtual 107, 3) := by decide +kernel
theorem dX4_passHalf_118 : decode cX4_passHalf 118 = .ok (.iconst 1, 1) := by decide +kernel
theorem dX4_passHalf_119 : decode cX4_passHalf 119 = .ok (.ireturn, 1) := by decide +kernel
theorem dX4_waitingBy_0 : decode cX4_waitingBy 0 = .ok (.aload_n 0, 1) := by decide +kernel
theorem dX4_waitingBy_1 : decode cX4_waitingBy 1 = .ok (.getfield 40, 3) := by decide +kernel
theorem dX4_waitingBy_4 : decode cX4_waitingBy 4 = .ok (.aload_n 0, 1) := by decide +kernel
theorem dX4_waitingBy_5 : decode cX4_waitingBy 5 = .ok (.getfield 24, 3) := by decide +kernel
theorem dX4_waitingBy_8 : decode cX4_waitingBy 8 = .ok (.aload_n 0, 1) := by decide +kernel
theorem dX4_waitingBy_9 : decode cX4_waitingBy 9 = .ok (.getfield 36, 3) := by decide +kernel
theorem dX4_waitingBy_12 : decode cX4_waitingBy 12 = .ok (.iconst 1, 1) := by decide +kernel
theorem dX4_waitingBy_13 : decode cX4_waitingBy 13 = .ok (.isub, 1) := by decide +kernel
theorem dX4_waitingBy_14 : decode cX4_waitingBy 14 = .ok (.iaload, 1) := by decide +kernel
theorem dX4_waitingBy_15 : decode cX4_waitingBy 15 = .ok (.aload_n 0, 1) := by decide +kernel
theorem dX4_waitingBy_16 : decode cX4_waitingBy 16 = .ok (.getfield 27, 3) := by decide +kernel
theorem dX4_waitingBy_19 : decode cX4_waitingBy 19 = .ok (.aload_n 0, 1) := by decide +kernel
theorem dX4_waitingBy_20 : decode cX4_waitingBy 20 = .ok (.getfield 36, 3) := by decide +kernel
theorem dX4_waitingBy_23 : decode cX4_waitingBy 23 = .ok (.iconst 1, 1) := by decide +kernel
theorem dX4_waitingBy_24 : decode cX4_waitingBy 24 = .ok (.isub, 1) := by decide +kernel
theorem dX4_waitingBy_25 : decode cX4_waitingBy 25 = .ok (.iaload, 1) := by decide +kernel
theorem dX4_waitingBy_26 : decode cX4_waitingBy 26 = .ok (.ior, 1) := by decide +kernel
theorem dX4_waitingBy_27 : decode cX4_waitingBy 27 = .ok (.iconst (-1), 1) := by decide +kernel
theorem dX4_waitingBy_28 : decode cX4_waitingBy 28 = .ok (.ixor, 1) := by decide +kernel
theorem dX4_waitingBy_29 : decode cX4_waitingBy 29 = .ok (.iand, 1) := by decide +kernel
theorem dX4_waitingBy_30 : decode cX4_waitingBy 30 = .ok (.istore_n 2, 1) := by decide +kernel
theorem dX4_waitingBy_31 : decode cX4_waitingBy 31 = .ok (.iconst 0, 1) := by decide +kernel
theorem dX4_waitingBy_32 : decode cX4_waitingBy 32 = .ok (.istore_n 3, 1) := by decide +kernel
theorem dX4_waitingBy_33 : decode cX4_waitingBy 33 = .ok (.iload_n 3, 1) := by decide +kernel
theorem dX4_waitingBy_34 : decode cX4_waitingBy 34 = .ok (.aload_n 0, 1) := by decide +kernel
theorem dX4_waitingBy_35 : decode cX4_waitingBy 35 = .ok (.getfield 46, 3) := by decide +kernel
theorem dX4_waitingBy_38 : decode cX4_waitingBy 38 = .ok (.getfield 55, 3) := by decide +kernel
theorem dX4_waitingBy_41 : decode cX4_waitingBy 41 = .ok (.if_icmp .ge 34, 3) := by decide +kernel
theorem dX4_waitingBy_44 : decode cX4_waitingBy 44 = .ok (.iload_n 2, 1) := by decide +kernel
theorem dX4_waitingBy_45 : decode cX4_waitingBy 45 = .ok (.ifCond .eq 30, 3) := by decide +kernel
theorem dX4_waitingBy_48 : decode cX4_waitingBy 48 = .ok (.aload_n 0, 1) := by decide +kernel
theorem dX4_waitingBy_49 : decode cX4_waitingBy 49 = .ok (.getfield 46, 3) := by decide +kernel
theorem dX4_waitingBy_52 : decode cX4_waitingBy 52 = .ok (.getfield 110, 3) := by decide +kernel
theorem dX4_waitingBy_55 : decode cX4_waitingBy 55 = .ok (.iload_n 3, 1) := by decide +kernel
theorem dX4_waitingBy_56 : decode cX4_waitingBy 56 = .ok (.iaload, 1) := by decide +kernel
theorem dX4_waitingBy_57 : decode cX4_waitingBy 57 = .ok (.iload_n 1, 1) := by decide +kernel
theorem dX4_waitingBy_58 : decode cX4_waitingBy 58 = .ok (.if_icmp .le 11, 3) := by decide +kernel
theorem dX4_waitingBy_61 : decode cX4_waitingBy 61 = .ok (.iload_n 2, 1) := by decide +kernel
theorem dX4_waitingBy_62 : decode cX4_waitingBy 62 = .ok (.iconst 1, 1) := by decide +kernel
theorem dX4_waitingBy_63 : decode cX4_waitingBy 63 = .ok (.iload_n 3, 1) := by decide +kernel
theorem dX4_waitingBy_64 : decode cX4_waitingBy 64 = .ok (.ishl, 1) := by decide +kernel
theorem dX4_waitingBy_65 : decode cX4_waitingBy 65 = .ok (.iconst (-1), 1) := by decide +kernel
theorem dX4_waitingBy_66 : decode cX4_waitingBy 66 = .ok (.ixor, 1) := by decide +kernel
theorem dX4_waitingBy_67 : decode cX4_waitingBy 67 = .ok (.iand, 1) := by decide +kernel
theorem dX4_waitingBy_68 : decode cX4_waitingBy 68 = .ok (.istore_n 2, 1) := by decide +kernel
theorem dX4_waitingBy_69 : decode cX4_waitingBy 69 = .ok (.iinc 3 1, 3) := by decide +kernel
theorem dX4_waitingBy_72 : decode cX4_waitingBy 72 = .ok (.goto (-39), 3) := by decide +kernel
theorem dX4_waitingBy_75 : decode cX4_waitingBy 75 = .ok (.iload_n 2, 1) := by decide +kernel
theorem dX4_waitingBy_76 : decode cX4_waitingBy 76 = .ok (.ireturn, 1) := by decide +kernel
theorem dX4_letAbsencesIn_0 : decode cX4_letAbsencesIn 0 = .ok (.aload_n 0, 1) := by decide +kernel
theorem dX4_letAbsencesIn_1 : decode cX4_letAbsencesIn 1 = .ok (.getfield 36, 3) := by decide +kernel
theorem dX4_letAbsencesIn_4 : decode cX4_letAbsencesIn 4 = .ok (.iconst 1, 1) := by decide +kernel
theorem dX4_letAbsencesIn_5 : decode cX4_letAbsencesIn 5 = .ok (.isub, 1) := by decide +kernel
theorem dX4_letAbsencesIn_6 : decode cX4_letAbsencesIn 6 = .ok (.istore_n 2, 1) := by decide +kernel
theorem dX4_letAbsencesIn_7 : decode cX4_letAbsencesIn 7 = .ok (.iconst 0, 1) := by decide +kernel
theorem dX4_letAbsencesIn_8 : decode cX4_letAbsencesIn 8 = .ok (.istore_n 3, 1) := by decide +kernel
theorem dX4_letAbsencesIn_9 : decode cX4_letAbsencesIn 9 = .ok (.iload_n 3, 1) := by decide +kernel
theorem dX4_letAbsencesIn_10 : decode cX4_letAbsencesIn 10 = .ok (.aload_n 0, 1) := by decide +kernel
theorem dX4_letAbsencesIn_11 : decode cX4_letAbsencesIn 11 = .ok (.getfield 46, 3) := by decide +kernel
theorem dX4_letAbsencesIn_14 : decode cX4_letAbsencesIn 14 = .ok (.getfield 55, 3) := by decide +kernel
theorem dX4_letAbsencesIn_17 : decode cX4_letAbsencesIn 17 = .ok (.if_icmp .ge 67, 3) := by decide +kernel
theorem dX4_letAbsencesIn_20 : decode cX4_letAbsencesIn 20 = .ok (.iload_n 1, 1) := by decide +kernel
theorem dX4_letAbsencesIn_21 : decode cX4_letAbsencesIn 21 = .ok (.iload_n 3, 1) := by decide +kernel
theorem dX4_letAbsencesIn_22 : decode cX4_letAbsencesIn 22 = .ok (.ishr, 1) := by decide +kernel
theorem dX4_letAbsencesIn_23 : decode cX4_letAbsencesIn 23 = .ok (.iconst 1, 1) := by decide +kernel
theorem dX4_letAbsencesIn_24 : decode cX4_letAbsencesIn 24 = .ok (.iand, 1) := by decide +kernel
theorem dX4_letAbsencesIn_25 : decode cX4_letAbsencesIn 25 = .ok (.ifCond .eq 53, 3) := by decide +kernel
theorem dX4_letAbsencesIn_28 : decode cX4_letAbsencesIn 28 = .ok (.aload_n 0, 1) := by decide +kernel
theorem dX4_letAbsencesIn_29 : decode cX4_letAbsencesIn 29 = .ok (.getfield 18, 3) := by decide +kernel
theorem dX4_letAbsencesIn_32 : decode cX4_letAbsencesIn 32 = .ok (.iload_n 2, 1) := by decide +kernel
theorem dX4_letAbsencesIn_33 : decode cX4_letAbsencesIn 33 = .ok (.iaload, 1) := by decide +kernel
theorem dX4_letAbsencesIn_34 : decode cX4_letAbsencesIn 34 = .ok (.aload_n 0, 1) := by decide +kernel
theorem dX4_letAbsencesIn_35 : decode cX4_letAbsencesIn 35 = .ok (.getfield 43, 3) := by decide +kernel
theorem dX4_letAbsencesIn_38 : decode cX4_letAbsencesIn 38 = .ok (.iload_n 3, 1) := by decide +kernel
theorem dX4_letAbsencesIn_39 : decode cX4_letAbsencesIn 39 = .ok (.iaload, 1) := by decide +kernel
theorem dX4_letAbsencesIn_40 : decode cX4_letAbsencesIn 40 = .ok (.iadd, 1) := by decide +kernel
theorem dX4_letAbsencesIn_41 : decode cX4_letAbsencesIn 41 = .ok (.aload_n 0, 1) := by decide +kernel
theorem dX4_letAbsencesIn_42 : decode cX4_letAbsencesIn 42 = .ok (.getfield 46, 3) := by decide +kernel
theorem dX4_letAbsencesIn_45 : decode cX4_letAbsencesIn 45 = .ok (.getfield 113, 3) := by decide +kernel
theorem dX4_letAbsencesIn_48 : decode cX4_letAbsencesIn 48 = .ok (.if_icmp .gt 30, 3) := by decide +kernel
theorem dX4_letAbsencesIn_51 : decode cX4_letAbsencesIn 51 = .ok (.aload_n 0, 1) := by decide +kernel
theorem dX4_letAbsencesIn_52 : decode cX4_letAbsencesIn 52 = .ok (.getfield 24, 3) := by decide +kernel
theorem dX4_letAbsencesIn_55 : decode cX4_letAbsencesIn 55 = .ok (.iload_n 2, 1) := by decide +kernel
theorem dX4_letAbsencesIn_56 : decode cX4_letAbsencesIn 56 = .ok (.dup2, 1) := by decide +kernel
theorem dX4_letAbsencesIn_57 : decode cX4_letAbsencesIn 57 = .ok (.iaload, 1) := by decide +kernel
theorem dX4_letAbsencesIn_58 : decode cX4_letAbsencesIn 58 = .ok (.iconst 1, 1) := by decide +kernel
theorem dX4_letAbsencesIn_59 : decode cX4_letAbsencesIn 59 = .ok (.iload_n 3, 1) := by decide +kernel
theorem dX4_letAbsencesIn_60 : decode cX4_letAbsencesIn 60 = .ok (.ishl, 1) := by decide +kernel
theorem dX4_letAbsencesIn_61 : decode cX4_letAbsencesIn 61 = .ok (.ior, 1) := by decide +kernel
theorem dX4_letAbsencesIn_62 : decode cX4_letAbsencesIn 62 = .ok (.iastore, 1) := by decide +kernel
theorem dX4_letAbsencesIn_63 : decode cX4_letAbsencesIn 63 = .ok (.aload_n 0, 1) := by decide +kernel
theorem dX4_letAbsencesIn_64 : decode cX4_letAbsencesIn 64 = .ok (.getfield 18, 3) := by decide +kernel
theorem dX4_letAbsencesIn_67 : decode cX4_letAbsencesIn 67 = .ok (.iload_n 2, 1) := by decide +kernel
theorem dX4_letAbsencesIn_68 : decode cX4_letAbsencesIn 68 = .ok (.dup2, 1) := by decide +kernel
theorem dX4_letAbsencesIn_69 : decode cX4_letAbsencesIn 69 = .ok (.iaload, 1) := by decide +kernel
theorem dX4_letAbsencesIn_70 : decode cX4_letAbsencesIn 70 = .ok (.aload_n 0, 1) := by decide +kernel
theorem dX4_letAbsencesIn_71 : decode cX4_letAbsencesIn 71 = .ok (.getfield 43, 3) := by decide +kernel
theorem dX4_letAbsencesIn_74 : decode cX4_letAbsencesIn 74 = .ok (.iload_n 3, 1) := by decide +kernel
theorem dX4_letAbsencesIn_75 : decode cX4_letAbsencesIn 75 = .ok (.iaload, 1) := by decide +kernel
theorem dX4_letAbsencesIn_76 : decode cX4_letAbsencesIn 76 = .ok (.iadd, 1) := by decide +kernel
theorem dX4_letAbsencesIn_77 : decode cX4_letAbsencesIn 77 = .ok (.iastore, 1) := by decide +kernel
theorem dX4_letAbsencesIn_78 : decode cX4_letAbsencesIn 78 = .ok (.iinc 3 1, 3) := by decide +kernel
theorem dX4_letAbsencesIn_81 : decode cX4_letAbsencesIn 81 = .ok (.goto (-72), 3) := by decide +kernel
theorem dX4_letAbsencesIn_84 : decode cX4_letAbsencesIn 84 = .ok (.return_, 1) := by decide +kernel
theorem dX4_letOut_0 : decode cX4_letOut 0 = .ok (.aload_n 0, 1) := by decide +kernel
theorem dX4_letOut_1 : decode cX4_letOut 1 = .ok (.getfield 36, 3) := by decide +kernel
theorem dX4_letOut_4 : decode cX4_letOut 4 = .ok (.iconst 1, 1) := by decide +kernel
theorem dX4_letOut_5 : decode cX4_letOut 5 = .ok (.isub, 1) := by decide +kernel
theorem dX4_letOut_6 : decode cX4_letOut 6 = .ok (.istore_n 2, 1) := by decide +kernel
theorem dX4_letOut_7 : decode cX4_letOut 7 = .ok (.aload_n 0, 1) := by decide +kernel
theorem dX4_letOut_8 : decode cX4_letOut 8 = .ok (.getfield 21, 3) := by decide +kernel
theorem dX4_letOut_11 : decode cX4_letOut 11 = .ok (.iload_n 2, 1) := by decide +kernel
theorem dX4_letOut_12 : decode cX4_letOut 12 = .ok (.iaload, 1) := by decide +kernel
theorem dX4_letOut_13 : decode cX4_letOut 13 = .ok (.aload_n 0, 1) := by decide +kernel
theorem dX4_letOut_14 : decode cX4_letOut 14 = .ok (.getfield 46, 3) := by decide +kernel
theorem dX4_letOut_17 : decode cX4_letOut 17 = .ok (.getfield 116, 3) := by decide +kernel
theorem dX4_letOut_20 : decode cX4_letOut 20 = .ok (.iload_n 1, 1) := by decide +kernel
theorem dX4_letOut_21 : decode cX4_letOut 21 = .ok (.iaload, 1) := by decide +kernel
theorem dX4_letOut_22 : decode cX4_letOut 22 = .ok (.iand, 1) := by decide +kernel
theorem dX4_letOut_23 : decode cX4_letOut 23 = .ok (.istore_n 3, 1) := by decide +kernel
theorem dX4_letOut_24 : decode cX4_letOut 24 = .ok (.iload_n 1, 1) := by decide +kernel
theorem dX4_letOut_25 : decode cX4_letOut 25 = .ok (.ifCond .ne 12, 3) := by decide +kernel
theorem dX4_letOut_28 : decode cX4_letOut 28 = .ok (.aload_n 0, 1) := by decide +kernel
theorem dX4_letOut_29 : decode cX4_letOut 29 = .ok (.getfield 24, 3) := by decide +kernel
theorem dX4_letOut_32 : decode cX4_letOut 32 = .ok (.iload_n 2, 1) := by decide +kernel
theorem dX4_letOut_33 : decode cX4_letOut 33 = .ok (.iaload, 1) := by decide +kernel
theorem dX4_letOut_34 : decode cX4_letOut 34 = .ok (.goto 4, 3) := by decide +kernel
theorem dX4_letOut_37 : decode cX4_letOut 37 = .ok (.iconst 0, 1) := by decide +kernel
theorem dX4_letOut_38 : decode cX4_letOut 38 = .ok (.istore 4, 2) := by decide +kernel
theorem dX4_letOut_40 : decode cX4_letOut 40 = .ok (.iload_n 3, 1) := by decide +kernel
theorem dX4_letOut_41 : decode cX4_letOut 41 = .ok (.ifCond .ne 9, 3) := by decide +kernel
theorem dX4_letOut_44 : decode cX4_letOut 44 = .ok (.iload 4, 2) := by decide +kernel
theorem dX4_letOut_46 : decode cX4_letOut 46 = .ok (.ifCond .ne 4, 3) := by decide +kernel
theorem dX4_letOut_49 : decode cX4_letOut 49 = .ok (.return_, 1) := by decide +kernel
theorem dX4_letOut_50 : decode cX4_letOut 50 = .ok (.iconst 0, 1) := by decide +kernel
theorem dX4_letOut_51 : decode cX4_letOut 51 = .ok (.istore 5, 2) := by decide +kernel
theorem dX4_letOut_53 : decode cX4_letOut 53 = .ok (.iload 5, 2) := by decide +kernel
theorem dX4_letOut_55 : decode cX4_letOut 55 = .ok (.bipush 8, 2) := by decide +kernel
theorem dX4_letOut_57 : decode cX4_letOut 57 = .ok (.if_icmp .ge 63, 3) := by decide +kernel
theorem dX4_letOut_60 : decode cX4_letOut 60 = .ok (.aload_n 0, 1) := by decide +kernel
theorem dX4_letOut_61 : decode cX4_letOut 61 = .ok (.getfield 18, 3) := by decide +kernel
theorem dX4_letOut_64 : decode cX4_letOut 64 = .ok (.iload_n 2, 1) := by decide +kernel
theorem dX4_letOut_65 : decode cX4_letOut 65 = .ok (.dup2, 1) := by decide +kernel
theorem dX4_letOut_66 : decode cX4_letOut 66 = .ok (.iaload, 1) := by decide +kernel
theorem dX4_letOut_67 : decode cX4_letOut 67 = .ok (.iload_n 3, 1) := by decide +kernel
theorem dX4_letOut_68 : decode cX4_letOut 68 = .ok (.iload 5, 2) := by decide +kernel
theorem dX4_letOut_70 : decode cX4_letOut 70 = .ok (.invokestatic 58, 3) := by decide +kernel
theorem dX4_letOut_73 : decode cX4_letOut 73 = .ok (.ifCond .eq 16, 3) := by decide +kernel
theorem dX4_letOut_76 : decode cX4_letOut 76 = .ok (.aload_n 0, 1) := by decide +kernel
theorem dX4_letOut_77 : decode cX4_letOut 77 = .ok (.getfield 46, 3) := by decide +kernel
theorem dX4_letOut_80 : decode cX4_letOut 80 = .ok (.getfield 71, 3) := by decide +kernel
theorem dX4_letOut_83 : decode cX4_letOut 83 = .ok (.iload 5, 2) := by decide +kernel
theorem dX4_letOut_85 : decode cX4_letOut 85 = .ok (.iaload, 1) := by decide +kernel
theorem dX4_letOut_86 : decode cX4_letOut 86 = .ok (.goto 4, 3) := by decide +kernel
theorem dX4_letOut_89 : decode cX4_letOut 89 = .ok (.iconst 0, 1) := by decide +kernel
theorem dX4_letOut_90 : decode cX4_letOut 90 = .ok (.iload 4, 2) := by decide +kernel
theorem dX4_letOut_92 : decode cX4_letOut 92 = .ok (.iload 5, 2) := by decide +kernel
theorem dX4_letOut_94 : decode cX4_letOut 94 = .ok (.invokestatic 58, 3) := by decide +kernel
theorem dX4_letOut_97 : decode cX4_letOut 97 = .ok (.ifCond .eq 13, 3) := by decide +kernel
theorem dX4_letOut_100 : decode cX4_letOut 100 = .ok (.aload_n 0, 1) := by decide +kernel
theorem dX4_letOut_101 : decode cX4_letOut 101 = .ok (.getfield 43, 3) := by decide +kernel
theorem dX4_letOut_104 : decode cX4_letOut 104 = .ok (.iload 5, 2) := by decide +kernel
theorem dX4_letOut_106 : decode cX4_letOut 106 = .ok (.iaload, 1) := by decide +kernel
theorem dX4_letOut_107 : decode cX4_letOut 107 = .ok (.goto 4, 3) := by decide +kernel
theorem dX4_letOut_110 : decode cX4_letOut 110 = .ok (.iconst 0, 1) := by decide +kernel
theorem dX4_letOut_111 : decode cX4_letOut 111 = .ok (.iadd, 1) := by decide +kernel
theorem dX4_letOut_112 : decode cX4_letOut 112 = .ok (.isub, 1) := by decide +kernel
theorem dX4_letOut_113 : decode cX4_letOut 113 = .ok (.iastore, 1) := by decide +kernel
theorem dX4_letOut_114 : decode cX4_letOut 114 = .ok (.iinc 5 1, 3) := by decide +kernel
theorem dX4_letOut_117 : decode cX4_letOut 117 = .ok (.goto (-64), 3) := by decide +kernel
theorem dX4_letOut_120 : decode cX4_letOut 120 = .ok (.aload_n 0, 1) := by decide +kernel
theorem dX4_letOut_121 : decode cX4_letOut 121 = .ok (.getfield 21, 3) := by decide +kernel
theorem dX4_letOut_124 : decode cX4_letOut 124 = .ok (.iload_n 2, 1) := by decide +kernel
theorem dX4_letOut_125 : decode cX4_letOut 125 = .ok (.dup2, 1) := by decide +kernel
theorem dX4_letOut_126 : decode cX4_letOut 126 = .ok (.iaload, 1) := by decide +kernel
theorem dX4_letOut_127 : decode cX4_letOut 127 = .ok (.iload_n 3, 1) := by decide +kernel
theorem dX4_letOut_128 : decode cX4_letOut 128 = .ok (.iconst (-1), 1) := by decide +kernel
theorem dX4_letOut_129 : decode cX4_letOut 129 = .ok (.ixor, 1) := by decide +kernel
theorem dX4_letOut_130 : decode cX4_letOut 130 = .ok (.iand, 1) := by decide +kernel
theorem dX4_letOut_131 : decode cX4_letOut 131 = .ok (.iastore, 1) := by decide +kernel
theorem dX4_letOut_132 : decode cX4_letOut 132 = .ok (.aload_n 0, 1) := by decide +kernel
theorem dX4_letOut_133 : decode cX4_letOut 133 = .ok (.getfield 30, 3) := by decide +kernel
theorem dX4_letOut_136 : decode cX4_letOut 136 = .ok (.iload_n 2, 1) := by decide +kernel
theorem dX4_letOut_137 : decode cX4_letOut 137 = .ok (.dup2, 1) := by decide +kernel
theorem dX4_letOut_138 : decode cX4_letOut 138 = .ok (.iaload, 1) := by decide +kernel
theorem dX4_letOut_139 : decode cX4_letOut 139 = .ok (.iload_n 3, 1) := by decide +kernel
theorem dX4_letOut_140 : decode cX4_letOut 140 = .ok (.ior, 1) := by decide +kernel
theorem dX4_letOut_141 : decode cX4_letOut 141 = .ok (.iastore, 1) := by decide +kernel
theorem dX4_letOut_142 : decode cX4_letOut 142 = .ok (.aload_n 0, 1) := by decide +kernel
theorem dX4_letOut_143 : decode cX4_letOut 143 = .ok (.getfield 24, 3) := by decide +kernel
theorem dX4_letOut_146 : decode cX4_letOut 146 = .ok (.iload_n 2, 1) := by decide +kernel
theorem dX4_letOut_147 : decode cX4_letOut 147 = .ok (.dup2, 1) := by decide +kernel
theorem dX4_letOut_148 : decode cX4_letOut 148 = .ok (.iaload, 1) := by decide +kernel
theorem dX4_letOut_149 : decode cX4_letOut 149 = .ok (.iload 4, 2) := by decide +kernel
theorem dX4_letOut_151 : decode cX4_letOut 151 = .ok (.iconst (-1), 1) := by decide +kernel
theorem dX4_letOut_152 : decode cX4_letOut 152 = .ok (.ixor, 1) := by decide +kernel
theorem dX4_letOut_153 : decode cX4_letOut 153 = .ok (.iand, 1) := by decide +kernel
theorem dX4_letOut_154 : decode cX4_letOut 154 = .ok (.iastore, 1) := by decide +kernel
theorem dX4_letOut_155 : decode cX4_letOut 155 = .ok (.aload_n 0, 1) := by decide +kernel
theorem dX4_letOut_156 : decode cX4_letOut 156 = .ok (.getfield 27, 3) := by decide +kernel
theorem dX4_letOut_159 : decode cX4_letOut 159 = .ok (.iload_n 2, 1) := by decide +kernel
theorem dX4_letOut_160 : decode cX4_letOut 160 = .ok (.dup2, 1) := by decide +kernel
theorem dX4_letOut_161 : decode cX4_letOut 161 = .ok (.iaload, 1) := by decide +kernel
theorem dX4_letOut_162 : decode cX4_letOut 162 = .ok (.iload 4, 2) := by decide +kernel
theorem dX4_letOut_164 : decode cX4_letOut 164 = .ok (.ior, 1) := by decide +kernel
theorem dX4_letOut_165 : decode cX4_letOut 165 = .ok (.iastore, 1) := by decide +kernel
theorem dX4_letOut_166 : decode cX4_letOut 166 = .ok (.return_, 1) := by decide +kernel
theorem dX4_letIn_0 : decode cX4_letIn 0 = .ok (.aload_n 0, 1) := by decide +kernel
theorem dX4_letIn_1 : decode cX4_letIn 1 = .ok (.getfield 36, 3) := by decide +kernel
theorem dX4_letIn_4 : decode cX4_letIn 4 = .ok (.iconst 1, 1) := by decide +kernel
theorem dX4_letIn_5 : decode cX4_letIn 5 = .ok (.isub, 1) := by decide +kernel
theorem dX4_letIn_6 : decode cX4_letIn 6 = .ok (.istore_n 2, 1) := by decide +kernel
theorem dX4_letIn_7 : decode cX4_letIn 7 = .ok (.aload_n 0, 1) := by decide +kernel
theorem dX4_letIn_8 : decode cX4_letIn 8 = .ok (.getfield 46, 3) := by decide +kernel
theorem dX4_letIn_11 : decode cX4_letIn 11 = .ok (.getfield 119, 3) := by decide +kernel
theorem dX4_letIn_14 : decode cX4_letIn 14 = .ok (.iload_n 1, 1) := by decide +kernel
theorem dX4_letIn_15 : decode cX4_letIn 15 = .ok (.iaload, 1) := by decide +kernel
theorem dX4_letIn_16 : decode cX4_letIn 16 = .ok (.aload_n 0, 1) := by decide +kernel
theorem dX4_letIn_17 : decode cX4_letIn 17 = .ok (.getfield 21, 3) := by decide +kernel
theorem dX4_letIn_20 : decode cX4_letIn 20 = .ok (.iload_n 2, 1) := by decide +kernel
theorem dX4_letIn_21 : decode cX4_letIn 21 = .ok (.iaload, 1) := by decide +kernel
theorem dX4_letIn_22 : decode cX4_letIn 22 = .ok (.aload_n 0, 1) := by decide +kernel
theorem dX4_letIn_23 : decode cX4_letIn 23 = .ok (.getfield 30, 3) := by decide +kernel
theorem dX4_letIn_26 : decode cX4_letIn 26 = .ok (.iload_n 2, 1) := by decide +kernel
theorem dX4_letIn_27 : decode cX4_letIn 27 = .ok (.iaload, 1) := by decide +kernel
theorem dX4_letIn_28 : decode cX4_letIn 28 = .ok (.ior, 1) := by decide +kernel
theorem dX4_letIn_29 : decode cX4_letIn 29 = .ok (.iconst (-1), 1) := by decide +kernel
theorem dX4_letIn_30 : decode cX4_letIn 30 = .ok (.ixor, 1) := by decide +kernel
theorem dX4_letIn_31 : decode cX4_letIn 31 = .ok (.iand, 1) := by decide +kernel
theorem dX4_letIn_32 : decode cX4_letIn 32 = .ok (.istore_n 3, 1) := by decide +kernel
theorem dX4_letIn_33 : decode cX4_letIn 33 = .ok (.iload_n 3, 1) := by decide +kernel
theorem dX4_letIn_34 : decode cX4_letIn 34 = .ok (.ifCond .ne 4, 3) := by decide +kernel
theorem dX4_letIn_37 : decode cX4_letIn 37 = .ok (.return_, 1) := by decide +kernel
theorem dX4_letIn_38 : decode cX4_letIn 38 = .ok (.iconst 0, 1) := by decide +kernel
theorem dX4_letIn_39 : decode cX4_letIn 39 = .ok (.istore 4, 2) := by decide +kernel
theorem dX4_letIn_41 : decode cX4_letIn 41 = .ok (.iload 4, 2) := by decide +kernel
theorem dX4_letIn_43 : decode cX4_letIn 43 = .ok (.aload_n 0, 1) := by decide +kernel
theorem dX4_letIn_44 : decode cX4_letIn 44 = .ok (.getfield 46, 3) := by decide +kernel
theorem dX4_letIn_47 : decode cX4_letIn 47 = .ok (.getfield 69, 3) := by decide +kernel
theorem dX4_letIn_50 : decode cX4_letIn 50 = .ok (.if_icmp .ge 96, 3) := by decide +kernel
theorem dX4_letIn_53 : decode cX4_letIn 53 = .ok (.iload_n 3, 1) := by decide +kernel
theorem dX4_letIn_54 : decode cX4_letIn 54 = .ok (.iload 4, 2) := by decide +kernel
theorem dX4_letIn_56 : decode cX4_letIn 56 = .ok (.invokestatic 58, 3) := by decide +kernel
theorem dX4_letIn_59 : decode cX4_letIn 59 = .ok (.ifCond .ne 6, 3) := by decide +kernel
theorem dX4_letIn_62 : decode cX4_letIn 62 = .ok (.goto 78, 3) := by decide +kernel
theorem dX4_letIn_65 : decode cX4_letIn 65 = .ok (.aload_n 0, 1) := by decide +kernel
theorem dX4_letIn_66 : decode cX4_letIn 66 = .ok (.getfield 18, 3) := by decide +kernel
theorem dX4_letIn_69 : decode cX4_letIn 69 = .ok (.iload_n 2, 1) := by decide +kernel
theorem dX4_letIn_70 : decode cX4_letIn 70 = .ok (.iaload, 1) := by decide +kernel
theorem dX4_letIn_71 : decode cX4_letIn 71 = .ok (.aload_n 0, 1) := by decide +kernel
theorem dX4_letIn_72 : decode cX4_letIn 72 = .ok (.getfield 46, 3) := by decide +kernel
theorem dX4_letIn_75 : decode cX4_letIn 75 = .ok (.getfield 71, 3) := by decide +kernel
theorem dX4_letIn_78 : decode cX4_letIn 78 = .ok (.iload 4, 2) := by decide +kernel
theorem dX4_letIn_80 : decode cX4_letIn 80 = .ok (.iaload, 1) := by decide +kernel
theorem dX4_letIn_81 : decode cX4_letIn 81 = .ok (.iadd, 1) := by decide +kernel
theorem dX4_letIn_82 : decode cX4_letIn 82 = .ok (.aload_n 0, 1) := by decide +kernel
theorem dX4_letIn_83 : decode cX4_letIn 83 = .ok (.getfield 46, 3) := by decide +kernel
theorem dX4_letIn_86 : decode cX4_letIn 86 = .ok (.getfield 113, 3) := by decide +kernel
theorem dX4_letIn_89 : decode cX4_letIn 89 = .ok (.if_icmp .gt 38, 3) := by decide +kernel
theorem dX4_letIn_92 : decode cX4_letIn 92 = .ok (.aload_n 0, 1) := by decide +kernel
theorem dX4_letIn_93 : decode cX4_letIn 93 = .ok (.getfield 21, 3) := by decide +kernel
theorem dX4_letIn_96 : decode cX4_letIn 96 = .ok (.iload_n 2, 1) := by decide +kernel
theorem dX4_letIn_97 : decode cX4_letIn 97 = .ok (.dup2, 1) := by decide +kernel
theorem dX4_letIn_98 : decode cX4_letIn 98 = .ok (.iaload, 1) := by decide +kernel
theorem dX4_letIn_99 : decode cX4_letIn 99 = .ok (.iconst 1, 1) := by decide +kernel
theorem dX4_letIn_100 : decode cX4_letIn 100 = .ok (.iload 4, 2) := by decide +kernel
theorem dX4_letIn_102 : decode cX4_letIn 102 = .ok (.ishl, 1) := by decide +kernel
theorem dX4_letIn_103 : decode cX4_letIn 103 = .ok (.ior, 1) := by decide +kernel
theorem dX4_letIn_104 : decode cX4_letIn 104 = .ok (.iastore, 1) := by decide +kernel
theorem dX4_letIn_105 : decode cX4_letIn 105 = .ok (.aload_n 0, 1) := by decide +kernel
theorem dX4_letIn_106 : decode cX4_letIn 106 = .ok (.getfield 18, 3) := by decide +kernel
theorem dX4_letIn_109 : decode cX4_letIn 109 = .ok (.iload_n 2, 1) := by decide +kernel
theorem dX4_letIn_110 : decode cX4_letIn 110 = .ok (.dup2, 1) := by decide +kernel
theorem dX4_letIn_111 : decode cX4_letIn 111 = .ok (.iaload, 1) := by decide +kernel
theorem dX4_letIn_112 : decode cX4_letIn 112 = .ok (.aload_n 0, 1) := by decide +kernel
theorem dX4_letIn_113 : decode cX4_letIn 113 = .ok (.getfield 46, 3) := by decide +kernel
theorem dX4_letIn_116 : decode cX4_letIn 116 = .ok (.getfield 71, 3) := by decide +kernel
theorem dX4_letIn_119 : decode cX4_letIn 119 = .ok (.iload 4, 2) := by decide +kernel
theorem dX4_letIn_121 : decode cX4_letIn 121 = .ok (.iaload, 1) := by decide +kernel
theorem dX4_letIn_122 : decode cX4_letIn 122 = .ok (.iadd, 1) := by decide +kernel
theorem dX4_letIn_123 : decode cX4_letIn 123 = .ok (.iastore, 1) := by decide +kernel
theorem dX4_letIn_124 : decode cX4_letIn 124 = .ok (.goto 16, 3) := by decide +kernel
theorem dX4_letIn_127 : decode cX4_letIn 127 = .ok (.aload_n 0, 1) := by decide +kernel
theorem dX4_letIn_128 : decode cX4_letIn 128 = .ok (.getfield 33, 3) := by decide +kernel
theorem dX4_letIn_131 : decode cX4_letIn 131 = .ok (.iload_n 2, 1) := by decide +kernel
theorem dX4_letIn_132 : decode cX4_letIn 132 = .ok (.dup2, 1) := by decide +kernel
theorem dX4_letIn_133 : decode cX4_letIn 133 = .ok (.iaload, 1) := by decide +kernel
theorem dX4_letIn_134 : decode cX4_letIn 134 = .ok (.iconst 1, 1) := by decide +kernel
theorem dX4_letIn_135 : decode cX4_letIn 135 = .ok (.iload 4, 2) := by decide +kernel
theorem dX4_letIn_137 : decode cX4_letIn 137 = .ok (.ishl, 1) := by decide +kernel
theorem dX4_letIn_138 : decode cX4_letIn 138 = .ok (.ior, 1) := by decide +kernel
theorem dX4_letIn_139 : decode cX4_letIn 139 = .ok (.iastore, 1) := by decide +kernel
theorem dX4_letIn_140 : decode cX4_letIn 140 = .ok (.iinc 4 1, 3) := by decide +kernel
theorem dX4_letIn_143 : decode cX4_letIn 143 = .ok (.goto (-102), 3) := by decide +kernel
theorem dX4_letIn_146 : decode cX4_letIn 146 = .ok (.return_, 1) := by decide +kernel
theorem dX4_addRow_0 : decode cX4_addRow 0 = .ok (.aload_n 0, 1) := by decide +kernel
theorem dX4_addRow_1 : decode cX4_addRow 1 = .ok (.getfield 36, 3) := by decide +kernel
theorem dX4_addRow_4 : decode cX4_addRow 4 = .ok (.istore_n 3, 1) := by decide +kernel
theorem dX4_addRow_5 : decode cX4_addRow 5 = .ok (.aload_n 0, 1) := by decide +kernel
theorem dX4_addRow_6 : decode cX4_addRow 6 = .ok (.getfield 36, 3) := by decide +kernel
theorem dX4_addRow_9 : decode cX4_addRow 9 = .ok (.iconst 1, 1) := by decide +kernel
theorem dX4_addRow_10 : decode cX4_addRow 10 = .ok (.isub, 1) := by decide +kernel
theorem dX4_addRow_11 : decode cX4_addRow 11 = .ok (.istore 4, 2) := by decide +kernel
theorem dX4_addRow_13 : decode cX4_addRow 13 = .ok (.aload_n 0, 1) := by decide +kernel
theorem dX4_addRow_14 : decode cX4_addRow 14 = .ok (.getfield 11, 3) := by decide +kernel
theorem dX4_addRow_17 : decode cX4_addRow 17 = .ok (.iload_n 3, 1) := by decide +kernel
theorem dX4_addRow_18 : decode cX4_addRow 18 = .ok (.iload_n 1, 1) := by decide +kernel
theorem dX4_addRow_19 : decode cX4_addRow 19 = .ok (.iastore, 1) := by decide +kernel
theorem dX4_addRow_20 : decode cX4_addRow 20 = .ok (.aload_n 0, 1) := by decide +kernel
theorem dX4_addRow_21 : decode cX4_addRow 21 = .ok (.getfield 15, 3) := by decide +kernel
theorem dX4_addRow_24 : decode cX4_addRow 24 = .ok (.iload_n 3, 1) := by decide +kernel
theorem dX4_addRow_25 : decode cX4_addRow 25 = .ok (.iload_n 2, 1) := by decide +kernel
theorem dX4_addRow_26 : decode cX4_addRow 26 = .ok (.iastore, 1) := by decide +kernel
theorem dX4_addRow_27 : decode cX4_addRow 27 = .ok (.aload_n 0, 1) := by decide +kernel
theorem dX4_addRow_28 : decode cX4_addRow 28 = .ok (.getfield 18, 3) := by decide +kernel
theorem dX4_addRow_31 : decode cX4_addRow 31 = .ok (.iload_n 3, 1) := by decide +kernel
theorem dX4_addRow_32 : decode cX4_addRow 32 = .ok (.aload_n 0, 1) := by decide +kernel
theorem dX4_addRow_33 : decode cX4_addRow 33 = .ok (.getfield 18, 3) := by decide +kernel
theorem dX4_addRow_36 : decode cX4_addRow 36 = .ok (.iload 4, 2) := by decide +kernel
theorem dX4_addRow_38 : decode cX4_addRow 38 = .ok (.iaload, 1) := by decide +kernel
theorem dX4_addRow_39 : decode cX4_addRow 39 = .ok (.iastore, 1) := by decide +kernel
theorem dX4_addRow_40 : decode cX4_addRow 40 = .ok (.aload_n 0, 1) := by decide +kernel
theorem dX4_addRow_41 : decode cX4_addRow 41 = .ok (.getfield 21, 3) := by decide +kernel
theorem dX4_addRow_44 : decode cX4_addRow 44 = .ok (.iload_n 3, 1) := by decide +kernel
theorem dX4_addRow_45 : decode cX4_addRow 45 = .ok (.aload_n 0, 1) := by decide +kernel
theorem dX4_addRow_46 : decode cX4_addRow 46 = .ok (.getfield 21, 3) := by decide +kernel
theorem dX4_addRow_49 : decode cX4_addRow 49 = .ok (.iload 4, 2) := by decide +kernel
theorem dX4_addRow_51 : decode cX4_addRow 51 = .ok (.iaload, 1) := by decide +kernel
theorem dX4_addRow_52 : decode cX4_addRow 52 = .ok (.iastore, 1) := by decide +kernel
theorem dX4_addRow_53 : decode cX4_addRow 53 = .ok (.aload_n 0, 1) := by decide +kernel
theorem dX4_addRow_54 : decode cX4_addRow 54 = .ok (.getfield 24, 3) := by decide +kernel
theorem dX4_addRow_57 : decode cX4_addRow 57 = .ok (.iload_n 3, 1) := by decide +kernel
theorem dX4_addRow_58 : decode cX4_addRow 58 = .ok (.aload_n 0, 1) := by decide +kernel
theorem dX4_addRow_59 : decode cX4_addRow 59 = .ok (.getfield 24, 3) := by decide +kernel
theorem dX4_addRow_62 : decode cX4_addRow 62 = .ok (.iload 4, 2) := by decide +kernel
theorem dX4_addRow_64 : decode cX4_addRow 64 = .ok (.iaload, 1) := by decide +kernel
theorem dX4_addRow_65 : decode cX4_addRow 65 = .ok (.iastore, 1) := by decide +kernel
theorem dX4_addRow_66 : decode cX4_addRow 66 = .ok (.aload_n 0, 1) := by decide +kernel
theorem dX4_addRow_67 : decode cX4_addRow 67 = .ok (.getfield 27, 3) := by decide +kernel
theorem dX4_addRow_70 : decode cX4_addRow 70 = .ok (.iload_n 3, 1) := by decide +kernel
theorem dX4_addRow_71 : decode cX4_addRow 71 = .ok (.aload_n 0, 1) := by decide +kernel
theorem dX4_addRow_72 : decode cX4_addRow 72 = .ok (.getfield 27, 3) := by decide +kernel
theorem dX4_addRow_75 : decode cX4_addRow 75 = .ok (.iload 4, 2) := by decide +kernel
theorem dX4_addRow_77 : decode cX4_addRow 77 = .ok (.iaload, 1) := by decide +kernel
theorem dX4_addRow_78 : decode cX4_addRow 78 = .ok (.iastore, 1) := by decide +kernel
theorem dX4_addRow_79 : decode cX4_addRow 79 = .ok (.aload_n 0, 1) := by decide +kernel
theorem dX4_addRow_80 : decode cX4_addRow 80 = .ok (.getfield 30, 3) := by decide +kernel
theorem dX4_addRow_83 : decode cX4_addRow 83 = .ok (.iload_n 3, 1) := by decide +kernel
theorem dX4_addRow_84 : decode cX4_addRow 84 = .ok (.aload_n 0, 1) := by decide +kernel
theorem dX4_addRow_85 : decode cX4_addRow 85 = .ok (.getfield 30, 3) := by decide +kernel
theorem dX4_addRow_88 : decode cX4_addRow 88 = .ok (.iload 4, 2) := by decide +kernel
theorem dX4_addRow_90 : decode cX4_addRow 90 = .ok (.iaload, 1) := by decide +kernel
theorem dX4_addRow_91 : decode cX4_addRow 91 = .ok (.iastore, 1) := by decide +kernel
theorem dX4_addRow_92 : decode cX4_addRow 92 = .ok (.aload_n 0, 1) := by decide +kernel
theorem dX4_addRow_93 : decode cX4_addRow 93 = .ok (.getfield 33, 3) := by decide +kernel
theorem dX4_addRow_96 : decode cX4_addRow 96 = .ok (.iload_n 3, 1) := by decide +kernel
theorem dX4_addRow_97 : decode cX4_addRow 97 = .ok (.iconst 0, 1) := by decide +kernel
theorem dX4_addRow_98 : decode cX4_addRow 98 = .ok (.iastore, 1) := by decide +kernel
theorem dX4_addRow_99 : decode cX4_addRow 99 = .ok (.aload_n 0, 1) := by decide +kernel
theorem dX4_addRow_100 : decode cX4_addRow 100 = .ok (.dup, 1) := by decide +kernel
theorem dX4_addRow_101 : decode cX4_addRow 101 = .ok (.getfield 36, 3) := by decide +kernel
theorem dX4_addRow_104 : decode cX4_addRow 104 = .ok (.iconst 1, 1) := by decide +kernel
theorem dX4_addRow_105 : decode cX4_addRow 105 = .ok (.iadd, 1) := by decide +kernel
theorem dX4_addRow_106 : decode cX4_addRow 106 = .ok (.putfield 36, 3) := by decide +kernel
theorem dX4_addRow_109 : decode cX4_addRow 109 = .ok (.return_, 1) := by decide +kernel
theorem dX4_rowBehind_0 : decode cX4_rowBehind 0 = .ok (.aload_n 0, 1) := by decide +kernel
theorem dX4_rowBehind_1 : decode cX4_rowBehind 1 = .ok (.getfield 36, 3) := by decide +kernel
theorem dX4_rowBehind_4 : decode cX4_rowBehind 4 = .ok (.iconst 1, 1) := by decide +kernel
theorem dX4_rowBehind_5 : decode cX4_rowBehind 5 = .ok (.isub, 1) := by decide +kernel
theorem dX4_rowBehind_6 : decode cX4_rowBehind 6 = .ok (.istore_n 2, 1) := by decide +kernel
theorem dX4_rowBehind_7 : decode cX4_rowBehind 7 = .ok (.iload_n 2, 1) := by decide +kernel
theorem dX4_rowBehind_8 : decode cX4_rowBehind 8 = .ok (.ifCond .le 21, 3) := by decide +kernel
theorem dX4_rowBehind_11 : decode cX4_rowBehind 11 = .ok (.aload_n 0, 1) := by decide +kernel
theorem dX4_rowBehind_12 : decode cX4_rowBehind 12 = .ok (.getfield 11, 3) := by decide +kernel
theorem dX4_rowBehind_15 : decode cX4_rowBehind 15 = .ok (.iload_n 2, 1) := by decide +kernel
theorem dX4_rowBehind_16 : decode cX4_rowBehind 16 = .ok (.iaload, 1) := by decide +kernel
theorem dX4_rowBehind_17 : decode cX4_rowBehind 17 = .ok (.iload_n 1, 1) := by decide +kernel
theorem dX4_rowBehind_18 : decode cX4_rowBehind 18 = .ok (.if_icmp .gt 5, 3) := by decide +kernel
theorem dX4_rowBehind_21 : decode cX4_rowBehind 21 = .ok (.iload_n 2, 1) := by decide +kernel
theorem dX4_rowBehind_22 : decode cX4_rowBehind 22 = .ok (.ireturn, 1) := by decide +kernel
theorem dX4_rowBehind_23 : decode cX4_rowBehind 23 = .ok (.iinc 2 (-1), 3) := by decide +kernel
theorem dX4_rowBehind_26 : decode cX4_rowBehind 26 = .ok (.goto (-19), 3) := by decide +kernel
theorem dX4_rowBehind_29 : decode cX4_rowBehind 29 = .ok (.iconst 0, 1) := by decide +kernel
theorem dX4_rowBehind_30 : decode cX4_rowBehind 30 = .ok (.ireturn, 1) := by decide +kernel
theorem dX4_tell_0 : decode cX4_tell 0 = .ok (.aload_n 0, 1) := by decide +kernel
theorem dX4_tell_1 : decode cX4_tell 1 = .ok (.iload_n 1, 1) := by decide +kernel
theorem dX4_tell_2 : decode cX4_tell 2 = .ok (.invokevirtual 122, 3) := by decide +kernel
theorem dX4_tell_5 : decode cX4_tell 5 = .ok (.istore_n 3, 1) := by decide +kernel
theorem dX4_tell_6 : decode cX4_tell 6 = .ok (.iload_n 2, 1) := by decide +kernel
theorem dX4_tell_7 : decode cX4_tell 7 = .ok (.tableswitch 46 0 2 #[25, 32, 39], 25) := by decide +kernel
theorem dX4_tell_32 : decode cX4_tell 32 = .ok (.aload_n 0, 1) := by decide +kernel
theorem dX4_tell_33 : decode cX4_tell 33 = .ok (.iload_n 1, 1) := by decide +kernel
theorem dX4_tell_34 : decode cX4_tell 34 = .ok (.iload_n 3, 1) := by decide +kernel
theorem dX4_tell_35 : decode cX4_tell 35 = .ok (.invokevirtual 125, 3) := by decide +kernel
theorem dX4_tell_38 : decode cX4_tell 38 = .ok (.ireturn, 1) := by decide +kernel
theorem dX4_tell_39 : decode cX4_tell 39 = .ok (.aload_n 0, 1) := by decide +kernel
theorem dX4_tell_40 : decode cX4_tell 40 = .ok (.getfield 18, 3) := by decide +kernel
theorem dX4_tell_43 : decode cX4_tell 43 = .ok (.iload_n 3, 1) := by decide +kernel
theorem dX4_tell_44 : decode cX4_tell 44 = .ok (.iaload, 1) := by decide +kernel
theorem dX4_tell_45 : decode cX4_tell 45 = .ok (.ireturn, 1) := by decide +kernel
theorem dX4_tell_46 : decode cX4_tell 46 = .ok (.aload_n 0, 1) := by decide +kernel
theorem dX4_tell_47 : decode cX4_tell 47 = .ok (.getfield 21, 3) := by decide +kernel
theorem dX4_tell_50 : decode cX4_tell 50 = .ok (.iload_n 3, 1) := by decide +kernel
theorem dX4_tell_51 : decode cX4_tell 51 = .ok (.iaload, 1) := by decide +kernel
theorem dX4_tell_52 : decode cX4_tell 52 = .ok (.ireturn, 1) := by decide +kernel
theorem dX4_tell_53 : decode cX4_tell 53 = .ok (.aload_n 0, 1) := by decide +kernel
theorem dX4_tell_54 : decode cX4_tell 54 = .ok (.getfield 24, 3) := by decide +kernel
theorem dX4_tell_57 : decode cX4_tell 57 = .ok (.iload_n 3, 1) := by decide +kernel
theorem dX4_tell_58 : decode cX4_tell 58 = .ok (.iaload, 1) := by decide +kernel
theorem dX4_tell_59 : decode cX4_tell 59 = .ok (.ireturn, 1) := by decide +kernel
theorem dX4_placeBehind_0 : decode cX4_placeBehind 0 = .ok (.iload_n 1, 1) := by decide +kernel
theorem dX4_placeBehind_1 : decode cX4_placeBehind 1 = .ok (.aload_n 0, 1) := by decide +kernel
theorem dX4_placeBehind_2 : decode cX4_placeBehind 2 = .ok (.getfield 11, 3) := by decide +kernel
theorem dX4_placeBehind_5 : decode cX4_placeBehind 5 = .ok (.iload_n 2, 1) := by decide +kernel
theorem dX4_placeBehind_6 : decode cX4_placeBehind 6 = .ok (.iaload, 1) := by decide +kernel
theorem dX4_placeBehind_7 : decode cX4_placeBehind 7 = .ok (.isub, 1) := by decide +kernel
theorem dX4_placeBehind_8 : decode cX4_placeBehind 8 = .ok (.istore_n 3, 1) := by decide +kernel
theorem dX4_placeBehind_9 : decode cX4_placeBehind 9 = .ok (.iload_n 3, 1) := by decide +kernel
theorem dX4_placeBehind_10 : decode cX4_placeBehind 10 = .ok (.ifCond .eq 13, 3) := by decide +kernel
theorem dX4_placeBehind_13 : decode cX4_placeBehind 13 = .ok (.iload_n 2, 1) := by decide +kernel
theorem dX4_placeBehind_14 : decode cX4_placeBehind 14 = .ok (.iconst 1, 1) := by decide +kernel
theorem dX4_placeBehind_15 : decode cX4_placeBehind 15 = .ok (.iadd, 1) := by decide +kernel
theorem dX4_placeBehind_16 : decode cX4_placeBehind 16 = .ok (.aload_n 0, 1) := by decide +kernel
theorem dX4_placeBehind_17 : decode cX4_placeBehind 17 = .ok (.getfield 36, 3) := by decide +kernel
theorem dX4_placeBehind_20 : decode cX4_placeBehind 20 = .ok (.if_icmp .lt 10, 3) := by decide +kernel
theorem dX4_placeBehind_23 : decode cX4_placeBehind 23 = .ok (.aload_n 0, 1) := by decide +kernel
theorem dX4_placeBehind_24 : decode cX4_placeBehind 24 = .ok (.getfield 15, 3) := by decide +kernel
theorem dX4_placeBehind_27 : decode cX4_placeBehind 27 = .ok (.iload_n 2, 1) := by decide +kernel
theorem dX4_placeBehind_28 : decode cX4_placeBehind 28 = .ok (.iaload, 1) := by decide +kernel
theorem dX4_placeBehind_29 : decode cX4_placeBehind 29 = .ok (.ireturn, 1) := by decide +kernel
theorem dX4_placeBehind_30 : decode cX4_placeBehind 30 = .ok (.aload_n 0, 1) := by decide +kernel
theorem dX4_placeBehind_31 : decode cX4_placeBehind 31 = .ok (.getfield 15, 3) := by decide +kernel
theorem dX4_placeBehind_34 : decode cX4_placeBehind 34 = .ok (.iload_n 2, 1) := by decide +kernel
theorem dX4_placeBehind_35 : decode cX4_placeBehind 35 = .ok (.iconst 1, 1) := by decide +kernel
theorem dX4_placeBehind_36 : decode cX4_placeBehind 36 = .ok (.iadd, 1) := by decide +kernel
theorem dX4_placeBehind_37 : decode cX4_placeBehind 37 = .ok (.iaload, 1) := by decide +kernel
theorem dX4_placeBehind_38 : decode cX4_placeBehind 38 = .ok (.aload_n 0, 1) := by decide +kernel
theorem dX4_placeBehind_39 : decode cX4_placeBehind 39 = .ok (.getfield 15, 3) := by decide +kernel
theorem dX4_placeBehind_42 : decode cX4_placeBehind 42 = .ok (.iload_n 2, 1) := by decide +kernel
theorem dX4_placeBehind_43 : decode cX4_placeBehind 43 = .ok (.iaload, 1) := by decide +kernel
theorem dX4_placeBehind_44 : decode cX4_placeBehind 44 = .ok (.if_icmp .le 7, 3) := by decide +kernel
theorem dX4_placeBehind_47 : decode cX4_placeBehind 47 = .ok (.iconst 1, 1) := by decide +kernel
theorem dX4_placeBehind_48 : decode cX4_placeBehind 48 = .ok (.goto 4, 3) := by decide +kernel
theorem dX4_placeBehind_51 : decode cX4_placeBehind 51 = .ok (.iconst (-1), 1) := by decide +kernel
theorem dX4_placeBehind_52 : decode cX4_placeBehind 52 = .ok (.istore 4, 2) := by decide +kernel
theorem dX4_placeBehind_54 : decode cX4_placeBehind 54 = .ok (.aload_n 0, 1) := by decide +kernel
theorem dX4_placeBehind_55 : decode cX4_placeBehind 55 = .ok (.getfield 15, 3) := by decide +kernel
theorem dX4_placeBehind_58 : decode cX4_placeBehind 58 = .ok (.iload_n 2, 1) := by decide +kernel
theorem dX4_placeBehind_59 : decode cX4_placeBehind 59 = .ok (.iaload, 1) := by decide +kernel
theorem dX4_placeBehind_60 : decode cX4_placeBehind 60 = .ok (.iconst 2, 1) := by decide +kernel
theorem dX4_placeBehind_61 : decode cX4_placeBehind 61 = .ok (.irem, 1) := by decide +kernel
theorem dX4_placeBehind_62 : decode cX4_placeBehind 62 = .ok (.ifCond .ne 7, 3) := by decide +kernel
theorem dX4_placeBehind_65 : decode cX4_placeBehind 65 = .ok (.iconst 2, 1) := by decide +kernel
theorem dX4_placeBehind_66 : decode cX4_placeBehind 66 = .ok (.goto 4, 3) := by decide +kernel
theorem dX4_placeBehind_69 : decode cX4_placeBehind 69 = .ok (.iconst 1, 1) := by decide +kernel
theorem dX4_placeBehind_70 : decode cX4_placeBehind 70 = .ok (.istore 5, 2) := by decide +kernel
theorem dX4_placeBehind_72 : decode cX4_placeBehind 72 = .ok (.aload_n 0, 1) := by decide +kernel
theorem dX4_placeBehind_73 : decode cX4_placeBehind 73 = .ok (.getfield 15, 3) := by decide +kernel
theorem dX4_placeBehind_76 : decode cX4_placeBehind 76 = .ok (.iload_n 2, 1) := by decide +kernel
theorem dX4_placeBehind_77 : decode cX4_placeBehind 77 = .ok (.iaload, 1) := by decide +kernel
theorem dX4_placeBehind_78 : decode cX4_placeBehind 78 = .ok (.iload 4, 2) := by decide +kernel
theorem dX4_placeBehind_80 : decode cX4_placeBehind 80 = .ok (.iload 5, 2) := by decide +kernel
theorem dX4_placeBehind_82 : decode cX4_placeBehind 82 = .ok (.iconst 2, 1) := by decide +kernel
theorem dX4_placeBehind_83 : decode cX4_placeBehind 83 = .ok (.iload_n 3, 1) := by decide +kernel
theorem dX4_placeBehind_84 : decode cX4_placeBehind 84 = .ok (.iconst 1, 1) := by decide +kernel
theorem dX4_placeBehind_85 : decode cX4_placeBehind 85 = .ok (.isub, 1) := by decide +kernel
theorem dX4_placeBehind_86 : decode cX4_placeBehind 86 = .ok (.imul, 1) := by decide +kernel
theorem dX4_placeBehind_87 : decode cX4_placeBehind 87 = .ok (.iadd, 1) := by decide +kernel
theorem dX4_placeBehind_88 : decode cX4_placeBehind 88 = .ok (.imul, 1) := by decide +kernel
theorem dX4_placeBehind_89 : decode cX4_placeBehind 89 = .ok (.iadd, 1) := by decide +kernel
theorem dX4_placeBehind_90 : decode cX4_placeBehind 90 = .ok (.ireturn, 1) := by decide +kernel
theorem dX4_endsBehind_0 : decode cX4_endsBehind 0 = .ok (.aload_n 0, 1) := by decide +kernel
theorem dX4_endsBehind_1 : decode cX4_endsBehind 1 = .ok (.getfield 11, 3) := by decide +kernel
theorem dX4_endsBehind_4 : decode cX4_endsBehind 4 = .ok (.aload_n 0, 1) := by decide +kernel
theorem dX4_endsBehind_5 : decode cX4_endsBehind 5 = .ok (.getfield 36, 3) := by decide +kernel
theorem dX4_endsBehind_8 : decode cX4_endsBehind 8 = .ok (.iconst 1, 1) := by decide +kernel
theorem dX4_endsBehind_9 : decode cX4_endsBehind 9 = .ok (.isub, 1) := by decide +kernel
theorem dX4_endsBehind_10 : decode cX4_endsBehind 10 = .ok (.iaload, 1) := by decide +kernel
theorem dX4_endsBehind_11 : decode cX4_endsBehind 11 = .ok (.ireturn, 1) := by decide +kernel
theorem dX4_howManyArrived_0 : decode cX4_howManyArrived 0 = .ok (.aload_n 0, 1) := by decide +kernel
theorem dX4_howManyArrived_1 : decode cX4_howManyArrived 1 = .ok (.getfield 30, 3) := by decide +kernel
theorem dX4_howManyArrived_4 : decode cX4_howManyArrived 4 = .ok (.aload_n 0, 1) := by decide +kernel
theorem dX4_howManyArrived_5 : decode cX4_howManyArrived 5 = .ok (.getfield 36, 3) := by decide +kernel
theorem dX4_howManyArrived_8 : decode cX4_howManyArrived 8 = .ok (.iconst 1, 1) := by decide +kernel
theorem dX4_howManyArrived_9 : decode cX4_howManyArrived 9 = .ok (.isub, 1) := by decide +kernel
theorem dX4_howManyArrived_10 : decode cX4_howManyArrived 10 = .ok (.iaload, 1) := by decide +kernel
theorem dX4_howManyArrived_11 : decode cX4_howManyArrived 11 = .ok (.invokestatic 128, 3) := by decide +kernel
theorem dX4_howManyArrived_14 : decode cX4_howManyArrived 14 = .ok (.ireturn, 1) := by decide +kernel
theorem dX4_allArrived_0 : decode cX4_allArrived 0 = .ok (.aload_n 0, 1) := by decide +kernel
theorem dX4_allArrived_1 : decode cX4_allArrived 1 = .ok (.invokevirtual 133, 3) := by decide +kernel
theorem dX4_allArrived_4 : decode cX4_allArrived 4 = .ok (.aload_n 0, 1) := by decide +kernel
theorem dX4_allArrived_5 : decode cX4_allArrived 5 = .ok (.getfield 46, 3) := by decide +kernel
theorem dX4_allArrived_8 : decode cX4_allArrived 8 = .ok (.getfield 69, 3) := by decide +kernel
theorem dX4_allArrived_11 : decode cX4_allArrived 11 = .ok (.if_icmp .ne 7, 3) := by decide +kernel
theorem dX4_allArrived_14 : decode cX4_allArrived 14 = .ok (.iconst 1, 1) := by decide +kernel
theorem dX4_allArrived_15 : decode cX4_allArrived 15 = .ok (.goto 4, 3) := by decide +kernel
theorem dX4_allArrived_18 : decode cX4_allArrived 18 = .ok (.iconst 0, 1) := by decide +kernel
theorem dX4_allArrived_19 : decode cX4_allArrived 19 = .ok (.ireturn, 1) := by decide +kernel
theorem dX4_getsInBehind_0 : decode cX4_getsInBehind 0 = .ok (.iconst 0, 1) := by decide +kernel
theorem dX4_getsInBehind_1 : decode cX4_getsInBehind 1 = .ok (.istore_n 2, 1) := by decide +kernel
theorem dX4_getsInBehind_2 : decode cX4_getsInBehind 2 = .ok (.iload_n 2, 1) := by decide +kernel
theorem dX4_getsInBehind_3 : decode cX4_getsInBehind 3 = .ok (.aload_n 0, 1) := by decide +kernel
theorem dX4_getsInBehind_4 : decode cX4_getsInBehind 4 = .ok (.getfield 36, 3) := by decide +kernel
theorem dX4_getsInBehind_7 : decode cX4_getsInBehind 7 = .ok (.if_icmp .ge 29, 3) := by decide +kernel
theorem dX4_getsInBehind_10 : decode cX4_getsInBehind 10 = .ok (.aload_n 0, 1) := by decide +kernel
theorem dX4_getsInBehind_11 : decode cX4_getsInBehind 11 = .ok (.getfield 21, 3) := by decide +kernel
theorem dX4_getsInBehind_14 : decode cX4_getsInBehind 14 = .ok (.iload_n 2, 1) := by decide +kernel
theorem dX4_getsInBehind_15 : decode cX4_getsInBehind 15 = .ok (.iaload, 1) := by decide +kernel
theorem dX4_getsInBehind_16 : decode cX4_getsInBehind 16 = .ok (.iload_n 1, 1) := by decide +kernel
theorem dX4_getsInBehind_17 : decode cX4_getsInBehind 17 = .ok (.invokestatic 58, 3) := by decide +kernel
theorem dX4_getsInBehind_20 : decode cX4_getsInBehind 20 = .ok (.ifCond .eq 10, 3) := by decide +kernel
theorem dX4_getsInBehind_23 : decode cX4_getsInBehind 23 = .ok (.aload_n 0, 1) := by decide +kernel
theorem dX4_getsInBehind_24 : decode cX4_getsInBehind 24 = .ok (.getfield 11, 3) := by decide +kernel
theorem dX4_getsInBehind_27 : decode cX4_getsInBehind 27 = .ok (.iload_n 2, 1) := by decide +kernel
theorem dX4_getsInBehind_28 : decode cX4_getsInBehind 28 = .ok (.iaload, 1) := by decide +kernel
theorem dX4_getsInBehind_29 : decode cX4_getsInBehind 29 = .ok (.ireturn, 1) := by decide +kernel
theorem dX4_getsInBehind_30 : decode cX4_getsInBehind 30 = .ok (.iinc 2 1, 3) := by decide +kernel
theorem dX4_getsInBehind_33 : decode cX4_getsInBehind 33 = .ok (.goto (-31), 3) := by decide +kernel
theorem dX4_getsInBehind_36 : decode cX4_getsInBehind 36 = .ok (.iconst (-1), 1) := by decide +kernel
theorem dX4_getsInBehind_37 : decode cX4_getsInBehind 37 = .ok (.ireturn, 1) := by decide +kernel
theorem dX4_arrivesBehind_0 : decode cX4_arrivesBehind 0 = .ok (.iconst 0, 1) := by decide +kernel
theorem dX4_arrivesBehind_1 : decode cX4_arrivesBehind 1 = .ok (.istore_n 2, 1) := by decide +kernel
theorem dX4_arrivesBehind_2 : decode cX4_arrivesBehind 2 = .ok (.iload_n 2, 1) := by decide +kernel
theorem dX4_arrivesBehind_3 : decode cX4_arrivesBehind 3 = .ok (.aload_n 0, 1) := by decide +kernel
theorem dX4_arrivesBehind_4 : decode cX4_arrivesBehind 4 = .ok (.getfield 36, 3) := by decide +kernel
theorem dX4_arrivesBehind_7 : decode cX4_arrivesBehind 7 = .ok (.if_icmp .ge 29, 3) := by decide +kernel
theorem dX4_arrivesBehind_10 : decode cX4_arrivesBehind 10 = .ok (.aload_n 0, 1) := by decide +kernel
theorem dX4_arrivesBehind_11 : decode cX4_arrivesBehind 11 = .ok (.getfield 30, 3) := by decide +kernel
theorem dX4_arrivesBehind_14 : decode cX4_arrivesBehind 14 = .ok (.iload_n 2, 1) := by decide +kernel
theorem dX4_arrivesBehind_15 : decode cX4_arrivesBehind 15 = .ok (.iaload, 1) := by decide +kernel
theorem dX4_arrivesBehind_16 : decode cX4_arrivesBehind 16 = .ok (.iload_n 1, 1) := by decide +kernel
theorem dX4_arrivesBehind_17 : decode cX4_arrivesBehind 17 = .ok (.invokestatic 58, 3) := by decide +kernel
theorem dX4_arrivesBehind_20 : decode cX4_arrivesBehind 20 = .ok (.ifCond .eq 10, 3) := by decide +kernel
theorem dX4_arrivesBehind_23 : decode cX4_arrivesBehind 23 = .ok (.aload_n 0, 1) := by decide +kernel
theorem dX4_arrivesBehind_24 : decode cX4_arrivesBehind 24 = .ok (.getfield 11, 3) := by decide +kernel
theorem dX4_arrivesBehind_27 : decode cX4_arrivesBehind 27 = .ok (.iload_n 2, 1) := by decide +kernel
theorem dX4_arrivesBehind_28 : decode cX4_arrivesBehind 28 = .ok (.iaload, 1) := by decide +kernel
theorem dX4_arrivesBehind_29 : decode cX4_arrivesBehind 29 = .ok (.ireturn, 1) := by decide +kernel
theorem dX4_arrivesBehind_30 : decode cX4_arrivesBehind 30 = .ok (.iinc 2 1, 3) := by decide +kernel
theorem dX4_arrivesBehind_33 : decode cX4_arrivesBehind 33 = .ok (.goto (-31), 3) := by decide +kernel
theorem dX4_arrivesBehind_36 : decode cX4_arrivesBehind 36 = .ok (.iconst (-1), 1) := by decide +kernel
theorem dX4_arrivesBehind_37 : decode cX4_arrivesBehind 37 = .ok (.ireturn, 1) := by decide +kernel
theorem dX4_timesRefused_0 : decode cX4_timesRefused 0 = .ok (.iconst 0, 1) := by decide +kernel
theorem dX4_timesRefused_1 : decode cX4_timesRefused 1 = .ok (.istore_n 2, 1) := by decide +kernel
theorem dX4_timesRefused_2 : decode cX4_timesRefused 2 = .ok (.iconst 0, 1) := by decide +kernel
theorem dX4_timesRefused_3 : decode cX4_timesRefused 3 = .ok (.istore_n 3, 1) := by decide +kernel
theorem dX4_timesRefused_4 : decode cX4_timesRefused 4 = .ok (.iload_n 3, 1) := by decide +kernel
theorem dX4_timesRefused_5 : decode cX4_timesRefused 5 = .ok (.aload_n 0, 1) := by decide +kernel
theorem dX4_timesRefused_6 : decode cX4_timesRefused 6 = .ok (.getfield 36, 3) := by decide +kernel
theorem dX4_timesRefused_9 : decode cX4_timesRefused 9 = .ok (.if_icmp .ge 22, 3) := by decide +kernel
theorem dX4_timesRefused_12 : decode cX4_timesRefused 12 = .ok (.iload_n 2, 1) := by decide +kernel
theorem dX4_timesRefused_13 : decode cX4_timesRefused 13 = .ok (.aload_n 0, 1) := by decide +kernel
theorem dX4_timesRefused_14 : decode cX4_timesRefused 14 = .ok (.getfield 33, 3) := by decide +kernel
theorem dX4_timesRefused_17 : decode cX4_timesRefused 17 = .ok (.iload_n 3, 1) := by decide +kernel
theorem dX4_timesRefused_18 : decode cX4_timesRefused 18 = .ok (.iaload, 1) := by decide +kernel
theorem dX4_timesRefused_19 : decode cX4_timesRefused 19 = .ok (.iload_n 1, 1) := by decide +kernel
theorem dX4_timesRefused_20 : decode cX4_timesRefused 20 = .ok (.ishr, 1) := by decide +kernel
theorem dX4_timesRefused_21 : decode cX4_timesRefused 21 = .ok (.iconst 1, 1) := by decide +kernel
theorem dX4_timesRefused_22 : decode cX4_timesRefused 22 = .ok (.iand, 1) := by decide +kernel
theorem dX4_timesRefused_23 : decode cX4_timesRefused 23 = .ok (.iadd, 1) := by decide +kernel
theorem dX4_timesRefused_24 : decode cX4_timesRefused 24 = .ok (.istore_n 2, 1) := by decide +kernel
theorem dX4_timesRefused_25 : decode cX4_timesRefused 25 = .ok (.iinc 3 1, 3) := by decide +kernel
theorem dX4_timesRefused_28 : decode cX4_timesRefused 28 = .ok (.goto (-24), 3) := by decide +kernel
theorem dX4_timesRefused_31 : decode cX4_timesRefused 31 = .ok (.iload_n 2, 1) := by decide +kernel
theorem dX4_timesRefused_32 : decode cX4_timesRefused 32 = .ok (.ireturn, 1) := by decide +kernel
theorem dX4_refusesInRow_0 : decode cX4_refusesInRow 0 = .ok (.iconst 0, 1) := by decide +kernel
theorem dX4_refusesInRow_1 : decode cX4_refusesInRow 1 = .ok (.istore_n 1, 1) := by decide +kernel
theorem dX4_refusesInRow_2 : decode cX4_refusesInRow 2 = .ok (.iload_n 1, 1) := by decide +kernel
theorem dX4_refusesInRow_3 : decode cX4_refusesInRow 3 = .ok (.aload_n 0, 1) := by decide +kernel
theorem dX4_refusesInRow_4 : decode cX4_refusesInRow 4 = .ok (.getfield 36, 3) := by decide +kernel
theorem dX4_refusesInRow_7 : decode cX4_refusesInRow 7 = .ok (.if_icmp .ge 20, 3) := by decide +kernel
theorem dX4_refusesInRow_10 : decode cX4_refusesInRow 10 = .ok (.aload_n 0, 1) := by decide +kernel
theorem dX4_refusesInRow_11 : decode cX4_refusesInRow 11 = .ok (.getfield 33, 3) := by decide +kernel
theorem dX4_refusesInRow_14 : decode cX4_refusesInRow 14 = .ok (.iload_n 1, 1) := by decide +kernel
theorem dX4_refusesInRow_15 : decode cX4_refusesInRow 15 = .ok (.iaload, 1) := by decide +kernel
theorem dX4_refusesInRow_16 : decode cX4_refusesInRow 16 = .ok (.ifCond .eq 5, 3) := by decide +kernel
theorem dX4_refusesInRow_19 : decode cX4_refusesInRow 19 = .ok (.iload_n 1, 1) := by decide +kernel
theorem dX4_refusesInRow_20 : decode cX4_refusesInRow 20 = .ok (.ireturn, 1) := by decide +kernel
theorem dX4_refusesInRow_21 : decode cX4_refusesInRow 21 = .ok (.iinc 1 1, 3) := by decide +kernel
theorem dX4_refusesInRow_24 : decode cX4_refusesInRow 24 = .ok (.goto (-22), 3) := by decide +kernel
theorem dX4_refusesInRow_27 : decode cX4_refusesInRow 27 = .ok (.iconst (-1), 1) := by decide +kernel
theorem dX4_refusesInRow_28 : decode cX4_refusesInRow 28 = .ok (.ireturn, 1) := by decide +kernel
theorem dX4_refusesBehind_0 : decode cX4_refusesBehind 0 = .ok (.aload_n 0, 1) := by decide +kernel
theorem dX4_refusesBehind_1 : decode cX4_refusesBehind 1 = .ok (.invokevirtual 137, 3) := by decide +kernel
theorem dX4_refusesBehind_4 : decode cX4_refusesBehind 4 = .ok (.istore_n 1, 1) := by decide +kernel
theorem dX4_refusesBehind_5 : decode cX4_refusesBehind 5 = .ok (.iload_n 1, 1) := by decide +kernel
theorem dX4_refusesBehind_6 : decode cX4_refusesBehind 6 = .ok (.ifCond .ge 7, 3) := by decide +kernel
theorem dX4_refusesBehind_9 : decode cX4_refusesBehind 9 = .ok (.iconst (-1), 1) := by decide +kernel
theorem dX4_refusesBehind_10 : decode cX4_refusesBehind 10 = .ok (.goto 9, 3) := by decide +kernel
theorem dX4_refusesBehind_13 : decode cX4_refusesBehind 13 = .ok (.aload_n 0, 1) := by decide +kernel
theorem dX4_refusesBehind_14 : decode cX4_refusesBehind 14 = .ok (.getfield 11, 3) := by decide +kernel
theorem dX4_refusesBehind_17 : decode cX4_refusesBehind 17 = .ok (.iload_n 1, 1) := by decide +kernel
theorem dX4_refusesBehind_18 : decode cX4_refusesBehind 18 = .ok (.iaload, 1) := by decide +kernel
theorem dX4_refusesBehind_19 : decode cX4_refusesBehind 19 = .ok (.ireturn, 1) := by decide +kernel
theorem dX4_refusesWhom_0 : decode cX4_refusesWhom 0 = .ok (.aload_n 0, 1) := by decide +kernel
theorem dX4_refusesWhom_1 : decode cX4_refusesWhom 1 = .ok (.invokevirtual 137, 3) := by decide +kernel
theorem dX4_refusesWhom_4 : decode cX4_refusesWhom 4 = .ok (.istore_n 1, 1) := by decide +kernel
theorem dX4_refusesWhom_5 : decode cX4_refusesWhom 5 = .ok (.iconst 0, 1) := by decide +kernel
theorem dX4_refusesWhom_6 : decode cX4_refusesWhom 6 = .ok (.istore_n 2, 1) := by decide +kernel
theorem dX4_refusesWhom_7 : decode cX4_refusesWhom 7 = .ok (.iload_n 1, 1) := by decide +kernel
theorem dX4_refusesWhom_8 : decode cX4_refusesWhom 8 = .ok (.ifCond .lt 30, 3) := by decide +kernel
theorem dX4_refusesWhom_11 : decode cX4_refusesWhom 11 = .ok (.iload_n 2, 1) := by decide +kernel
theorem dX4_refusesWhom_12 : decode cX4_refusesWhom 12 = .ok (.bipush 8, 2) := by decide +kernel
theorem dX4_refusesWhom_14 : decode cX4_refusesWhom 14 = .ok (.if_icmp .ge 24, 3) := by decide +kernel
theorem dX4_refusesWhom_17 : decode cX4_refusesWhom 17 = .ok (.aload_n 0, 1) := by decide +kernel
theorem dX4_refusesWhom_18 : decode cX4_refusesWhom 18 = .ok (.getfield 33, 3) := by decide +kernel
theorem dX4_refusesWhom_21 : decode cX4_refusesWhom 21 = .ok (.iload_n 1, 1) := by decide +kernel
theorem dX4_refusesWhom_22 : decode cX4_refusesWhom 22 = .ok (.iaload, 1) := by decide +kernel
theorem dX4_refusesWhom_23 : decode cX4_refusesWhom 23 = .ok (.iload_n 2, 1) := by decide +kernel
theorem dX4_refusesWhom_24 : decode cX4_refusesWhom 24 = .ok (.invokestatic 58, 3) := by decide +kernel
theorem dX4_refusesWhom_27 : decode cX4_refusesWhom 27 = .ok (.ifCond .eq 5, 3) := by decide +kernel
theorem dX4_refusesWhom_30 : decode cX4_refusesWhom 30 = .ok (.iload_n 2, 1) := by decide +kernel
theorem dX4_refusesWhom_31 : decode cX4_refusesWhom 31 = .ok (.ireturn, 1) := by decide +kernel
theorem dX4_refusesWhom_32 : decode cX4_refusesWhom 32 = .ok (.iinc 2 1, 3) := by decide +kernel
theorem dX4_refusesWhom_35 : decode cX4_refusesWhom 35 = .ok (.goto (-28), 3) := by decide +kernel
theorem dX4_refusesWhom_38 : decode cX4_refusesWhom 38 = .ok (.iconst (-1), 1) := by decide +kernel
theorem dX4_refusesWhom_39 : decode cX4_refusesWhom 39 = .ok (.ireturn, 1) := by decide +kernel
theorem dX4_known_0 : decode cX4_known 0 = .ok (.iconst 0, 1) := by decide +kernel
theorem dX4_known_1 : decode cX4_known 1 = .ok (.istore_n 2, 1) := by decide +kernel
theorem dX4_known_2 : decode cX4_known 2 = .ok (.iconst 0, 1) := by decide +kernel
theorem dX4_known_3 : decode cX4_known 3 = .ok (.istore_n 3, 1) := by decide +kernel
theorem dX4_known_4 : decode cX4_known 4 = .ok (.iload_n 3, 1) := by decide +kernel
theorem dX4_known_5 : decode cX4_known 5 = .ok (.aload_n 0, 1) := by decide +kernel
theorem dX4_known_6 : decode cX4_known 6 = .ok (.getfield 36, 3) := by decide +kernel
theorem dX4_known_9 : decode cX4_known 9 = .ok (.if_icmp .ge 31, 3) := by decide +kernel
theorem dX4_known_12 : decode cX4_known 12 = .ok (.aload_n 0, 1) := by decide +kernel
theorem dX4_known_13 : decode cX4_known 13 = .ok (.getfield 21, 3) := by decide +kernel
theorem dX4_known_16 : decode cX4_known 16 = .ok (.iload_n 3, 1) := by decide +kernel
theorem dX4_known_17 : decode cX4_known 17 = .ok (.iaload, 1) := by decide +kernel
theorem dX4_known_18 : decode cX4_known 18 = .ok (.iload_n 1, 1) := by decide +kernel
theorem dX4_known_19 : decode cX4_known 19 = .ok (.invokestatic 58, 3) := by decide +kernel
theorem dX4_known_22 : decode cX4_known 22 = .ok (.ifCond .eq 12, 3) := by decide +kernel
theorem dX4_known_25 : decode cX4_known 25 = .ok (.iload_n 2, 1) := by decide +kernel
theorem dX4_known_26 : decode cX4_known 26 = .ok (.aload_n 0, 1) := by decide +kernel
theorem dX4_known_27 : decode cX4_known 27 = .ok (.getfield 24, 3) := by decide +kernel
theorem dX4_known_30 : decode cX4_known 30 = .ok (.iload_n 3, 1) := by decide +kernel
theorem dX4_known_31 : decode cX4_known 31 = .ok (.iaload, 1) := by decide +kernel
theorem dX4_known_32 : decode cX4_known 32 = .ok (.ior, 1) := by decide +kernel
theorem dX4_known_33 : decode cX4_known 33 = .ok (.istore_n 2, 1) := by decide +kernel
theorem dX4_known_34 : decode cX4_known 34 = .ok (.iinc 3 1, 3) := by decide +kernel
theorem dX4_known_37 : decode cX4_known 37 = .ok (.goto (-33), 3) := by decide +kernel
theorem dX4_known_40 : decode cX4_known 40 = .ok (.iload_n 2, 1) := by decide +kernel
theorem dX4_known_41 : decode cX4_known 41 = .ok (.ireturn, 1) := by decide +kernel
theorem dX4_heard_0 : decode cX4_heard 0 = .ok (.lconst 0, 1) := by decide +kernel
theorem dX4_heard_1 : decode cX4_heard 1 = .ok (.lstore_n 1, 1) := by decide +kernel
theorem dX4_heard_2 : decode cX4_heard 2 = .ok (.iconst 0, 1) := by decide +kernel
theorem dX4_heard_3 : decode cX4_heard 3 = .ok (.istore_n 3, 1) := by decide +kernel
theorem dX4_heard_4 : decode cX4_heard 4 = .ok (.iload_n 3, 1) := by decide +kernel
theorem dX4_heard_5 : decode cX4_heard 5 = .ok (.aload_n 0, 1) := by decide +kernel
theorem dX4_heard_6 : decode cX4_heard 6 = .ok (.getfield 36, 3) := by decide +kernel
theorem dX4_heard_9 : decode cX4_heard 9 = .ok (.if_icmp .ge 35, 3) := by decide +kernel
theorem dX4_heard_12 : decode cX4_heard 12 = .ok (.aload_n 0, 1) := by decide +kernel
theorem dX4_heard_13 : decode cX4_heard 13 = .ok (.getfield 21, 3) := by decide +kernel
theorem dX4_heard_16 : decode cX4_heard 16 = .ok (.iload_n 3, 1) := by decide +kernel
theorem dX4_heard_17 : decode cX4_heard 17 = .ok (.iaload, 1) := by decide +kernel
theorem dX4_heard_18 : decode cX4_heard 18 = .ok (.ifCond .eq 20, 3) := by decide +kernel
theorem dX4_heard_21 : decode cX4_heard 21 = .ok (.lload_n 1, 1) := by decide +kernel
theorem dX4_heard_22 : decode cX4_heard 22 = .ok (.aload_n 0, 1) := by decide +kernel
theorem dX4_heard_23 : decode cX4_heard 23 = .ok (.getfield 21, 3) := by decide +kernel
theorem dX4_heard_26 : decode cX4_heard 26 = .ok (.iload_n 3, 1) := by decide +kernel
theorem dX4_heard_27 : decode cX4_heard 27 = .ok (.iaload, 1) := by decide +kernel
theorem dX4_heard_28 : decode cX4_heard 28 = .ok (.aload_n 0, 1) := by decide +kernel
theorem dX4_heard_29 : decode cX4_heard 29 = .ok (.getfield 24, 3) := by decide +kernel
theorem dX4_heard_32 : decode cX4_heard 32 = .ok (.iload_n 3, 1) := by decide +kernel
theorem dX4_heard_33 : decode cX4_heard 33 = .ok (.iaload, 1) := by decide +kernel
theorem dX4_heard_34 : decode cX4_heard 34 = .ok (.invokestatic 140, 3) := by decide +kernel
theorem dX4_heard_37 : decode cX4_heard 37 = .ok (.lstore_n 1, 1) := by decide +kernel
theorem dX4_heard_38 : decode cX4_heard 38 = .ok (.iinc 3 1, 3) := by decide +kernel
theorem dX4_heard_41 : decode cX4_heard 41 = .ok (.goto (-37), 3) := by decide +kernel
theorem dX4_heard_44 : decode cX4_heard 44 = .ok (.lload_n 1, 1) := by decide +kernel
theorem dX4_heard_45 : decode cX4_heard 45 = .ok (.lreturn, 1) := by decide +kernel
theorem dX4_share_0 : decode cX4_share 0 = .ok (.iload_n 3, 1) := by decide +kernel
theorem dX4_share_1 : decode cX4_share 1 = .ok (.istore 4, 2) := by decide +kernel
theorem dX4_share_3 : decode cX4_share 3 = .ok (.iconst 0, 1) := by decide +kernel
theorem dX4_share_4 : decode cX4_share 4 = .ok (.istore 5, 2) := by decide +kernel
theorem dX4_share_6 : decode cX4_share 6 = .ok (.iload 5, 2) := by decide +kernel
theorem dX4_share_8 : decode cX4_share 8 = .ok (.bipush 8, 2) := by decide +kernel
theorem dX4_share_10 : decode cX4_share 10 = .ok (.if_icmp .ge 29, 3) := by decide +kernel
theorem dX4_share_13 : decode cX4_share 13 = .ok (.iload_n 2, 1) := by decide +kernel
theorem dX4_share_14 : decode cX4_share 14 = .ok (.iload 5, 2) := by decide +kernel
theorem dX4_share_16 : decode cX4_share 16 = .ok (.invokestatic 58, 3) := by decide +kernel
theorem dX4_share_19 : decode cX4_share 19 = .ok (.ifCond .eq 14, 3) := by decide +kernel
theorem dX4_share_22 : decode cX4_share 22 = .ok (.iload 4, 2) := by decide +kernel
theorem dX4_share_24 : decode cX4_share 24 = .ok (.lload_n 0, 1) := by decide +kernel
theorem dX4_share_25 : decode cX4_share 25 = .ok (.iload 5, 2) := by decide +kernel
theorem dX4_share_27 : decode cX4_share 27 = .ok (.invokestatic 144, 3) := by decide +kernel
theorem dX4_share_30 : decode cX4_share 30 = .ok (.ior, 1) := by decide +kernel
theorem dX4_share_31 : decode cX4_share 31 = .ok (.istore 4, 2) := by decide +kernel
theorem dX4_share_33 : decode cX4_share 33 = .ok (.iinc 5 1, 3) := by decide +kernel
theorem dX4_share_36 : decode cX4_share 36 = .ok (.goto (-30), 3) := by decide +kernel
theorem dX4_share_39 : decode cX4_share 39 = .ok (.lload_n 0, 1) := by decide +kernel
theorem dX4_share_40 : decode cX4_share 40 = .ok (.lstore 5, 2) := by decide +kernel
theorem dX4_share_42 : decode cX4_share 42 = .ok (.iconst 0, 1) := by decide +kernel
theorem dX4_share_43 : decode cX4_share 43 = .ok (.istore 7, 2) := by decide +kernel
theorem dX4_share_45 : decode cX4_share 45 = .ok (.iload 7, 2) := by decide +kernel
theorem dX4_share_47 : decode cX4_share 47 = .ok (.bipush 8, 2) := by decide +kernel
theorem dX4_share_49 : decode cX4_share 49 = .ok (.if_icmp .ge 32, 3) := by decide +kernel
theorem dX4_share_52 : decode cX4_share 52 = .ok (.iload_n 2, 1) := by decide +kernel
theorem dX4_share_53 : decode cX4_share 53 = .ok (.iload 7, 2) := by decide +kernel
theorem dX4_share_55 : decode cX4_share 55 = .ok (.invokestatic 58, 3) := by decide +kernel
theorem dX4_share_58 : decode cX4_share 58 = .ok (.ifCond .eq 17, 3) := by decide +kernel
theorem dX4_share_61 : decode cX4_share 61 = .ok (.lload 5, 2) := by decide +kernel
theorem dX4_share_63 : decode cX4_share 63 = .ok (.iload 4, 2) := by decide +kernel
theorem dX4_share_65 : decode cX4_share 65 = .ok (.i2l, 1) := by decide +kernel
theorem dX4_share_66 : decode cX4_share 66 = .ok (.bipush 8, 2) := by decide +kernel
theorem dX4_share_68 : decode cX4_share 68 = .ok (.iload 7, 2) := by decide +kernel
theorem dX4_share_70 : decode cX4_share 70 = .ok (.imul, 1) := by decide +kernel
theorem dX4_share_71 : decode cX4_share 71 = .ok (.lshl, 1) := by decide +kernel
theorem dX4_share_72 : decode cX4_share 72 = .ok (.lor, 1) := by decide +kernel
theorem dX4_share_73 : decode cX4_share 73 = .ok (.lstore 5, 2) := by decide +kernel
theorem dX4_share_75 : decode cX4_share 75 = .ok (.iinc 7 1, 3) := by decide +kernel
theorem dX4_share_78 : decode cX4_share 78 = .ok (.goto (-33), 3) := by decide +kernel
theorem dX4_share_81 : decode cX4_share 81 = .ok (.lload 5, 2) := by decide +kernel
theorem dX4_share_83 : decode cX4_share 83 = .ok (.lreturn, 1) := by decide +kernel
theorem dX5_init_0 : decode cX5_init 0 = .ok (.aload_n 0, 1) := by decide +kernel
theorem dX5_init_1 : decode cX5_init 1 = .ok (.invokespecial 3, 3) := by decide +kernel
theorem dX5_init_4 : decode cX5_init 4 = .ok (.aload_n 0, 1) := by decide +kernel
theorem dX5_init_5 : decode cX5_init 5 = .ok (.iconst 1, 1) := by decide +kernel
theorem dX5_init_6 : decode cX5_init 6 = .ok (.putfield 9, 3) := by decide +kernel
theorem dX5_init_9 : decode cX5_init 9 = .ok (.aload_n 0, 1) := by decide +kernel
theorem dX5_init_10 : decode cX5_init 10 = .ok (.iconst 0, 1) := by decide +kernel
theorem dX5_init_11 : decode cX5_init 11 = .ok (.putfield 15, 3) := by decide +kernel
theorem dX5_init_14 : decode cX5_init 14 = .ok (.aload_n 0, 1) := by decide +kernel
theorem dX5_init_15 : decode cX5_init 15 = .ok (.iconst 0, 1) := by decide +kernel
theorem dX5_init_16 : decode cX5_init 16 = .ok (.putfield 19, 3) := by decide +kernel
theorem dX5_init_19 : decode cX5_init 19 = .ok (.aload_n 0, 1) := by decide +kernel
theorem dX5_init_20 : decode cX5_init 20 = .ok (.bipush 60, 2) := by decide +kernel
theorem dX5_init_22 : decode cX5_init 22 = .ok (.newarray .int, 2) := by decide +kernel
theorem dX5_init_24 : decode cX5_init 24 = .ok (.putfield 22, 3) := by decide +kernel
theorem dX5_init_27 : decode cX5_init 27 = .ok (.return_, 1) := by decide +kernel
theorem dX5_make_0 : decode cX5_make 0 = .ok (.aload_n 0, 1) := by decide +kernel
theorem dX5_make_1 : decode cX5_make 1 = .ok (.iconst 0, 1) := by decide +kernel
theorem dX5_make_2 : decode cX5_make 2 = .ok (.putfield 9, 3) := by decide +kernel
theorem dX5_make_5 : decode cX5_make 5 = .ok (.aload_n 0, 1) := by decide +kernel
theorem dX5_make_6 : decode cX5_make 6 = .ok (.iload_n 1, 1) := by decide +kernel
theorem dX5_make_7 : decode cX5_make 7 = .ok (.putfield 15, 3) := by decide +kernel
theorem dX5_make_10 : decode cX5_make 10 = .ok (.aload_n 0, 1) := by decide +kernel
theorem dX5_make_11 : decode cX5_make 11 = .ok (.iconst 0, 1) := by decide +kernel
theorem dX5_make_12 : decode cX5_make 12 = .ok (.iload_n 2, 1) := by decide +kernel
theorem dX5_make_13 : decode cX5_make 13 = .ok (.bipush 60, 2) := by decide +kernel
theorem dX5_make_15 : decode cX5_make 15 = .ok (.invokestatic 26, 3) := by decide +kernel
theorem dX5_make_18 : decode cX5_make 18 = .ok (.invokestatic 32, 3) := by decide +kernel
theorem dX5_make_21 : decode cX5_make 21 = .ok (.putfield 19, 3) := by decide +kernel
theorem dX5_make_24 : decode cX5_make 24 = .ok (.aload_n 0, 1) := by decide +kernel
theorem dX5_make_25 : decode cX5_make 25 = .ok (.getfield 22, 3) := by decide +kernel
theorem dX5_make_28 : decode cX5_make 28 = .ok (.iconst 0, 1) := by decide +kernel
theorem dX5_make_29 : decode cX5_make 29 = .ok (.invokestatic 35, 3) := by decide +kernel
theorem dX5_make_32 : decode cX5_make 32 = .ok (.return_, 1) := by decide +kernel
theorem dX5_refuses_0 : decode cX5_refuses 0 = .ok (.aload_n 0, 1) := by decide +kernel
theorem dX5_refuses_1 : decode cX5_refuses 1 = .ok (.getfield 9, 3) := by decide +kernel
theorem dX5_refuses_4 : decode cX5_refuses 4 = .ok (.ifCond .eq 5, 3) := by decide +kernel
theorem dX5_refuses_7 : decode cX5_refuses 7 = .ok (.iconst 1, 1) := by decide +kernel
theorem dX5_refuses_8 : decode cX5_refuses 8 = .ok (.ireturn, 1) := by decide +kernel
theorem dX5_refuses_9 : decode cX5_refuses 9 = .ok (.aload_n 0, 1) := by decide +kernel
theorem dX5_refuses_10 : decode cX5_refuses 10 = .ok (.getfield 15, 3) := by decide +kernel
theorem dX5_refuses_13 : decode cX5_refuses 13 = .ok (.iload_n 1, 1) := by decide +kernel
theorem dX5_refuses_14 : decode cX5_refuses 14 = .ok (.if_icmp .eq 5, 3) := by decide +kernel
theorem dX5_refuses_17 : decode cX5_refuses 17 = .ok (.iconst 3, 1) := by decide +kernel
theorem dX5_refuses_18 : decode cX5_refuses 18 = .ok (.ireturn, 1) := by decide +kernel
theorem dX5_refuses_19 : decode cX5_refuses 19 = .ok (.iload_n 2, 1) := by decide +kernel
theorem dX5_refuses_20 : decode cX5_refuses 20 = .ok (.ifCond .lt 11, 3) := by decide +kernel
theorem dX5_refuses_23 : decode cX5_refuses 23 = .ok (.iload_n 2, 1) := by decide +kernel
theorem dX5_refuses_24 : decode cX5_refuses 24 = .ok (.aload_n 0, 1) := by decide +kernel
theorem dX5_refuses_25 : decode cX5_refuses 25 = .ok (.getfield 19, 3) := by decide +kernel
theorem dX5_refuses_28 : decode cX5_refuses 28 = .ok (.if_icmp .lt 7, 3) := by decide +kernel
theorem dX5_refuses_31 : decode cX5_refuses 31 = .ok (.iconst 2, 1) := by decide +kernel
theorem dX5_refuses_32 : decode cX5_refuses 32 = .ok (.goto 4, 3) := by decide +kernel
theorem dX5_refuses_35 : decode cX5_refuses 35 = .ok (.iconst 0, 1) := by decide +kernel
theorem dX5_refuses_36 : decode cX5_refuses 36 = .ok (.ireturn, 1) := by decide +kernel
theorem dX5_holds_0 : decode cX5_holds 0 = .ok (.iload_n 1, 1) := by decide +kernel
theorem dX5_holds_1 : decode cX5_holds 1 = .ok (.ifCond .lt 21, 3) := by decide +kernel
theorem dX5_holds_4 : decode cX5_holds 4 = .ok (.iload_n 2, 1) := by decide +kernel
theorem dX5_holds_5 : decode cX5_holds 5 = .ok (.ifCond .lt 17, 3) := by decide +kernel
theorem dX5_holds_8 : decode cX5_holds 8 = .ok (.iload_n 2, 1) := by decide +kernel
theorem dX5_holds_9 : decode cX5_holds 9 = .ok (.aload_n 0, 1) := by decide +kernel
theorem dX5_holds_10 : decode cX5_holds 10 = .ok (.getfield 19, 3) := by decide +kernel
theorem dX5_holds_13 : decode cX5_holds 13 = .ok (.iload_n 1, 1) := by decide +kernel
theorem dX5_holds_14 : decode cX5_holds 14 = .ok (.isub, 1) := by decide +kernel
theorem dX5_holds_15 : decode cX5_holds 15 = .ok (.if_icmp .gt 7, 3) := by decide +kernel
theorem dX5_holds_18 : decode cX5_holds 18 = .ok (.iconst 1, 1) := by decide +kernel
theorem dX5_holds_19 : decode cX5_holds 19 = .ok (.goto 4, 3) := by decide +kernel
theorem dX5_holds_22 : decode cX5_holds 22 = .ok (.iconst 0, 1) := by decide +kernel
theorem dX5_holds_23 : decode cX5_holds 23 = .ok (.ireturn, 1) := by decide +kernel
theorem dX5_store_0 : decode cX5_store 0 = .ok (.iload_n 1, 1) := by decide +kernel
theorem dX5_store_1 : decode cX5_store 1 = .ok (.ifCond .lt 11, 3) := by decide +kernel
theorem dX5_store_4 : decode cX5_store 4 = .ok (.iload_n 1, 1) := by decide +kernel
theorem dX5_store_5 : decode cX5_store 5 = .ok (.aload_n 0, 1) := by decide +kernel
theorem dX5_store_6 : decode cX5_store 6 = .ok (.getfield 19, 3) := by decide +kernel
theorem dX5_store_9 : decode cX5_store 9 = .ok (.if_icmp .lt 4, 3) := by decide +kernel
theorem dX5_store_12 : decode cX5_store 12 = .ok (.return_, 1) := by decide +kernel
theorem dX5_store_13 : decode cX5_store 13 = .ok (.aload_n 0, 1) := by decide +kernel
theorem dX5_store_14 : decode cX5_store 14 = .ok (.getfield 22, 3) := by decide +kernel
theorem dX5_store_17 : decode cX5_store 17 = .ok (.iload_n 1, 1) := by decide +kernel
theorem dX5_store_18 : decode cX5_store 18 = .ok (.aload_n 0, 1) := by decide +kernel
theorem dX5_store_19 : decode cX5_store 19 = .ok (.getfield 15, 3) := by decide +kernel
theorem dX5_store_22 : decode cX5_store 22 = .ok (.ifCond .ne 8, 3) := by decide +kernel
theorem dX5_store_25 : decode cX5_store 25 = .ok (.iload_n 2, 1) := by decide +kernel
theorem dX5_store_26 : decode cX5_store 26 = .ok (.i2b, 1) := by decide +kernel
theorem dX5_store_27 : decode cX5_store 27 = .ok (.goto 17, 3) := by decide +kernel
theorem dX5_store_30 : decode cX5_store 30 = .ok (.aload_n 0, 1) := by decide +kernel
theorem dX5_store_31 : decode cX5_store 31 = .ok (.getfield 15, 3) := by decide +kernel
theorem dX5_store_34 : decode cX5_store 34 = .ok (.iconst 1, 1) := by decide +kernel
theorem dX5_store_35 : decode cX5_store 35 = .ok (.if_icmp .ne 8, 3) := by decide +kernel
theorem dX5_store_38 : decode cX5_store 38 = .ok (.iload_n 2, 1) := by decide +kernel
theorem dX5_store_39 : decode cX5_store 39 = .ok (.i2s, 1) := by decide +kernel
theorem dX5_store_40 : decode cX5_store 40 = .ok (.goto 4, 3) := by decide +kernel
theorem dX5_store_43 : decode cX5_store 43 = .ok (.iload_n 2, 1) := by decide +kernel
theorem dX5_store_44 : decode cX5_store 44 = .ok (.iastore, 1) := by decide +kernel
theorem dX5_store_45 : decode cX5_store 45 = .ok (.return_, 1) := by decide +kernel
theorem dX6_init_0 : decode cX6_init 0 = .ok (.aload_n 0, 1) := by decide +kernel
theorem dX6_init_1 : decode cX6_init 1 = .ok (.invokespecial 3, 3) := by decide +kernel
theorem dX6_init_4 : decode cX6_init 4 = .ok (.aload_n 0, 1) := by decide +kernel
theorem dX6_init_5 : decode cX6_init 5 = .ok (.iconst 0, 1) := by decide +kernel
theorem dX6_init_6 : decode cX6_init 6 = .ok (.putfield 9, 3) := by decide +kernel
theorem dX6_init_9 : decode cX6_init 9 = .ok (.aload_n 0, 1) := by decide +kernel
theorem dX6_init_10 : decode cX6_init 10 = .ok (.bipush 8, 2) := by decide +kernel
theorem dX6_init_12 : decode cX6_init 12 = .ok (.newarray .int, 2) := by decide +kernel
theorem dX6_init_14 : decode cX6_init 14 = .ok (.putfield 15, 3) := by decide +kernel
theorem dX6_init_17 : decode cX6_init 17 = .ok (.aload_n 0, 1) := by decide +kernel
theorem dX6_init_18 : decode cX6_init 18 = .ok (.bipush 8, 2) := by decide +kernel
theorem dX6_init_20 : decode cX6_init 20 = .ok (.newarray .int, 2) := by decide +kernel
theorem dX6_init_22 : decode cX6_init 22 = .ok (.putfield 19, 3) := by decide +kernel
theorem dX6_init_25 : decode cX6_init 25 = .ok (.return_, 1) := by decide +kernel
theorem dX6_allowed_0 : decode cX6_allowed 0 = .ok (.iload_n 1, 1) := by decide +kernel
theorem dX6_allowed_1 : decode cX6_allowed 1 = .ok (.invokestatic 22, 3) := by decide +kernel
theorem dX6_allowed_4 : decode cX6_allowed 4 = .ok (.ifCond .ne 18, 3) := by decide +kernel
theorem dX6_allowed_7 : decode cX6_allowed 7 = .ok (.iload_n 2, 1) := by decide +kernel
theorem dX6_allowed_8 : decode cX6_allowed 8 = .ok (.ifCond .lt 14, 3) := by decide +kernel
theorem dX6_allowed_11 : decode cX6_allowed 11 = .ok (.iload_n 2, 1) := by decide +kernel
theorem dX6_allowed_12 : decode cX6_allowed 12 = .ok (.sipush 999, 3) := by decide +kernel
theorem dX6_allowed_15 : decode cX6_allowed 15 = .ok (.if_icmp .gt 7, 3) := by decide +kernel
theorem dX6_allowed_18 : decode cX6_allowed 18 = .ok (.iconst 1, 1) := by decide +kernel
theorem dX6_allowed_19 : decode cX6_allowed 19 = .ok (.goto 4, 3) := by decide +kernel
theorem dX6_allowed_22 : decode cX6_allowed 22 = .ok (.iconst 0, 1) := by decide +kernel
theorem dX6_allowed_23 : decode cX6_allowed 23 = .ok (.ireturn, 1) := by decide +kernel
theorem dX6_add_0 : decode cX6_add 0 = .ok (.aload_n 0, 1) := by decide +kernel
theorem dX6_add_1 : decode cX6_add 1 = .ok (.getfield 9, 3) := by decide +kernel
theorem dX6_add_4 : decode cX6_add 4 = .ok (.bipush 8, 2) := by decide +kernel
theorem dX6_add_6 : decode cX6_add 6 = .ok (.if_icmp .lt 5, 3) := by decide +kernel
theorem dX6_add_9 : decode cX6_add 9 = .ok (.iconst 0, 1) := by decide +kernel
theorem dX6_add_10 : decode cX6_add 10 = .ok (.ireturn, 1) := by decide +kernel
theorem dX6_add_11 : decode cX6_add 11 = .ok (.aload_n 0, 1) := by decide +kernel
theorem dX6_add_12 : decode cX6_add 12 = .ok (.getfield 15, 3) := by decide +kernel
theorem dX6_add_15 : decode cX6_add 15 = .ok (.aload_n 0, 1) := by decide +kernel
theorem dX6_add_16 : decode cX6_add 16 = .ok (.getfield 9, 3) := by decide +kernel
theorem dX6_add_19 : decode cX6_add 19 = .ok (.iload_n 1, 1) := by decide +kernel
theorem dX6_add_20 : decode cX6_add 20 = .ok (.iastore, 1) := by decide +kernel
theorem dX6_add_21 : decode cX6_add 21 = .ok (.aload_n 0, 1) := by decide +kernel
theorem dX6_add_22 : decode cX6_add 22 = .ok (.getfield 19, 3) := by decide +kernel
theorem dX6_add_25 : decode cX6_add 25 = .ok (.aload_n 0, 1) := by decide +kernel
theorem dX6_add_26 : decode cX6_add 26 = .ok (.getfield 9, 3) := by decide +kernel
theorem dX6_add_29 : decode cX6_add 29 = .ok (.iload_n 2, 1) := by decide +kernel
theorem dX6_add_30 : decode cX6_add 30 = .ok (.iastore, 1) := by decide +kernel
theorem dX6_add_31 : decode cX6_add 31 = .ok (.aload_n 0, 1) := by decide +kernel
theorem dX6_add_32 : decode cX6_add 32 = .ok (.dup, 1) := by decide +kernel
theorem dX6_add_33 : decode cX6_add 33 = .ok (.getfield 9, 3) := by decide +kernel
theorem dX6_add_36 : decode cX6_add 36 = .ok (.iconst 1, 1) := by decide +kernel
theorem dX6_add_37 : decode cX6_add 37 = .ok (.iadd, 1) := by decide +kernel
theorem dX6_add_38 : decode cX6_add 38 = .ok (.putfield 9, 3) := by decide +kernel
theorem dX6_add_41 : decode cX6_add 41 = .ok (.iconst 1, 1) := by decide +kernel
theorem dX6_add_42 : decode cX6_add 42 = .ok (.ireturn, 1) := by decide +kernel
theorem dX6_comeOut_0 : decode cX6_comeOut 0 = .ok (.iconst 0, 1) := by decide +kernel
theorem dX6_comeOut_1 : decode cX6_comeOut 1 = .ok (.istore_n 2, 1) := by decide +kernel
theorem dX6_comeOut_2 : decode cX6_comeOut 2 = .ok (.iload_n 2, 1) := by decide +kernel
theorem dX6_comeOut_3 : decode cX6_comeOut 3 = .ok (.aload_n 0, 1) := by decide +kernel
theorem dX6_comeOut_4 : decode cX6_comeOut 4 = .ok (.getfield 9, 3) := by decide +kernel
theorem dX6_comeOut_7 : decode cX6_comeOut 7 = .ok (.if_icmp .ge 35, 3) := by decide +kernel
theorem dX6_comeOut_10 : decode cX6_comeOut 10 = .ok (.aload_n 1, 1) := by decide +kernel
theorem dX6_comeOut_11 : decode cX6_comeOut 11 = .ok (.getfield 26, 3) := by decide +kernel
theorem dX6_comeOut_14 : decode cX6_comeOut 14 = .ok (.aload_n 1, 1) := by decide +kernel
theorem dX6_comeOut_15 : decode cX6_comeOut 15 = .ok (.aload_n 0, 1) := by decide +kernel
theorem dX6_comeOut_16 : decode cX6_comeOut 16 = .ok (.getfield 15, 3) := by decide +kernel
theorem dX6_comeOut_19 : decode cX6_comeOut 19 = .ok (.iload_n 2, 1) := by decide +kernel
theorem dX6_comeOut_20 : decode cX6_comeOut 20 = .ok (.iaload, 1) := by decide +kernel
theorem dX6_comeOut_21 : decode cX6_comeOut 21 = .ok (.invokevirtual 29, 3) := by decide +kernel
theorem dX6_comeOut_24 : decode cX6_comeOut 24 = .ok (.iaload, 1) := by decide +kernel
theorem dX6_comeOut_25 : decode cX6_comeOut 25 = .ok (.aload_n 0, 1) := by decide +kernel
theorem dX6_comeOut_26 : decode cX6_comeOut 26 = .ok (.getfield 19, 3) := by decide +kernel
theorem dX6_comeOut_29 : decode cX6_comeOut 29 = .ok (.iload_n 2, 1) := by decide +kernel
theorem dX6_comeOut_30 : decode cX6_comeOut 30 = .ok (.iaload, 1) := by decide +kernel
theorem dX6_comeOut_31 : decode cX6_comeOut 31 = .ok (.if_icmp .eq 5, 3) := by decide +kernel
theorem dX6_comeOut_34 : decode cX6_comeOut 34 = .ok (.iconst 0, 1) := by decide +kernel
theorem dX6_comeOut_35 : decode cX6_comeOut 35 = .ok (.ireturn, 1) := by decide +kernel
theorem dX6_comeOut_36 : decode cX6_comeOut 36 = .ok (.iinc 2 1, 3) := by decide +kernel
theorem dX6_comeOut_39 : decode cX6_comeOut 39 = .ok (.goto (-37), 3) := by decide +kernel
theorem dX6_comeOut_42 : decode cX6_comeOut 42 = .ok (.iconst 1, 1) := by decide +kernel
theorem dX6_comeOut_43 : decode cX6_comeOut 43 = .ok (.ireturn, 1) := by decide +kernel
theorem dX7_init_0 : decode cX7_init 0 = .ok (.aload_n 0, 1) := by decide +kernel
theorem dX7_init_1 : decode cX7_init 1 = .ok (.invokespecial 3, 3) := by decide +kernel
theorem dX7_init_4 : decode cX7_init 4 = .ok (.aload_n 0, 1) := by decide +kernel
theorem dX7_init_5 : decode cX7_init 5 = .ok (.bipush 31, 2) := by decide +kernel
theorem dX7_init_7 : decode cX7_init 7 = .ok (.newarray .int, 2) := by decide +kernel
theorem dX7_init_9 : decode cX7_init 9 = .ok (.putfield 9, 3) := by decide +kernel
theorem dX7_init_12 : decode cX7_init 12 = .ok (.aload_n 0, 1) := by decide +kernel
theorem dX7_init_13 : decode cX7_init 13 = .ok (.iconst 0, 1) := by decide +kernel
theorem dX7_init_14 : decode cX7_init 14 = .ok (.putfield 15, 3) := by decide +kernel
theorem dX7_init_17 : decode cX7_init 17 = .ok (.aload_n 0, 1) := by decide +kernel
theorem dX7_init_18 : decode cX7_init 18 = .ok (.iload_n 1, 1) := by decide +kernel
theorem dX7_init_19 : decode cX7_init 19 = .ok (.putfield 19, 3) := by decide +kernel
theorem dX7_init_22 : decode cX7_init 22 = .ok (.aload_n 0, 1) := by decide +kernel
theorem dX7_init_23 : decode cX7_init 23 = .ok (.iload_n 1, 1) := by decide +kernel
theorem dX7_init_24 : decode cX7_init 24 = .ok (.iconst 2, 1) := by decide +kernel
theorem dX7_init_25 : decode cX7_init 25 = .ok (.if_icmp .ne 8, 3) := by decide +kernel
theorem dX7_init_28 : decode cX7_init 28 = .ok (.bipush 20, 2) := by decide +kernel
theorem dX7_init_30 : decode cX7_init 30 = .ok (.goto 5, 3) := by decide +kernel
theorem dX7_init_33 : decode cX7_init 33 = .ok (.bipush 31, 2) := by decide +kernel
theorem dX7_init_35 : decode cX7_init 35 = .ok (.putfield 22, 3) := by decide +kernel
theorem dX7_init_38 : decode cX7_init 38 = .ok (.return_, 1) := by decide +kernel
theorem dX7_append_0 : decode cX7_append 0 = .ok (.aload_n 0, 1) := by decide +kernel
theorem dX7_append_1 : decode cX7_append 1 = .ok (.getfield 15, 3) := by decide +kernel
theorem dX7_append_4 : decode cX7_append 4 = .ok (.aload_n 0, 1) := by decide +kernel
theorem dX7_append_5 : decode cX7_append 5 = .ok (.getfield 22, 3) := by decide +kernel
theorem dX7_append_8 : decode cX7_append 8 = .ok (.if_icmp .ge 15, 3) := by decide +kernel
theorem dX7_append_11 : decode cX7_append 11 = .ok (.aload_n 0, 1) := by decide +kernel
theorem dX7_append_12 : decode cX7_append 12 = .ok (.getfield 15, 3) := by decide +kernel
theorem dX7_append_15 : decode cX7_append 15 = .ok (.aload_n 0, 1) := by decide +kernel
theorem dX7_append_16 : decode cX7_append 16 = .ok (.getfield 9, 3) := by decide +kernel
theorem dX7_append_19 : decode cX7_append 19 = .ok (.arraylength, 1) := by decide +kernel
theorem dX7_append_20 : decode cX7_append 20 = .ok (.if_icmp .lt 5, 3) := by decide +kernel
theorem dX7_append_23 : decode cX7_append 23 = .ok (.iconst 0, 1) := by decide +kernel
theorem dX7_append_24 : decode cX7_append 24 = .ok (.ireturn, 1) := by decide +kernel
theorem dX7_append_25 : decode cX7_append 25 = .ok (.aload_n 0, 1) := by decide +kernel
theorem dX7_append_26 : decode cX7_append 26 = .ok (.getfield 9, 3) := by decide +kernel
theorem dX7_append_29 : decode cX7_append 29 = .ok (.aload_n 0, 1) := by decide +kernel
theorem dX7_append_30 : decode cX7_append 30 = .ok (.getfield 15, 3) := by decide +kernel
theorem dX7_append_33 : decode cX7_append 33 = .ok (.iload_n 1, 1) := by decide +kernel
theorem dX7_append_34 : decode cX7_append 34 = .ok (.iastore, 1) := by decide +kernel
theorem dX7_append_35 : decode cX7_append 35 = .ok (.aload_n 0, 1) := by decide +kernel
theorem dX7_append_36 : decode cX7_append 36 = .ok (.dup, 1) := by decide +kernel
theorem dX7_append_37 : decode cX7_append 37 = .ok (.getfield 15, 3) := by decide +kernel
theorem dX7_append_40 : decode cX7_append 40 = .ok (.iconst 1, 1) := by decide +kernel
theorem dX7_append_41 : decode cX7_append 41 = .ok (.iadd, 1) := by decide +kernel
theorem dX7_append_42 : decode cX7_append 42 = .ok (.putfield 15, 3) := by decide +kernel
theorem dX7_append_45 : decode cX7_append 45 = .ok (.iconst 1, 1) := by decide +kernel
theorem dX7_append_46 : decode cX7_append 46 = .ok (.ireturn, 1) := by decide +kernel
theorem dX7_firstFault_0 : decode cX7_firstFault 0 = .ok (.iconst 0, 1) := by decide +kernel
theorem dX7_firstFault_1 : decode cX7_firstFault 1 = .ok (.istore_n 1, 1) := by decide +kernel
theorem dX7_firstFault_2 : decode cX7_firstFault 2 = .ok (.iload_n 1, 1) := by decide +kernel
theorem dX7_firstFault_3 : decode cX7_firstFault 3 = .ok (.aload_n 0, 1) := by decide +kernel
theorem dX7_firstFault_4 : decode cX7_firstFault 4 = .ok (.getfield 15, 3) := by decide +kernel
theorem dX7_firstFault_7 : decode cX7_firstFault 7 = .ok (.if_icmp .ge 34, 3) := by decide +kernel
theorem dX7_firstFault_10 : decode cX7_firstFault 10 = .ok (.iload_n 1, 1) := by decide +kernel
theorem dX7_firstFault_11 : decode cX7_firstFault 11 = .ok (.aload_n 0, 1) := by decide +kernel
theorem dX7_firstFault_12 : decode cX7_firstFault 12 = .ok (.getfield 9, 3) := by decide +kernel
theorem dX7_firstFault_15 : decode cX7_firstFault 15 = .ok (.arraylength, 1) := by decide +kernel
theorem dX7_firstFault_16 : decode cX7_firstFault 16 = .ok (.if_icmp .ge 25, 3) := by decide +kernel
theorem dX7_firstFault_19 : decode cX7_firstFault 19 = .ok (.aload_n 0, 1) := by decide +kernel
theorem dX7_firstFault_20 : decode cX7_firstFault 20 = .ok (.iload_n 1, 1) := by decide +kernel
theorem dX7_firstFault_21 : decode cX7_firstFault 21 = .ok (.aload_n 0, 1) := by decide +kernel
theorem dX7_firstFault_22 : decode cX7_firstFault 22 = .ok (.getfield 9, 3) := by decide +kernel
theorem dX7_firstFault_25 : decode cX7_firstFault 25 = .ok (.iload_n 1, 1) := by decide +kernel
theorem dX7_firstFault_26 : decode cX7_firstFault 26 = .ok (.iaload, 1) := by decide +kernel
theorem dX7_firstFault_27 : decode cX7_firstFault 27 = .ok (.invokevirtual 25, 3) := by decide +kernel
theorem dX7_firstFault_30 : decode cX7_firstFault 30 = .ok (.ifCond .ne 5, 3) := by decide +kernel
theorem dX7_firstFault_33 : decode cX7_firstFault 33 = .ok (.iload_n 1, 1) := by decide +kernel
theorem dX7_firstFault_34 : decode cX7_firstFault 34 = .ok (.ireturn, 1) := by decide +kernel
theorem dX7_firstFault_35 : decode cX7_firstFault 35 = .ok (.iinc 1 1, 3) := by decide +kernel
theorem dX7_firstFault_38 : decode cX7_firstFault 38 = .ok (.goto (-36), 3) := by decide +kernel
theorem dX7_firstFault_41 : decode cX7_firstFault 41 = .ok (.aload_n 0, 1) := by decide +kernel
theorem dX7_firstFault_42 : decode cX7_firstFault 42 = .ok (.getfield 19, 3) := by decide +kernel
theorem dX7_firstFault_45 : decode cX7_firstFault 45 = .ok (.iconst 2, 1) := by decide +kernel
theorem dX7_firstFault_46 : decode cX7_firstFault 46 = .ok (.if_icmp .eq 20, 3) := by decide +kernel
theorem dX7_firstFault_49 : decode cX7_firstFault 49 = .ok (.aload_n 0, 1) := by decide +kernel
theorem dX7_firstFault_50 : decode cX7_firstFault 50 = .ok (.getfield 15, 3) := by decide +kernel
theorem dX7_firstFault_53 : decode cX7_firstFault 53 = .ok (.ifCond .eq 13, 3) := by decide +kernel
theorem dX7_firstFault_56 : decode cX7_firstFault 56 = .ok (.aload_n 0, 1) := by decide +kernel
theorem dX7_firstFault_57 : decode cX7_firstFault 57 = .ok (.getfield 15, 3) := by decide +kernel
theorem dX7_firstFault_60 : decode cX7_firstFault 60 = .ok (.iconst 4, 1) := by decide +kernel
theorem dX7_firstFault_61 : decode cX7_firstFault 61 = .ok (.irem, 1) := by decide +kernel
theorem dX7_firstFault_62 : decode cX7_firstFault 62 = .ok (.iconst 3, 1) := by decide +kernel
theorem dX7_firstFault_63 : decode cX7_firstFault 63 = .ok (.if_icmp .ne 7, 3) := by decide +kernel
theorem dX7_firstFault_66 : decode cX7_firstFault 66 = .ok (.iconst 1, 1) := by decide +kernel
theorem dX7_firstFault_67 : decode cX7_firstFault 67 = .ok (.goto 4, 3) := by decide +kernel
theorem dX7_firstFault_70 : decode cX7_firstFault 70 = .ok (.iconst 0, 1) := by decide +kernel
theorem dX7_firstFault_71 : decode cX7_firstFault 71 = .ok (.istore_n 1, 1) := by decide +kernel
theorem dX7_firstFault_72 : decode cX7_firstFault 72 = .ok (.iload_n 1, 1) := by decide +kernel
theorem dX7_firstFault_73 : decode cX7_firstFault 73 = .ok (.ifCond .eq 7, 3) := by decide +kernel
theorem dX7_firstFault_76 : decode cX7_firstFault 76 = .ok (.iconst (-1), 1) := by decide +kernel
theorem dX7_firstFault_77 : decode cX7_firstFault 77 = .ok (.goto 7, 3) := by decide +kernel
theorem dX7_firstFault_80 : decode cX7_firstFault 80 = .ok (.aload_n 0, 1) := by decide +kernel
theorem dX7_firstFault_81 : decode cX7_firstFault 81 = .ok (.getfield 15, 3) := by decide +kernel
theorem dX7_firstFault_84 : decode cX7_firstFault 84 = .ok (.ireturn, 1) := by decide +kernel
theorem dX7_mayStand_0 : decode cX7_mayStand 0 = .ok (.iload_n 1, 1) := by decide +kernel
theorem dX7_mayStand_1 : decode cX7_mayStand 1 = .ok (.iconst 4, 1) := by decide +kernel
theorem dX7_mayStand_2 : decode cX7_mayStand 2 = .ok (.irem, 1) := by decide +kernel
theorem dX7_mayStand_3 : decode cX7_mayStand 3 = .ok (.istore_n 3, 1) := by decide +kernel
theorem dX7_mayStand_4 : decode cX7_mayStand 4 = .ok (.aload_n 0, 1) := by decide +kernel
theorem dX7_mayStand_5 : decode cX7_mayStand 5 = .ok (.getfield 19, 3) := by decide +kernel
theorem dX7_mayStand_8 : decode cX7_mayStand 8 = .ok (.iconst 2, 1) := by decide +kernel
theorem dX7_mayStand_9 : decode cX7_mayStand 9 = .ok (.if_icmp .eq 20, 3) := by decide +kernel
theorem dX7_mayStand_12 : decode cX7_mayStand 12 = .ok (.iload_n 3, 1) := by decide +kernel
theorem dX7_mayStand_13 : decode cX7_mayStand 13 = .ok (.iconst 3, 1) := by decide +kernel
theorem dX7_mayStand_14 : decode cX7_mayStand 14 = .ok (.if_icmp .ne 15, 3) := by decide +kernel
theorem dX7_mayStand_17 : decode cX7_mayStand 17 = .ok (.iload_n 2, 1) := by decide +kernel
theorem dX7_mayStand_18 : decode cX7_mayStand 18 = .ok (.bipush 59, 2) := by decide +kernel
theorem dX7_mayStand_20 : decode cX7_mayStand 20 = .ok (.if_icmp .ne 7, 3) := by decide +kernel
theorem dX7_mayStand_23 : decode cX7_mayStand 23 = .ok (.iconst 1, 1) := by decide +kernel
theorem dX7_mayStand_24 : decode cX7_mayStand 24 = .ok (.goto 4, 3) := by decide +kernel
theorem dX7_mayStand_27 : decode cX7_mayStand 27 = .ok (.iconst 0, 1) := by decide +kernel
theorem dX7_mayStand_28 : decode cX7_mayStand 28 = .ok (.ireturn, 1) := by decide +kernel
theorem dX7_mayStand_29 : decode cX7_mayStand 29 = .ok (.aload_n 0, 1) := by decide +kernel
theorem dX7_mayStand_30 : decode cX7_mayStand 30 = .ok (.getfield 19, 3) := by decide +kernel
theorem dX7_mayStand_33 : decode cX7_mayStand 33 = .ok (.ifCond .ne 11, 3) := by decide +kernel
theorem dX7_mayStand_36 : decode cX7_mayStand 36 = .ok (.iload_n 3, 1) := by decide +kernel
theorem dX7_mayStand_37 : decode cX7_mayStand 37 = .ok (.ifCond .ne 7, 3) := by decide +kernel
theorem dX7_mayStand_40 : decode cX7_mayStand 40 = .ok (.iconst 1, 1) := by decide +kernel
theorem dX7_mayStand_41 : decode cX7_mayStand 41 = .ok (.goto 4, 3) := by decide +kernel
theorem dX7_mayStand_44 : decode cX7_mayStand 44 = .ok (.iconst 0, 1) := by decide +kernel
theorem dX7_mayStand_45 : decode cX7_mayStand 45 = .ok (.istore 4, 2) := by decide +kernel
theorem dX7_mayStand_47 : decode cX7_mayStand 47 = .ok (.aload_n 0, 1) := by decide +kernel
theorem dX7_mayStand_48 : decode cX7_mayStand 48 = .ok (.getfield 19, 3) := by decide +kernel
theorem dX7_mayStand_51 : decode cX7_mayStand 51 = .ok (.iconst 1, 1) := by decide +kernel
theorem dX7_mayStand_52 : decode cX7_mayStand 52 = .ok (.if_icmp .ne 13, 3) := by decide +kernel
theorem dX7_mayStand_55 : decode cX7_mayStand 55 = .ok (.iload_n 3, 1) := by decide +kernel
theorem dX7_mayStand_56 : decode cX7_mayStand 56 = .ok (.iconst 2, 1) := by decide +kernel
theorem dX7_mayStand_57 : decode cX7_mayStand 57 = .ok (.if_icmp .ne 8, 3) := by decide +kernel
theorem dX7_mayStand_60 : decode cX7_mayStand 60 = .ok (.bipush 7, 2) := by decide +kernel
theorem dX7_mayStand_62 : decode cX7_mayStand 62 = .ok (.goto 5, 3) := by decide +kernel
theorem dX7_mayStand_65 : decode cX7_mayStand 65 = .ok (.bipush 9, 2) := by decide +kernel
theorem dX7_mayStand_67 : decode cX7_mayStand 67 = .ok (.istore 5, 2) := by decide +kernel
theorem dX7_mayStand_69 : decode cX7_mayStand 69 = .ok (.iload_n 2, 1) := by decide +kernel
theorem dX7_mayStand_70 : decode cX7_mayStand 70 = .ok (.bipush 48, 2) := by decide +kernel
theorem dX7_mayStand_72 : decode cX7_mayStand 72 = .ok (.iload 4, 2) := by decide +kernel
theorem dX7_mayStand_74 : decode cX7_mayStand 74 = .ok (.iadd, 1) := by decide +kernel
theorem dX7_mayStand_75 : decode cX7_mayStand 75 = .ok (.if_icmp .lt 16, 3) := by decide +kernel
theorem dX7_mayStand_78 : decode cX7_mayStand 78 = .ok (.iload_n 2, 1) := by decide +kernel
theorem dX7_mayStand_79 : decode cX7_mayStand 79 = .ok (.bipush 48, 2) := by decide +kernel
theorem dX7_mayStand_81 : decode cX7_mayStand 81 = .ok (.iload 5, 2) := by decide +kernel
theorem dX7_mayStand_83 : decode cX7_mayStand 83 = .ok (.iadd, 1) := by decide +kernel
theorem dX7_mayStand_84 : decode cX7_mayStand 84 = .ok (.if_icmp .gt 7, 3) := by decide +kernel
theorem dX7_mayStand_87 : decode cX7_mayStand 87 = .ok (.iconst 1, 1) := by decide +kernel
theorem dX7_mayStand_88 : decode cX7_mayStand 88 = .ok (.goto 4, 3) := by decide +kernel
theorem dX7_mayStand_91 : decode cX7_mayStand 91 = .ok (.iconst 0, 1) := by decide +kernel
theorem dX7_mayStand_92 : decode cX7_mayStand 92 = .ok (.ireturn, 1) := by decide +kernel
theorem dX7_parts_0 : decode cX7_parts 0 = .ok (.aload_n 0, 1) := by decide +kernel
theorem dX7_parts_1 : decode cX7_parts 1 = .ok (.invokevirtual 29, 3) := by decide +kernel
theorem dX7_parts_4 : decode cX7_parts 4 = .ok (.iconst (-1), 1) := by decide +kernel
theorem dX7_parts_5 : decode cX7_parts 5 = .ok (.if_icmp .eq 5, 3) := by decide +kernel
theorem dX7_parts_8 : decode cX7_parts 8 = .ok (.iconst 0, 1) := by decide +kernel
theorem dX7_parts_9 : decode cX7_parts 9 = .ok (.ireturn, 1) := by decide +kernel
theorem dX7_parts_10 : decode cX7_parts 10 = .ok (.aload_n 0, 1) := by decide +kernel
theorem dX7_parts_11 : decode cX7_parts 11 = .ok (.getfield 19, 3) := by decide +kernel
theorem dX7_parts_14 : decode cX7_parts 14 = .ok (.iconst 2, 1) := by decide +kernel
theorem dX7_parts_15 : decode cX7_parts 15 = .ok (.if_icmp .ne 10, 3) := by decide +kernel
theorem dX7_parts_18 : decode cX7_parts 18 = .ok (.aload_n 0, 1) := by decide +kernel
theorem dX7_parts_19 : decode cX7_parts 19 = .ok (.getfield 15, 3) := by decide +kernel
theorem dX7_parts_22 : decode cX7_parts 22 = .ok (.goto 11, 3) := by decide +kernel
theorem dX7_parts_25 : decode cX7_parts 25 = .ok (.aload_n 0, 1) := by decide +kernel
theorem dX7_parts_26 : decode cX7_parts 26 = .ok (.getfield 15, 3) := by decide +kernel
theorem dX7_parts_29 : decode cX7_parts 29 = .ok (.iconst 1, 1) := by decide +kernel
theorem dX7_parts_30 : decode cX7_parts 30 = .ok (.iadd, 1) := by decide +kernel
theorem dX7_parts_31 : decode cX7_parts 31 = .ok (.iconst 4, 1) := by decide +kernel
theorem dX7_parts_32 : decode cX7_parts 32 = .ok (.idiv, 1) := by decide +kernel
theorem dX7_parts_33 : decode cX7_parts 33 = .ok (.ireturn, 1) := by decide +kernel
theorem dX7_figure_0 : decode cX7_figure 0 = .ok (.iload_n 1, 1) := by decide +kernel
theorem dX7_figure_1 : decode cX7_figure 1 = .ok (.ifCond .lt 12, 3) := by decide +kernel
theorem dX7_figure_4 : decode cX7_figure 4 = .ok (.iload_n 1, 1) := by decide +kernel
theorem dX7_figure_5 : decode cX7_figure 5 = .ok (.aload_n 0, 1) := by decide +kernel
theorem dX7_figure_6 : decode cX7_figure 6 = .ok (.getfield 9, 3) := by decide +kernel
theorem dX7_figure_9 : decode cX7_figure 9 = .ok (.arraylength, 1) := by decide +kernel
theorem dX7_figure_10 : decode cX7_figure 10 = .ok (.if_icmp .lt 7, 3) := by decide +kernel
theorem dX7_figure_13 : decode cX7_figure 13 = .ok (.iconst 0, 1) := by decide +kernel
theorem dX7_figure_14 : decode cX7_figure 14 = .ok (.goto 12, 3) := by decide +kernel
theorem dX7_figure_17 : decode cX7_figure 17 = .ok (.aload_n 0, 1) := by decide +kernel
theorem dX7_figure_18 : decode cX7_figure 18 = .ok (.getfield 9, 3) := by decide +kernel
theorem dX7_figure_21 : decode cX7_figure 21 = .ok (.iload_n 1, 1) := by decide +kernel
theorem dX7_figure_22 : decode cX7_figure 22 = .ok (.iaload, 1) := by decide +kernel
theorem dX7_figure_23 : decode cX7_figure 23 = .ok (.bipush 48, 2) := by decide +kernel
theorem dX7_figure_25 : decode cX7_figure 25 = .ok (.isub, 1) := by decide +kernel
theorem dX7_figure_26 : decode cX7_figure 26 = .ok (.ireturn, 1) := by decide +kernel
theorem dX8_init_0 : decode cX8_init 0 = .ok (.aload_n 0, 1) := by decide +kernel
theorem dX8_init_1 : decode cX8_init 1 = .ok (.invokespecial 1, 3) := by decide +kernel
theorem dX8_init_4 : decode cX8_init 4 = .ok (.aload_n 0, 1) := by decide +kernel
theorem dX8_init_5 : decode cX8_init 5 = .ok (.iconst 3, 1) := by decide +kernel
theorem dX8_init_6 : decode cX8_init 6 = .ok (.anewarray 9, 3) := by decide +kernel
theorem dX8_init_9 : decode cX8_init 9 = .ok (.putfield 11, 3) := by decide +kernel
theorem dX8_init_12 : decode cX8_init 12 = .ok (.aload_n 0, 1) := by decide +kernel
theorem dX8_init_13 : decode cX8_init 13 = .ok (.iconst 4, 1) := by decide +kernel
theorem dX8_init_14 : decode cX8_init 14 = .ok (.anewarray 15, 3) := by decide +kernel
theorem dX8_init_17 : decode cX8_init 17 = .ok (.putfield 17, 3) := by decide +kernel
theorem dX8_init_20 : decode cX8_init 20 = .ok (.aload_n 0, 1) := by decide +kernel
theorem dX8_init_21 : decode cX8_init 21 = .ok (.new 21, 3) := by decide +kernel
theorem dX8_init_24 : decode cX8_init 24 = .ok (.dup, 1) := by decide +kernel
theorem dX8_init_25 : decode cX8_init 25 = .ok (.invokespecial 23, 3) := by decide +kernel
theorem dX8_init_28 : decode cX8_init 28 = .ok (.putfield 24, 3) := by decide +kernel
theorem dX8_init_31 : decode cX8_init 31 = .ok (.aload_n 0, 1) := by decide +kernel
theorem dX8_init_32 : decode cX8_init 32 = .ok (.new 28, 3) := by decide +kernel
theorem dX8_init_35 : decode cX8_init 35 = .ok (.dup, 1) := by decide +kernel
theorem dX8_init_36 : decode cX8_init 36 = .ok (.aload_n 0, 1) := by decide +kernel
theorem dX8_init_37 : decode cX8_init 37 = .ok (.getfield 24, 3) := by decide +kernel
theorem dX8_init_40 : decode cX8_init 40 = .ok (.invokespecial 30, 3) := by decide +kernel
theorem dX8_init_43 : decode cX8_init 43 = .ok (.putfield 33, 3) := by decide +kernel
theorem dX8_init_46 : decode cX8_init 46 = .ok (.aload_n 0, 1) := by decide +kernel
theorem dX8_init_47 : decode cX8_init 47 = .ok (.new 28, 3) := by decide +kernel
theorem dX8_init_50 : decode cX8_init 50 = .ok (.dup, 1) := by decide +kernel
theorem dX8_init_51 : decode cX8_init 51 = .ok (.aload_n 0, 1) := by decide +kernel
theorem dX8_init_52 : decode cX8_init 52 = .ok (.getfield 24, 3) := by decide +kernel
theorem dX8_init_55 : decode cX8_init 55 = .ok (.invokespecial 30, 3) := by decide +kernel
theorem dX8_init_58 : decode cX8_init 58 = .ok (.putfield 37, 3) := by decide +kernel
theorem dX8_init_61 : decode cX8_init 61 = .ok (.aload_n 0, 1) := by decide +kernel
theorem dX8_init_62 : decode cX8_init 62 = .ok (.new 40, 3) := by decide +kernel
theorem dX8_init_65 : decode cX8_init 65 = .ok (.dup, 1) := by decide +kernel
theorem dX8_init_66 : decode cX8_init 66 = .ok (.aload_n 0, 1) := by decide +kernel
theorem dX8_init_67 : decode cX8_init 67 = .ok (.getfield 24, 3) := by decide +kernel
theorem dX8_init_70 : decode cX8_init 70 = .ok (.aload_n 0, 1) := by decide +kernel
theorem dX8_init_71 : decode cX8_init 71 = .ok (.getfield 37, 3) := by decide +kernel
theorem dX8_init_74 : decode cX8_init 74 = .ok (.invokespecial 42, 3) := by decide +kernel
theorem dX8_init_77 : decode cX8_init 77 = .ok (.putfield 45, 3) := by decide +kernel
theorem dX8_init_80 : decode cX8_init 80 = .ok (.aload_n 0, 1) := by decide +kernel
theorem dX8_init_81 : decode cX8_init 81 = .ok (.new 49, 3) := by decide +kernel
theorem dX8_init_84 : decode cX8_init 84 = .ok (.dup, 1) := by decide +kernel
theorem dX8_init_85 : decode cX8_init 85 = .ok (.aload_n 0, 1) := by decide +kernel
theorem dX8_init_86 : decode cX8_init 86 = .ok (.getfield 24, 3) := by decide +kernel
theorem dX8_init_89 : decode cX8_init 89 = .ok (.aload_n 0, 1) := by decide +kernel
theorem dX8_init_90 : decode cX8_init 90 = .ok (.getfield 37, 3) := by decide +kernel
theorem dX8_init_93 : decode cX8_init 93 = .ok (.invokespecial 51, 3) := by decide +kernel
theorem dX8_init_96 : decode cX8_init 96 = .ok (.putfield 52, 3) := by decide +kernel
theorem dX8_init_99 : decode cX8_init 99 = .ok (.aload_n 0, 1) := by decide +kernel
theorem dX8_init_100 : decode cX8_init 100 = .ok (.new 56, 3) := by decide +kernel
theorem dX8_init_103 : decode cX8_init 103 = .ok (.dup, 1) := by decide +kernel
theorem dX8_init_104 : decode cX8_init 104 = .ok (.invokespecial 58, 3) := by decide +kernel
theorem dX8_init_107 : decode cX8_init 107 = .ok (.putfield 59, 3) := by decide +kernel
theorem dX8_init_110 : decode cX8_init 110 = .ok (.aload_n 0, 1) := by decide +kernel
theorem dX8_init_111 : decode cX8_init 111 = .ok (.new 63, 3) := by decide +kernel
theorem dX8_init_114 : decode cX8_init 114 = .ok (.dup, 1) := by decide +kernel
theorem dX8_init_115 : decode cX8_init 115 = .ok (.aload_n 0, 1) := by decide +kernel
theorem dX8_init_116 : decode cX8_init 116 = .ok (.getfield 24, 3) := by decide +kernel
theorem dX8_init_119 : decode cX8_init 119 = .ok (.aload_n 0, 1) := by decide +kernel
theorem dX8_init_120 : decode cX8_init 120 = .ok (.getfield 37, 3) := by decide +kernel
theorem dX8_init_123 : decode cX8_init 123 = .ok (.aload_n 0, 1) := by decide +kernel
theorem dX8_init_124 : decode cX8_init 124 = .ok (.getfield 59, 3) := by decide +kernel
theorem dX8_init_127 : decode cX8_init 127 = .ok (.invokespecial 65, 3) := by decide +kernel
theorem dX8_init_130 : decode cX8_init 130 = .ok (.putfield 68, 3) := by decide +kernel
theorem dX8_init_133 : decode cX8_init 133 = .ok (.aload_n 0, 1) := by decide +kernel
theorem dX8_init_134 : decode cX8_init 134 = .ok (.iconst 0, 1) := by decide +kernel
theorem dX8_init_135 : decode cX8_init 135 = .ok (.putfield 72, 3) := by decide +kernel
theorem dX8_init_138 : decode cX8_init 138 = .ok (.aload_n 0, 1) := by decide +kernel
theorem dX8_init_139 : decode cX8_init 139 = .ok (.iconst 1, 1) := by decide +kernel
theorem dX8_init_140 : decode cX8_init 140 = .ok (.putfield 76, 3) := by decide +kernel
theorem dX8_init_143 : decode cX8_init 143 = .ok (.iconst 0, 1) := by decide +kernel
theorem dX8_init_144 : decode cX8_init 144 = .ok (.istore_n 1, 1) := by decide +kernel
theorem dX8_init_145 : decode cX8_init 145 = .ok (.iload_n 1, 1) := by decide +kernel
theorem dX8_init_146 : decode cX8_init 146 = .ok (.iconst 3, 1) := by decide +kernel
theorem dX8_init_147 : decode cX8_init 147 = .ok (.if_icmp .ge 23, 3) := by decide +kernel
theorem dX8_init_150 : decode cX8_init 150 = .ok (.aload_n 0, 1) := by decide +kernel
theorem dX8_init_151 : decode cX8_init 151 = .ok (.getfield 11, 3) := by decide +kernel
theorem dX8_init_154 : decode cX8_init 154 = .ok (.iload_n 1, 1) := by decide +kernel
theorem dX8_init_155 : decode cX8_init 155 = .ok (.new 9, 3) := by decide +kernel
theorem dX8_init_158 : decode cX8_init 158 = .ok (.dup, 1) := by decide +kernel
theorem dX8_init_159 : decode cX8_init 159 = .ok (.iload_n 1, 1) := by decide +kernel
theorem dX8_init_160 : decode cX8_init 160 = .ok (.invokespecial 80, 3) := by decide +kernel
theorem dX8_init_163 : decode cX8_init 163 = .ok (.aastore, 1) := by decide +kernel
theorem dX8_init_164 : decode cX8_init 164 = .ok (.iinc 1 1, 3) := by decide +kernel
theorem dX8_init_167 : decode cX8_init 167 = .ok (.goto (-22), 3) := by decide +kernel
theorem dX8_init_170 : decode cX8_init 170 = .ok (.iconst 0, 1) := by decide +kernel
theorem dX8_init_171 : decode cX8_init 171 = .ok (.istore_n 1, 1) := by decide +kernel
theorem dX8_init_172 : decode cX8_init 172 = .ok (.iload_n 1, 1) := by decide +kernel
theorem dX8_init_173 : decode cX8_init 173 = .ok (.iconst 4, 1) := by decide +kernel
theorem dX8_init_174 : decode cX8_init 174 = .ok (.if_icmp .ge 22, 3) := by decide +kernel
theorem dX8_init_177 : decode cX8_init 177 = .ok (.aload_n 0, 1) := by decide +kernel
theorem dX8_init_178 : decode cX8_init 178 = .ok (.getfield 17, 3) := by decide +kernel
theorem dX8_init_181 : decode cX8_init 181 = .ok (.iload_n 1, 1) := by decide +kernel
theorem dX8_init_182 : decode cX8_init 182 = .ok (.new 15, 3) := by decide +kernel
theorem dX8_init_185 : decode cX8_init 185 = .ok (.dup, 1) := by decide +kernel
theorem dX8_init_186 : decode cX8_init 186 = .ok (.invokespecial 83, 3) := by decide +kernel
theorem dX8_init_189 : decode cX8_init 189 = .ok (.aastore, 1) := by decide +kernel
theorem dX8_init_190 : decode cX8_init 190 = .ok (.iinc 1 1, 3) := by decide +kernel
theorem dX8_init_193 : decode cX8_init 193 = .ok (.goto (-21), 3) := by decide +kernel
theorem dX8_init_196 : decode cX8_init 196 = .ok (.return_, 1) := by decide +kernel
theorem dX8_type_0 : decode cX8_type 0 = .ok (.iload_n 1, 1) := by decide +kernel
