theorem wsL_law_x0 : ∀ w ∈ (vx_atM "java/lang/ArrayIndexOutOfBoundsException" ["java/lang/IndexOutOfBoundsException", "java/lang/RuntimeException", "java/lang/Exception"]).filter goodWord, w ∈ lw_tbl := by decide +kernel
theorem wsL_law_in : ∀ w ∈ wsL_law, w ∈ lw_tbl := fun w h => (List.mem_append.mp h).elim (fun h => wsL_law_in0 w h) (fun h => wsL_law_x0 w h)
theorem inlX0 : ∀ w ∈ wsX00, w ∈ wsL_law := fun _ h => List.mem_append_left _ (List.mem_append_left _ (List.mem_append_left _ (List.mem_append_right _ h)))
theorem inX0 : ∀ w ∈ wsX00, w ∈ lw_tbl := fun w h => wsL_law_in w (inlX0 w h)
theorem inlX1 : ∀ w ∈ wsX10, w ∈ wsL_law := fun _ h => List.mem_append_left _ (List.mem_append_left _ (List.mem_append_left _ (List.mem_append_left _ (List.mem_append_left _ (List.mem_append_right _ h)))))
theorem inX1 : ∀ w ∈ wsX10, w ∈ lw_tbl := fun w h => wsL_law_in w (inlX1 w h)
theorem inlX2 : ∀ w ∈ wsX20, w ∈ wsL_law := fun _ h => List.mem_append_left _ (List.mem_append_left _ (List.mem_append_left _ (List.mem_append_left _ (List.mem_append_right _ h))))
theorem inX2 : ∀ w ∈ wsX20, w ∈ lw_tbl := fun w h => wsL_law_in w (inlX2 w h)
theorem inlX3 : ∀ w ∈ wsX30, w ∈ wsL_law := fun _ h => List.mem_append_left _ (List.mem_append_left _ (List.mem_append_left _ (List.mem_append_left _ (List.mem_append_left _ (List.mem_append_left _ (List.mem_append_left _ (List.mem_append_right _ h)))))))
theorem inX3 : ∀ w ∈ wsX30, w ∈ lw_tbl := fun w h => wsL_law_in w (inlX3 w h)
theorem inlX4 : ∀ w ∈ wsX40, w ∈ wsL_law := fun _ h => List.mem_append_left _ (List.mem_append_left _ (List.mem_append_left _ (List.mem_append_left _ (List.mem_append_left _ (List.mem_append_left _ (List.mem_append_right _ h))))))
theorem inX4 : ∀ w ∈ wsX40, w ∈ lw_tbl := fun w h => wsL_law_in w (inlX4 w h)
theorem inlJx00060 : ∀ w ∈ wsJx000600, w ∈ wsL_law := fun _ h => List.mem_append_left _ (List.mem_append_left _ (List.mem_append_right _ h))
theorem inJx00060 : ∀ w ∈ wsJx000600, w ∈ lw_tbl := fun w h => wsL_law_in w (inlJx00060 w h)
theorem inJ9 : ∀ w ∈ wsJ90, w ∈ lw_tbl := by decide +kernel
theorem inJ0 : ∀ w ∈ wsJ00, w ∈ lw_tbl := by decide +kernel
theorem inJ7 : ∀ w ∈ wsJ70, w ∈ lw_tbl := by decide +kernel
theorem dX0_init_0 : decode cX0_init 0 = .ok (.aload_n 0, 1) := by decide +kernel
theorem dX0_init_1 : decode cX0_init 1 = .ok (.invokespecial 3, 3) := by decide +kernel
theorem dX0_init_4 : decode cX0_init 4 = .ok (.aload_n 0, 1) := by decide +kernel
theorem dX0_init_5 : decode cX0_init 5 = .ok (.bipush 8, 2) := by decide +kernel
theorem dX0_init_7 : decode cX0_init 7 = .ok (.newarray .int, 2) := by decide +kernel
theorem dX0_init_9 : decode cX0_init 9 = .ok (.putfield 9, 3) := by decide +kernel
theorem dX0_init_12 : decode cX0_init 12 = .ok (.aload_n 0, 1) := by decide +kernel
theorem dX0_init_13 : decode cX0_init 13 = .ok (.iconst 0, 1) := by decide +kernel
theorem dX0_init_14 : decode cX0_init 14 = .ok (.putfield 15, 3) := by decide +kernel
theorem dX0_init_17 : decode cX0_init 17 = .ok (.aload_n 0, 1) := by decide +kernel
theorem dX0_init_18 : decode cX0_init 18 = .ok (.iconst 0, 1) := by decide +kernel
theorem dX0_init_19 : decode cX0_init 19 = .ok (.putfield 19, 3) := by decide +kernel
theorem dX0_init_22 : decode cX0_init 22 = .ok (.aload_n 0, 1) := by decide +kernel
theorem dX0_init_23 : decode cX0_init 23 = .ok (.iconst 0, 1) := by decide +kernel
theorem dX0_init_24 : decode cX0_init 24 = .ok (.putfield 22, 3) := by decide +kernel
theorem dX0_init_27 : decode cX0_init 27 = .ok (.return_, 1) := by decide +kernel
set_option maxRecDepth 20000 in
theorem ggX0_keep_X2_keptCode : GoodIn wsX0_keep wsX2_keptCode := goodIn_ca (goodIn_r _ [8, 9, 19, 20, 21, 22, 23, 24, 25, 26, 27] (by decide +kernel) (by decide +kernel)) (goodIn_sub (fun _ h => List.mem_cons_of_mem _ (List.mem_append_right _ h)) (by decide +kernel))
set_option maxRecDepth 20000 in
theorem gX0_keep_X2_keptCode_n25 : GoodIn wsX0_keep (wsX2_keptCode) := ggX0_keep_X2_keptCode
set_option maxRecDepth 20000 in
theorem ggX0_keep_X3_isChanged : GoodIn wsX0_keep wsX3_isChanged := goodIn_r _ [12] (by decide +kernel) (by decide +kernel)
set_option maxRecDepth 20000 in
theorem gX0_keep_X3_isChanged_n31 : GoodIn wsX0_keep (wsX3_isChanged) := ggX0_keep_X3_isChanged
set_option maxRecDepth 20000 in
theorem ggX0_keep_X3_isDown : GoodIn wsX0_keep wsX3_isDown := goodIn_r _ [14] (by decide +kernel) (by decide +kernel)
set_option maxRecDepth 20000 in
theorem gX0_keep_X3_isDown_n35 : GoodIn wsX0_keep (wsX3_isDown) := ggX0_keep_X3_isDown
theorem dX0_keep_0 : decode cX0_keep 0 = .ok (.aload_n 0, 1) := by decide +kernel
theorem dX0_keep_1 : decode cX0_keep 1 = .ok (.iconst 0, 1) := by decide +kernel
theorem dX0_keep_2 : decode cX0_keep 2 = .ok (.putfield 15, 3) := by decide +kernel
theorem dX0_keep_5 : decode cX0_keep 5 = .ok (.aload_n 0, 1) := by decide +kernel
theorem dX0_keep_6 : decode cX0_keep 6 = .ok (.iconst 0, 1) := by decide +kernel
theorem dX0_keep_7 : decode cX0_keep 7 = .ok (.putfield 19, 3) := by decide +kernel
theorem dX0_keep_10 : decode cX0_keep 10 = .ok (.aload_n 0, 1) := by decide +kernel
theorem dX0_keep_11 : decode cX0_keep 11 = .ok (.iconst 0, 1) := by decide +kernel
theorem dX0_keep_12 : decode cX0_keep 12 = .ok (.putfield 22, 3) := by decide +kernel
theorem dX0_keep_15 : decode cX0_keep 15 = .ok (.iconst 0, 1) := by decide +kernel
theorem dX0_keep_16 : decode cX0_keep 16 = .ok (.istore 4, 2) := by decide +kernel
theorem dX0_keep_18 : decode cX0_keep 18 = .ok (.iload 4, 2) := by decide +kernel
theorem dX0_keep_20 : decode cX0_keep 20 = .ok (.iload_n 2, 1) := by decide +kernel
theorem dX0_keep_21 : decode cX0_keep 21 = .ok (.if_icmp .ge 106, 3) := by decide +kernel
theorem dX0_keep_24 : decode cX0_keep 24 = .ok (.aload_n 1, 1) := by decide +kernel
theorem dX0_keep_25 : decode cX0_keep 25 = .ok (.iload 4, 2) := by decide +kernel
theorem dX0_keep_27 : decode cX0_keep 27 = .ok (.invokevirtual 25, 3) := by decide +kernel
theorem dX0_keep_30 : decode cX0_keep 30 = .ok (.istore 5, 2) := by decide +kernel
theorem dX0_keep_32 : decode cX0_keep 32 = .ok (.aload_n 0, 1) := by decide +kernel
theorem dX0_keep_33 : decode cX0_keep 33 = .ok (.getfield 9, 3) := by decide +kernel
theorem dX0_keep_36 : decode cX0_keep 36 = .ok (.iload 4, 2) := by decide +kernel
theorem dX0_keep_38 : decode cX0_keep 38 = .ok (.iload 5, 2) := by decide +kernel
theorem dX0_keep_40 : decode cX0_keep 40 = .ok (.iastore, 1) := by decide +kernel
theorem dX0_keep_41 : decode cX0_keep 41 = .ok (.aload_n 0, 1) := by decide +kernel
theorem dX0_keep_42 : decode cX0_keep 42 = .ok (.dup, 1) := by decide +kernel
theorem dX0_keep_43 : decode cX0_keep 43 = .ok (.getfield 15, 3) := by decide +kernel
theorem dX0_keep_46 : decode cX0_keep 46 = .ok (.iload 5, 2) := by decide +kernel
theorem dX0_keep_48 : decode cX0_keep 48 = .ok (.ifCond .eq 10, 3) := by decide +kernel
theorem dX0_keep_51 : decode cX0_keep 51 = .ok (.iconst 1, 1) := by decide +kernel
theorem dX0_keep_52 : decode cX0_keep 52 = .ok (.iload 4, 2) := by decide +kernel
theorem dX0_keep_54 : decode cX0_keep 54 = .ok (.ishl, 1) := by decide +kernel
theorem dX0_keep_55 : decode cX0_keep 55 = .ok (.goto 4, 3) := by decide +kernel
theorem dX0_keep_58 : decode cX0_keep 58 = .ok (.iconst 0, 1) := by decide +kernel
theorem dX0_keep_59 : decode cX0_keep 59 = .ok (.ior, 1) := by decide +kernel
theorem dX0_keep_60 : decode cX0_keep 60 = .ok (.putfield 15, 3) := by decide +kernel
theorem dX0_keep_63 : decode cX0_keep 63 = .ok (.aload_n 0, 1) := by decide +kernel
theorem dX0_keep_64 : decode cX0_keep 64 = .ok (.dup, 1) := by decide +kernel
theorem dX0_keep_65 : decode cX0_keep 65 = .ok (.getfield 19, 3) := by decide +kernel
theorem dX0_keep_68 : decode cX0_keep 68 = .ok (.iload 5, 2) := by decide +kernel
theorem dX0_keep_70 : decode cX0_keep 70 = .ok (.aload_n 3, 1) := by decide +kernel
theorem dX0_keep_71 : decode cX0_keep 71 = .ok (.iload 4, 2) := by decide +kernel
theorem dX0_keep_73 : decode cX0_keep 73 = .ok (.iaload, 1) := by decide +kernel
theorem dX0_keep_74 : decode cX0_keep 74 = .ok (.invokestatic 31, 3) := by decide +kernel
theorem dX0_keep_77 : decode cX0_keep 77 = .ok (.ifCond .eq 10, 3) := by decide +kernel
theorem dX0_keep_80 : decode cX0_keep 80 = .ok (.iconst 1, 1) := by decide +kernel
theorem dX0_keep_81 : decode cX0_keep 81 = .ok (.iload 4, 2) := by decide +kernel
theorem dX0_keep_83 : decode cX0_keep 83 = .ok (.ishl, 1) := by decide +kernel
theorem dX0_keep_84 : decode cX0_keep 84 = .ok (.goto 4, 3) := by decide +kernel
theorem dX0_keep_87 : decode cX0_keep 87 = .ok (.iconst 0, 1) := by decide +kernel
theorem dX0_keep_88 : decode cX0_keep 88 = .ok (.ior, 1) := by decide +kernel
theorem dX0_keep_89 : decode cX0_keep 89 = .ok (.putfield 19, 3) := by decide +kernel
theorem dX0_keep_92 : decode cX0_keep 92 = .ok (.aload_n 0, 1) := by decide +kernel
theorem dX0_keep_93 : decode cX0_keep 93 = .ok (.dup, 1) := by decide +kernel
theorem dX0_keep_94 : decode cX0_keep 94 = .ok (.getfield 22, 3) := by decide +kernel
theorem dX0_keep_97 : decode cX0_keep 97 = .ok (.iload 5, 2) := by decide +kernel
theorem dX0_keep_99 : decode cX0_keep 99 = .ok (.aload_n 3, 1) := by decide +kernel
theorem dX0_keep_100 : decode cX0_keep 100 = .ok (.iload 4, 2) := by decide +kernel
theorem dX0_keep_102 : decode cX0_keep 102 = .ok (.iaload, 1) := by decide +kernel
theorem dX0_keep_103 : decode cX0_keep 103 = .ok (.invokestatic 35, 3) := by decide +kernel
theorem dX0_keep_106 : decode cX0_keep 106 = .ok (.ifCond .eq 10, 3) := by decide +kernel
theorem dX0_keep_109 : decode cX0_keep 109 = .ok (.iconst 1, 1) := by decide +kernel
theorem dX0_keep_110 : decode cX0_keep 110 = .ok (.iload 4, 2) := by decide +kernel
theorem dX0_keep_112 : decode cX0_keep 112 = .ok (.ishl, 1) := by decide +kernel
theorem dX0_keep_113 : decode cX0_keep 113 = .ok (.goto 4, 3) := by decide +kernel
theorem dX0_keep_116 : decode cX0_keep 116 = .ok (.iconst 0, 1) := by decide +kernel
theorem dX0_keep_117 : decode cX0_keep 117 = .ok (.ior, 1) := by decide +kernel
theorem dX0_keep_118 : decode cX0_keep 118 = .ok (.putfield 22, 3) := by decide +kernel
theorem dX0_keep_121 : decode cX0_keep 121 = .ok (.iinc 4 1, 3) := by decide +kernel
theorem dX0_keep_124 : decode cX0_keep 124 = .ok (.goto (-106), 3) := by decide +kernel
theorem dX0_keep_127 : decode cX0_keep 127 = .ok (.return_, 1) := by decide +kernel
set_option maxRecDepth 20000 in
theorem ggX1_init_J7_fill_53178 : GoodIn wsX1_init wsJ7_fill_53178 := goodIn_r _ [10] (by decide +kernel) (by decide +kernel)
set_option maxRecDepth 20000 in
theorem gX1_init_J7_fill_53178 : GoodIn wsX1_init (va_wsS RX1 18 yJ7_fill_53178 wsJ7_fill_53178) := goodIn_app (goodIn_of _ (by decide +kernel)) ggX1_init_J7_fill_53178
theorem dX1_init_0 : decode cX1_init 0 = .ok (.aload_n 0, 1) := by decide +kernel
theorem dX1_init_1 : decode cX1_init 1 = .ok (.invokespecial 3, 3) := by decide +kernel
theorem dX1_init_4 : decode cX1_init 4 = .ok (.aload_n 0, 1) := by decide +kernel
theorem dX1_init_5 : decode cX1_init 5 = .ok (.bipush 8, 2) := by decide +kernel
theorem dX1_init_7 : decode cX1_init 7 = .ok (.newarray .int, 2) := by decide +kernel
theorem dX1_init_9 : decode cX1_init 9 = .ok (.putfield 9, 3) := by decide +kernel
theorem dX1_init_12 : decode cX1_init 12 = .ok (.aload_n 0, 1) := by decide +kernel
theorem dX1_init_13 : decode cX1_init 13 = .ok (.sipush 448, 3) := by decide +kernel
theorem dX1_init_16 : decode cX1_init 16 = .ok (.newarray .int, 2) := by decide +kernel
theorem dX1_init_18 : decode cX1_init 18 = .ok (.putfield 15, 3) := by decide +kernel
theorem dX1_init_21 : decode cX1_init 21 = .ok (.aload_n 0, 1) := by decide +kernel
theorem dX1_init_22 : decode cX1_init 22 = .ok (.getfield 15, 3) := by decide +kernel
theorem dX1_init_25 : decode cX1_init 25 = .ok (.bipush 127, 2) := by decide +kernel
theorem dX1_init_27 : decode cX1_init 27 = .ok (.invokestatic 18, 3) := by decide +kernel
theorem dX1_init_30 : decode cX1_init 30 = .ok (.return_, 1) := by decide +kernel
theorem dX1_open_0 : decode cX1_open 0 = .ok (.aload_n 0, 1) := by decide +kernel
theorem dX1_open_1 : decode cX1_open 1 = .ok (.getfield 9, 3) := by decide +kernel
theorem dX1_open_4 : decode cX1_open 4 = .ok (.iload_n 1, 1) := by decide +kernel
theorem dX1_open_5 : decode cX1_open 5 = .ok (.iconst 2, 1) := by decide +kernel
theorem dX1_open_6 : decode cX1_open 6 = .ok (.iload_n 2, 1) := by decide +kernel
theorem dX1_open_7 : decode cX1_open 7 = .ok (.ishl, 1) := by decide +kernel
theorem dX1_open_8 : decode cX1_open 8 = .ok (.iconst 1, 1) := by decide +kernel
theorem dX1_open_9 : decode cX1_open 9 = .ok (.isub, 1) := by decide +kernel
theorem dX1_open_10 : decode cX1_open 10 = .ok (.iastore, 1) := by decide +kernel
theorem dX1_open_11 : decode cX1_open 11 = .ok (.return_, 1) := by decide +kernel
theorem dX1_narrow_0 : decode cX1_narrow 0 = .ok (.aload_n 0, 1) := by decide +kernel
theorem dX1_narrow_1 : decode cX1_narrow 1 = .ok (.getfield 9, 3) := by decide +kernel
theorem dX1_narrow_4 : decode cX1_narrow 4 = .ok (.iload_n 1, 1) := by decide +kernel
theorem dX1_narrow_5 : decode cX1_narrow 5 = .ok (.dup2, 1) := by decide +kernel
theorem dX1_narrow_6 : decode cX1_narrow 6 = .ok (.iaload, 1) := by decide +kernel
theorem dX1_narrow_7 : decode cX1_narrow 7 = .ok (.iload_n 2, 1) := by decide +kernel
theorem dX1_narrow_8 : decode cX1_narrow 8 = .ok (.iand, 1) := by decide +kernel
theorem dX1_narrow_9 : decode cX1_narrow 9 = .ok (.iastore, 1) := by decide +kernel
theorem dX1_narrow_10 : decode cX1_narrow 10 = .ok (.return_, 1) := by decide +kernel
set_option maxRecDepth 20000 in
theorem ggX1_tie_X1_narrow : GoodIn wsX1_tie wsX1_narrow := goodIn_ca (goodIn_r _ [6, 7, 11, 12] (by decide +kernel) (by decide +kernel)) (goodIn_sub (fun _ h => List.mem_cons_of_mem _ (List.mem_append_right _ h)) (by decide +kernel))
set_option maxRecDepth 20000 in
theorem gX1_tie_X1_narrow : GoodIn wsX1_tie (wsV RX1 24 RX1 yX1_narrow wsX1_narrow) := goodIn_app (goodIn_of _ (by decide +kernel)) ggX1_tie_X1_narrow
set_option maxRecDepth 20000 in
theorem ggX1_tie_X1_place : GoodIn wsX1_tie wsX1_place := goodIn_r _ [10] (by decide +kernel) (by decide +kernel)
set_option maxRecDepth 20000 in
theorem gX1_tie_X1_place : GoodIn wsX1_tie (va_wsS RX1 28 yX1_place wsX1_place) := goodIn_app (goodIn_of _ (by decide +kernel)) ggX1_tie_X1_place
theorem dX1_tie_0 : decode cX1_tie 0 = .ok (.iload_n 1, 1) := by decide +kernel
theorem dX1_tie_1 : decode cX1_tie 1 = .ok (.iload_n 3, 1) := by decide +kernel
theorem dX1_tie_2 : decode cX1_tie 2 = .ok (.if_icmp .ne 23, 3) := by decide +kernel
theorem dX1_tie_5 : decode cX1_tie 5 = .ok (.iload 4, 2) := by decide +kernel
theorem dX1_tie_7 : decode cX1_tie 7 = .ok (.iload_n 2, 1) := by decide +kernel
theorem dX1_tie_8 : decode cX1_tie 8 = .ok (.ishr, 1) := by decide +kernel
theorem dX1_tie_9 : decode cX1_tie 9 = .ok (.iconst 1, 1) := by decide +kernel
theorem dX1_tie_10 : decode cX1_tie 10 = .ok (.iand, 1) := by decide +kernel
theorem dX1_tie_11 : decode cX1_tie 11 = .ok (.ifCond .ne 13, 3) := by decide +kernel
theorem dX1_tie_14 : decode cX1_tie 14 = .ok (.aload_n 0, 1) := by decide +kernel
theorem dX1_tie_15 : decode cX1_tie 15 = .ok (.iload_n 1, 1) := by decide +kernel
theorem dX1_tie_16 : decode cX1_tie 16 = .ok (.iconst 1, 1) := by decide +kernel
theorem dX1_tie_17 : decode cX1_tie 17 = .ok (.iload_n 2, 1) := by decide +kernel
theorem dX1_tie_18 : decode cX1_tie 18 = .ok (.ishl, 1) := by decide +kernel
theorem dX1_tie_19 : decode cX1_tie 19 = .ok (.iconst (-1), 1) := by decide +kernel
theorem dX1_tie_20 : decode cX1_tie 20 = .ok (.ixor, 1) := by decide +kernel
theorem dX1_tie_21 : decode cX1_tie 21 = .ok (.invokevirtual 24, 3) := by decide +kernel
theorem dX1_tie_24 : decode cX1_tie 24 = .ok (.return_, 1) := by decide +kernel
theorem dX1_tie_25 : decode cX1_tie 25 = .ok (.aload_n 0, 1) := by decide +kernel
theorem dX1_tie_26 : decode cX1_tie 26 = .ok (.getfield 15, 3) := by decide +kernel
theorem dX1_tie_29 : decode cX1_tie 29 = .ok (.iload_n 1, 1) := by decide +kernel
theorem dX1_tie_30 : decode cX1_tie 30 = .ok (.iload_n 2, 1) := by decide +kernel
theorem dX1_tie_31 : decode cX1_tie 31 = .ok (.iload_n 3, 1) := by decide +kernel
theorem dX1_tie_32 : decode cX1_tie 32 = .ok (.invokestatic 28, 3) := by decide +kernel
theorem dX1_tie_35 : decode cX1_tie 35 = .ok (.dup2, 1) := by decide +kernel
theorem dX1_tie_36 : decode cX1_tie 36 = .ok (.iaload, 1) := by decide +kernel
theorem dX1_tie_37 : decode cX1_tie 37 = .ok (.iload 4, 2) := by decide +kernel
theorem dX1_tie_39 : decode cX1_tie 39 = .ok (.iand, 1) := by decide +kernel
theorem dX1_tie_40 : decode cX1_tie 40 = .ok (.iastore, 1) := by decide +kernel
theorem dX1_tie_41 : decode cX1_tie 41 = .ok (.iconst 0, 1) := by decide +kernel
theorem dX1_tie_42 : decode cX1_tie 42 = .ok (.istore 5, 2) := by decide +kernel
theorem dX1_tie_44 : decode cX1_tie 44 = .ok (.iload 5, 2) := by decide +kernel
theorem dX1_tie_46 : decode cX1_tie 46 = .ok (.bipush 7, 2) := by decide +kernel
theorem dX1_tie_48 : decode cX1_tie 48 = .ok (.if_icmp .ge 39, 3) := by decide +kernel
theorem dX1_tie_51 : decode cX1_tie 51 = .ok (.iload 4, 2) := by decide +kernel
theorem dX1_tie_53 : decode cX1_tie 53 = .ok (.iload 5, 2) := by decide +kernel
theorem dX1_tie_55 : decode cX1_tie 55 = .ok (.ishr, 1) := by decide +kernel
theorem dX1_tie_56 : decode cX1_tie 56 = .ok (.iconst 1, 1) := by decide +kernel
theorem dX1_tie_57 : decode cX1_tie 57 = .ok (.iand, 1) := by decide +kernel
theorem dX1_tie_58 : decode cX1_tie 58 = .ok (.ifCond .ne 23, 3) := by decide +kernel
theorem dX1_tie_61 : decode cX1_tie 61 = .ok (.aload_n 0, 1) := by decide +kernel
theorem dX1_tie_62 : decode cX1_tie 62 = .ok (.getfield 15, 3) := by decide +kernel
theorem dX1_tie_65 : decode cX1_tie 65 = .ok (.iload_n 3, 1) := by decide +kernel
theorem dX1_tie_66 : decode cX1_tie 66 = .ok (.iload 5, 2) := by decide +kernel
theorem dX1_tie_68 : decode cX1_tie 68 = .ok (.iload_n 1, 1) := by decide +kernel
theorem dX1_tie_69 : decode cX1_tie 69 = .ok (.invokestatic 28, 3) := by decide +kernel
theorem dX1_tie_72 : decode cX1_tie 72 = .ok (.dup2, 1) := by decide +kernel
theorem dX1_tie_73 : decode cX1_tie 73 = .ok (.iaload, 1) := by decide +kernel
theorem dX1_tie_74 : decode cX1_tie 74 = .ok (.iconst 1, 1) := by decide +kernel
theorem dX1_tie_75 : decode cX1_tie 75 = .ok (.iload_n 2, 1) := by decide +kernel
theorem dX1_tie_76 : decode cX1_tie 76 = .ok (.ishl, 1) := by decide +kernel
theorem dX1_tie_77 : decode cX1_tie 77 = .ok (.iconst (-1), 1) := by decide +kernel
theorem dX1_tie_78 : decode cX1_tie 78 = .ok (.ixor, 1) := by decide +kernel
theorem dX1_tie_79 : decode cX1_tie 79 = .ok (.iand, 1) := by decide +kernel
theorem dX1_tie_80 : decode cX1_tie 80 = .ok (.iastore, 1) := by decide +kernel
theorem dX1_tie_81 : decode cX1_tie 81 = .ok (.iinc 5 1, 3) := by decide +kernel
theorem dX1_tie_84 : decode cX1_tie 84 = .ok (.goto (-40), 3) := by decide +kernel
theorem dX1_tie_87 : decode cX1_tie 87 = .ok (.return_, 1) := by decide +kernel
theorem dX1_place_0 : decode cX1_place 0 = .ok (.iload_n 0, 1) := by decide +kernel
theorem dX1_place_1 : decode cX1_place 1 = .ok (.bipush 7, 2) := by decide +kernel
theorem dX1_place_3 : decode cX1_place 3 = .ok (.imul, 1) := by decide +kernel
theorem dX1_place_4 : decode cX1_place 4 = .ok (.iload_n 1, 1) := by decide +kernel
theorem dX1_place_5 : decode cX1_place 5 = .ok (.iadd, 1) := by decide +kernel
theorem dX1_place_6 : decode cX1_place 6 = .ok (.bipush 8, 2) := by decide +kernel
theorem dX1_place_8 : decode cX1_place 8 = .ok (.imul, 1) := by decide +kernel
theorem dX1_place_9 : decode cX1_place 9 = .ok (.iload_n 2, 1) := by decide +kernel
theorem dX1_place_10 : decode cX1_place 10 = .ok (.iadd, 1) := by decide +kernel
theorem dX1_place_11 : decode cX1_place 11 = .ok (.ireturn, 1) := by decide +kernel
theorem dX2_init_0 : decode cX2_init 0 = .ok (.aload_n 0, 1) := by decide +kernel
theorem dX2_init_1 : decode cX2_init 1 = .ok (.invokespecial 5, 3) := by decide +kernel
theorem dX2_init_4 : decode cX2_init 4 = .ok (.aload_n 0, 1) := by decide +kernel
theorem dX2_init_5 : decode cX2_init 5 = .ok (.bipush 72, 2) := by decide +kernel
theorem dX2_init_7 : decode cX2_init 7 = .ok (.newarray .int, 2) := by decide +kernel
theorem dX2_init_9 : decode cX2_init 9 = .ok (.putfield 11, 3) := by decide +kernel
theorem dX2_init_12 : decode cX2_init 12 = .ok (.aload_n 0, 1) := by decide +kernel
theorem dX2_init_13 : decode cX2_init 13 = .ok (.bipush 8, 2) := by decide +kernel
theorem dX2_init_15 : decode cX2_init 15 = .ok (.newarray .int, 2) := by decide +kernel
theorem dX2_init_17 : decode cX2_init 17 = .ok (.putfield 15, 3) := by decide +kernel
theorem dX2_init_20 : decode cX2_init 20 = .ok (.aload_n 0, 1) := by decide +kernel
theorem dX2_init_21 : decode cX2_init 21 = .ok (.bipush 8, 2) := by decide +kernel
theorem dX2_init_23 : decode cX2_init 23 = .ok (.newarray .int, 2) := by decide +kernel
theorem dX2_init_25 : decode cX2_init 25 = .ok (.putfield 18, 3) := by decide +kernel
theorem dX2_init_28 : decode cX2_init 28 = .ok (.aload_n 0, 1) := by decide +kernel
theorem dX2_init_29 : decode cX2_init 29 = .ok (.bipush 8, 2) := by decide +kernel
theorem dX2_init_31 : decode cX2_init 31 = .ok (.newarray .int, 2) := by decide +kernel
theorem dX2_init_33 : decode cX2_init 33 = .ok (.putfield 21, 3) := by decide +kernel
theorem dX2_init_36 : decode cX2_init 36 = .ok (.aload_n 0, 1) := by decide +kernel
theorem dX2_init_37 : decode cX2_init 37 = .ok (.iconst 0, 1) := by decide +kernel
theorem dX2_init_38 : decode cX2_init 38 = .ok (.putfield 24, 3) := by decide +kernel
theorem dX2_init_41 : decode cX2_init 41 = .ok (.aload_n 0, 1) := by decide +kernel
theorem dX2_init_42 : decode cX2_init 42 = .ok (.sipush 144, 3) := by decide +kernel
theorem dX2_init_45 : decode cX2_init 45 = .ok (.putfield 28, 3) := by decide +kernel
theorem dX2_init_48 : decode cX2_init 48 = .ok (.aload_n 0, 1) := by decide +kernel
theorem dX2_init_49 : decode cX2_init 49 = .ok (.sipush 144, 3) := by decide +kernel
theorem dX2_init_52 : decode cX2_init 52 = .ok (.putfield 31, 3) := by decide +kernel
theorem dX2_init_55 : decode cX2_init 55 = .ok (.aload_n 0, 1) := by decide +kernel
theorem dX2_init_56 : decode cX2_init 56 = .ok (.iconst 0, 1) := by decide +kernel
theorem dX2_init_57 : decode cX2_init 57 = .ok (.putfield 34, 3) := by decide +kernel
theorem dX2_init_60 : decode cX2_init 60 = .ok (.aload_n 0, 1) := by decide +kernel
theorem dX2_init_61 : decode cX2_init 61 = .ok (.aload_n 1, 1) := by decide +kernel
theorem dX2_init_62 : decode cX2_init 62 = .ok (.putfield 38, 3) := by decide +kernel
theorem dX2_init_65 : decode cX2_init 65 = .ok (.return_, 1) := by decide +kernel
set_option maxRecDepth 20000 in
theorem ggX2_findBest_X2_find : GoodIn wsX2_findBest wsX2_find := goodIn_ca (goodIn_r _ [6, 7, 8, 9, 10, 11, 12, 13, 14, 15, 5, 16, 17, 18, 19, 20, 21, 22, 1, 23, 24, 25, 26, 27, 28, 29, 30, 31, 32, 33, 34, 35, 36, 37, 38, 39, 40, 41, 42, 43, 44, 45, 46, 47, 48, 49, 50, 51, 52, 53, 54, 55, 56, 57, 58, 59, 60, 61, 62, 63, 64, 65, 66] (by decide +kernel) (by decide +kernel)) (goodIn_sub (fun _ h => List.mem_cons_of_mem _ (List.mem_append_right _ h)) (by decide +kernel))
set_option maxRecDepth 20000 in
theorem gX2_findBest_X2_find : GoodIn wsX2_findBest (wsV RX2 42 RX2 yX2_find wsX2_find) := goodIn_app (goodIn_of _ (by decide +kernel)) ggX2_findBest_X2_find
theorem dX2_findBest_0 : decode cX2_findBest 0 = .ok (.aload_n 0, 1) := by decide +kernel
theorem dX2_findBest_1 : decode cX2_findBest 1 = .ok (.iconst 0, 1) := by decide +kernel
theorem dX2_findBest_2 : decode cX2_findBest 2 = .ok (.putfield 34, 3) := by decide +kernel
theorem dX2_findBest_5 : decode cX2_findBest 5 = .ok (.aload_n 0, 1) := by decide +kernel
theorem dX2_findBest_6 : decode cX2_findBest 6 = .ok (.iload_n 1, 1) := by decide +kernel
theorem dX2_findBest_7 : decode cX2_findBest 7 = .ok (.aload_n 2, 1) := by decide +kernel
theorem dX2_findBest_8 : decode cX2_findBest 8 = .ok (.aload_n 3, 1) := by decide +kernel
theorem dX2_findBest_9 : decode cX2_findBest 9 = .ok (.invokevirtual 42, 3) := by decide +kernel
theorem dX2_findBest_12 : decode cX2_findBest 12 = .ok (.ireturn, 1) := by decide +kernel
set_option maxRecDepth 20000 in
theorem ggX2_findFirst_X2_find : GoodIn wsX2_findFirst wsX2_find := goodIn_ca (goodIn_r _ [6, 7, 8, 9, 10, 11, 12, 13, 14, 15, 5, 16, 17, 18, 19, 20, 21, 22, 1, 23, 24, 25, 26, 27, 28, 29, 30, 31, 32, 33, 34, 35, 36, 37, 38, 39, 40, 41, 42, 43, 44, 45, 46, 47, 48, 49, 50, 51, 52, 53, 54, 55, 56, 57, 58, 59, 60, 61, 62, 63, 64, 65, 66] (by decide +kernel) (by decide +kernel)) (goodIn_sub (fun _ h => List.mem_cons_of_mem _ (List.mem_append_right _ h)) (by decide +kernel))
set_option maxRecDepth 20000 in
theorem gX2_findFirst_X2_find : GoodIn wsX2_findFirst (wsV RX2 42 RX2 yX2_find wsX2_find) := goodIn_app (goodIn_of _ (by decide +kernel)) ggX2_findFirst_X2_find
theorem dX2_findFirst_0 : decode cX2_findFirst 0 = .ok (.aload_n 0, 1) := by decide +kernel
theorem dX2_findFirst_1 : decode cX2_findFirst 1 = .ok (.iconst 1, 1) := by decide +kernel
theorem dX2_findFirst_2 : decode cX2_findFirst 2 = .ok (.putfield 34, 3) := by decide +kernel
theorem dX2_findFirst_5 : decode cX2_findFirst 5 = .ok (.aload_n 0, 1) := by decide +kernel
theorem dX2_findFirst_6 : decode cX2_findFirst 6 = .ok (.iload_n 1, 1) := by decide +kernel
theorem dX2_findFirst_7 : decode cX2_findFirst 7 = .ok (.aload_n 2, 1) := by decide +kernel
theorem dX2_findFirst_8 : decode cX2_findFirst 8 = .ok (.aload_n 3, 1) := by decide +kernel
theorem dX2_findFirst_9 : decode cX2_findFirst 9 = .ok (.invokevirtual 42, 3) := by decide +kernel
theorem dX2_findFirst_12 : decode cX2_findFirst 12 = .ok (.ireturn, 1) := by decide +kernel
theorem dX2_changedCount_0 : decode cX2_changedCount 0 = .ok (.aload_n 0, 1) := by decide +kernel
theorem dX2_changedCount_1 : decode cX2_changedCount 1 = .ok (.getfield 28, 3) := by decide +kernel
theorem dX2_changedCount_4 : decode cX2_changedCount 4 = .ok (.bipush 16, 2) := by decide +kernel
theorem dX2_changedCount_6 : decode cX2_changedCount 6 = .ok (.idiv, 1) := by decide +kernel
theorem dX2_changedCount_7 : decode cX2_changedCount 7 = .ok (.ireturn, 1) := by decide +kernel
theorem dX2_keptCode_0 : decode cX2_keptCode 0 = .ok (.aload_n 0, 1) := by decide +kernel
theorem dX2_keptCode_1 : decode cX2_keptCode 1 = .ok (.getfield 21, 3) := by decide +kernel
theorem dX2_keptCode_4 : decode cX2_keptCode 4 = .ok (.iload_n 1, 1) := by decide +kernel
theorem dX2_keptCode_5 : decode cX2_keptCode 5 = .ok (.iaload, 1) := by decide +kernel
theorem dX2_keptCode_6 : decode cX2_keptCode 6 = .ok (.ireturn, 1) := by decide +kernel
set_option maxRecDepth 20000 in
theorem ggX2_find_X2_giveFrom : GoodIn wsX2_find wsX2_giveFrom := goodIn_ca (goodIn_r _ [11, 1, 5, 4, 12, 13, 14, 10, 15, 16, 17, 2, 18, 3, 19, 20, 21, 22, 23, 24, 25, 26, 27, 28, 29, 30, 31, 32, 33, 34, 6, 35, 36, 37, 38, 39, 40, 41, 42, 43, 44, 45, 46, 47, 48, 49, 50, 51, 7, 8, 9, 52, 53, 54, 55, 56, 57, 58, 59, 60, 61, 62] (by decide +kernel) (by decide +kernel)) (goodIn_sub (fun _ h => List.mem_cons_of_mem _ (List.mem_append_right _ h)) (by decide +kernel))
set_option maxRecDepth 20000 in
theorem gX2_find_X2_giveFrom : GoodIn wsX2_find (wsV RX2 51 RX2 yX2_giveFrom wsX2_giveFrom) := goodIn_app (goodIn_of _ (by decide +kernel)) ggX2_find_X2_giveFrom
theorem dX2_find_0 : decode cX2_find 0 = .ok (.aload_n 0, 1) := by decide +kernel
theorem dX2_find_1 : decode cX2_find 1 = .ok (.iload_n 1, 1) := by decide +kernel
theorem dX2_find_2 : decode cX2_find 2 = .ok (.putfield 24, 3) := by decide +kernel
theorem dX2_find_5 : decode cX2_find 5 = .ok (.aload_n 0, 1) := by decide +kernel
theorem dX2_find_6 : decode cX2_find 6 = .ok (.sipush 144, 3) := by decide +kernel
theorem dX2_find_9 : decode cX2_find 9 = .ok (.putfield 28, 3) := by decide +kernel
theorem dX2_find_12 : decode cX2_find 12 = .ok (.aload_n 0, 1) := by decide +kernel
theorem dX2_find_13 : decode cX2_find 13 = .ok (.sipush 144, 3) := by decide +kernel
theorem dX2_find_16 : decode cX2_find 16 = .ok (.putfield 31, 3) := by decide +kernel
theorem dX2_find_19 : decode cX2_find 19 = .ok (.iconst 0, 1) := by decide +kernel
theorem dX2_find_20 : decode cX2_find 20 = .ok (.istore 4, 2) := by decide +kernel
theorem dX2_find_22 : decode cX2_find 22 = .ok (.iload 4, 2) := by decide +kernel
theorem dX2_find_24 : decode cX2_find 24 = .ok (.iload_n 1, 1) := by decide +kernel
theorem dX2_find_25 : decode cX2_find 25 = .ok (.if_icmp .ge 44, 3) := by decide +kernel
theorem dX2_find_28 : decode cX2_find 28 = .ok (.aload_n 0, 1) := by decide +kernel
theorem dX2_find_29 : decode cX2_find 29 = .ok (.getfield 15, 3) := by decide +kernel
theorem dX2_find_32 : decode cX2_find 32 = .ok (.iload 4, 2) := by decide +kernel
theorem dX2_find_34 : decode cX2_find 34 = .ok (.aload_n 2, 1) := by decide +kernel
theorem dX2_find_35 : decode cX2_find 35 = .ok (.iload 4, 2) := by decide +kernel
theorem dX2_find_37 : decode cX2_find 37 = .ok (.iaload, 1) := by decide +kernel
theorem dX2_find_38 : decode cX2_find 38 = .ok (.iastore, 1) := by decide +kernel
theorem dX2_find_39 : decode cX2_find 39 = .ok (.aload_n 0, 1) := by decide +kernel
theorem dX2_find_40 : decode cX2_find 40 = .ok (.getfield 11, 3) := by decide +kernel
theorem dX2_find_43 : decode cX2_find 43 = .ok (.iload 4, 2) := by decide +kernel
theorem dX2_find_45 : decode cX2_find 45 = .ok (.aload_n 0, 1) := by decide +kernel
theorem dX2_find_46 : decode cX2_find 46 = .ok (.getfield 38, 3) := by decide +kernel
theorem dX2_find_49 : decode cX2_find 49 = .ok (.getfield 46, 3) := by decide +kernel
theorem dX2_find_52 : decode cX2_find 52 = .ok (.iload 4, 2) := by decide +kernel
theorem dX2_find_54 : decode cX2_find 54 = .ok (.iaload, 1) := by decide +kernel
theorem dX2_find_55 : decode cX2_find 55 = .ok (.aload_n 3, 1) := by decide +kernel
theorem dX2_find_56 : decode cX2_find 56 = .ok (.iload 4, 2) := by decide +kernel
theorem dX2_find_58 : decode cX2_find 58 = .ok (.iaload, 1) := by decide +kernel
theorem dX2_find_59 : decode cX2_find 59 = .ok (.iconst (-1), 1) := by decide +kernel
theorem dX2_find_60 : decode cX2_find 60 = .ok (.ixor, 1) := by decide +kernel
theorem dX2_find_61 : decode cX2_find 61 = .ok (.iand, 1) := by decide +kernel
theorem dX2_find_62 : decode cX2_find 62 = .ok (.iastore, 1) := by decide +kernel
theorem dX2_find_63 : decode cX2_find 63 = .ok (.iinc 4 1, 3) := by decide +kernel
theorem dX2_find_66 : decode cX2_find 66 = .ok (.goto (-44), 3) := by decide +kernel
theorem dX2_find_69 : decode cX2_find 69 = .ok (.aload_n 0, 1) := by decide +kernel
theorem dX2_find_70 : decode cX2_find 70 = .ok (.iconst 0, 1) := by decide +kernel
theorem dX2_find_71 : decode cX2_find 71 = .ok (.iconst 0, 1) := by decide +kernel
theorem dX2_find_72 : decode cX2_find 72 = .ok (.invokevirtual 51, 3) := by decide +kernel
theorem dX2_find_75 : decode cX2_find 75 = .ok (.aload_n 0, 1) := by decide +kernel
theorem dX2_find_76 : decode cX2_find 76 = .ok (.getfield 28, 3) := by decide +kernel
theorem dX2_find_79 : decode cX2_find 79 = .ok (.sipush 144, 3) := by decide +kernel
theorem dX2_find_82 : decode cX2_find 82 = .ok (.if_icmp .ge 7, 3) := by decide +kernel
theorem dX2_find_85 : decode cX2_find 85 = .ok (.iconst 1, 1) := by decide +kernel
theorem dX2_find_86 : decode cX2_find 86 = .ok (.goto 4, 3) := by decide +kernel
theorem dX2_find_89 : decode cX2_find 89 = .ok (.iconst 0, 1) := by decide +kernel
theorem dX2_find_90 : decode cX2_find 90 = .ok (.ireturn, 1) := by decide +kernel
set_option maxRecDepth 20000 in
theorem ggX2_giveFrom_X2_keep : GoodIn wsX2_giveFrom wsX2_keep := goodIn_ca (goodIn_r _ [8, 1, 9, 10, 11, 12, 13, 51, 52, 53, 54, 55, 56, 57, 58, 59] (by decide +kernel) (by decide +kernel)) (goodIn_sub (fun _ h => List.mem_cons_of_mem _ (List.mem_append_right _ h)) (by decide +kernel))
set_option maxRecDepth 20000 in
theorem gX2_giveFrom_X2_keep : GoodIn wsX2_giveFrom (wsV RX2 55 RX2 yX2_keep wsX2_keep) := goodIn_app (goodIn_of _ (by decide +kernel)) ggX2_giveFrom_X2_keep
set_option maxRecDepth 20000 in
theorem ggX2_giveFrom_X2_give : GoodIn wsX2_giveFrom wsX2_give := goodIn_ca (goodIn_r _ [17, 3, 13, 10, 18, 19, 7, 20, 21, 22, 23, 24, 25, 26, 27, 28, 29, 1, 2, 30, 31, 32, 33, 34, 35, 36, 37, 38, 39, 40, 41, 42, 43, 44, 45, 46, 47, 48, 49, 50, 0, 4, 5, 6, 8, 9, 11, 12, 14, 15, 16, 51, 52, 53, 54, 55, 56, 57, 58, 59, 60, 61] (by decide +kernel) (by decide +kernel)) (goodIn_sub (fun _ h => List.mem_cons_of_mem _ (List.mem_append_right _ h)) (by decide +kernel))
set_option maxRecDepth 20000 in
theorem gX2_giveFrom_X2_give : GoodIn wsX2_giveFrom (wsV RX2 59 RX2 yX2_give wsX2_give) := goodIn_app (goodIn_of _ (by decide +kernel)) ggX2_giveFrom_X2_give
theorem dX2_giveFrom_0 : decode cX2_giveFrom 0 = .ok (.iload_n 1, 1) := by decide +kernel
theorem dX2_giveFrom_1 : decode cX2_giveFrom 1 = .ok (.aload_n 0, 1) := by decide +kernel
theorem dX2_giveFrom_2 : decode cX2_giveFrom 2 = .ok (.getfield 24, 3) := by decide +kernel
theorem dX2_giveFrom_5 : decode cX2_giveFrom 5 = .ok (.if_icmp .lt 9, 3) := by decide +kernel
theorem dX2_giveFrom_8 : decode cX2_giveFrom 8 = .ok (.aload_n 0, 1) := by decide +kernel
theorem dX2_giveFrom_9 : decode cX2_giveFrom 9 = .ok (.iload_n 2, 1) := by decide +kernel
theorem dX2_giveFrom_10 : decode cX2_giveFrom 10 = .ok (.invokevirtual 55, 3) := by decide +kernel
theorem dX2_giveFrom_13 : decode cX2_giveFrom 13 = .ok (.return_, 1) := by decide +kernel
theorem dX2_giveFrom_14 : decode cX2_giveFrom 14 = .ok (.aload_n 0, 1) := by decide +kernel
theorem dX2_giveFrom_15 : decode cX2_giveFrom 15 = .ok (.getfield 11, 3) := by decide +kernel
theorem dX2_giveFrom_18 : decode cX2_giveFrom 18 = .ok (.iload_n 1, 1) := by decide +kernel
theorem dX2_giveFrom_19 : decode cX2_giveFrom 19 = .ok (.bipush 8, 2) := by decide +kernel
theorem dX2_giveFrom_21 : decode cX2_giveFrom 21 = .ok (.imul, 1) := by decide +kernel
theorem dX2_giveFrom_22 : decode cX2_giveFrom 22 = .ok (.iload_n 1, 1) := by decide +kernel
theorem dX2_giveFrom_23 : decode cX2_giveFrom 23 = .ok (.iadd, 1) := by decide +kernel
theorem dX2_giveFrom_24 : decode cX2_giveFrom 24 = .ok (.iaload, 1) := by decide +kernel
theorem dX2_giveFrom_25 : decode cX2_giveFrom 25 = .ok (.istore_n 3, 1) := by decide +kernel
theorem dX2_giveFrom_26 : decode cX2_giveFrom 26 = .ok (.aload_n 0, 1) := by decide +kernel
theorem dX2_giveFrom_27 : decode cX2_giveFrom 27 = .ok (.getfield 15, 3) := by decide +kernel
theorem dX2_giveFrom_30 : decode cX2_giveFrom 30 = .ok (.iload_n 1, 1) := by decide +kernel
theorem dX2_giveFrom_31 : decode cX2_giveFrom 31 = .ok (.iaload, 1) := by decide +kernel
theorem dX2_giveFrom_32 : decode cX2_giveFrom 32 = .ok (.istore 4, 2) := by decide +kernel
theorem dX2_giveFrom_34 : decode cX2_giveFrom 34 = .ok (.iconst 0, 1) := by decide +kernel
theorem dX2_giveFrom_35 : decode cX2_giveFrom 35 = .ok (.istore 5, 2) := by decide +kernel
theorem dX2_giveFrom_37 : decode cX2_giveFrom 37 = .ok (.iload_n 3, 1) := by decide +kernel
theorem dX2_giveFrom_38 : decode cX2_giveFrom 38 = .ok (.iload 4, 2) := by decide +kernel
theorem dX2_giveFrom_40 : decode cX2_giveFrom 40 = .ok (.ishr, 1) := by decide +kernel
theorem dX2_giveFrom_41 : decode cX2_giveFrom 41 = .ok (.iconst 1, 1) := by decide +kernel
theorem dX2_giveFrom_42 : decode cX2_giveFrom 42 = .ok (.iand, 1) := by decide +kernel
theorem dX2_giveFrom_43 : decode cX2_giveFrom 43 = .ok (.ifCond .eq 19, 3) := by decide +kernel
theorem dX2_giveFrom_46 : decode cX2_giveFrom 46 = .ok (.aload_n 0, 1) := by decide +kernel
theorem dX2_giveFrom_47 : decode cX2_giveFrom 47 = .ok (.iload_n 1, 1) := by decide +kernel
theorem dX2_giveFrom_48 : decode cX2_giveFrom 48 = .ok (.iload 4, 2) := by decide +kernel
theorem dX2_giveFrom_50 : decode cX2_giveFrom 50 = .ok (.iload_n 2, 1) := by decide +kernel
theorem dX2_giveFrom_51 : decode cX2_giveFrom 51 = .ok (.iload 5, 2) := by decide +kernel
theorem dX2_giveFrom_53 : decode cX2_giveFrom 53 = .ok (.invokevirtual 59, 3) := by decide +kernel
theorem dX2_giveFrom_56 : decode cX2_giveFrom 56 = .ok (.iconst 1, 1) := by decide +kernel
theorem dX2_giveFrom_57 : decode cX2_giveFrom 57 = .ok (.iload 4, 2) := by decide +kernel
theorem dX2_giveFrom_59 : decode cX2_giveFrom 59 = .ok (.ishl, 1) := by decide +kernel
theorem dX2_giveFrom_60 : decode cX2_giveFrom 60 = .ok (.istore 5, 2) := by decide +kernel
theorem dX2_giveFrom_62 : decode cX2_giveFrom 62 = .ok (.bipush 6, 2) := by decide +kernel
theorem dX2_giveFrom_64 : decode cX2_giveFrom 64 = .ok (.istore 6, 2) := by decide +kernel
theorem dX2_giveFrom_66 : decode cX2_giveFrom 66 = .ok (.iload 6, 2) := by decide +kernel
theorem dX2_giveFrom_68 : decode cX2_giveFrom 68 = .ok (.ifCond .lt 44, 3) := by decide +kernel
theorem dX2_giveFrom_71 : decode cX2_giveFrom 71 = .ok (.iload 6, 2) := by decide +kernel
theorem dX2_giveFrom_73 : decode cX2_giveFrom 73 = .ok (.iload 4, 2) := by decide +kernel
theorem dX2_giveFrom_75 : decode cX2_giveFrom 75 = .ok (.if_icmp .eq 31, 3) := by decide +kernel
theorem dX2_giveFrom_78 : decode cX2_giveFrom 78 = .ok (.iload_n 3, 1) := by decide +kernel
theorem dX2_giveFrom_79 : decode cX2_giveFrom 79 = .ok (.iload 6, 2) := by decide +kernel
theorem dX2_giveFrom_81 : decode cX2_giveFrom 81 = .ok (.ishr, 1) := by decide +kernel
theorem dX2_giveFrom_82 : decode cX2_giveFrom 82 = .ok (.iconst 1, 1) := by decide +kernel
theorem dX2_giveFrom_83 : decode cX2_giveFrom 83 = .ok (.iand, 1) := by decide +kernel
theorem dX2_giveFrom_84 : decode cX2_giveFrom 84 = .ok (.ifCond .eq 22, 3) := by decide +kernel
theorem dX2_giveFrom_87 : decode cX2_giveFrom 87 = .ok (.aload_n 0, 1) := by decide +kernel
theorem dX2_giveFrom_88 : decode cX2_giveFrom 88 = .ok (.iload_n 1, 1) := by decide +kernel
theorem dX2_giveFrom_89 : decode cX2_giveFrom 89 = .ok (.iload 6, 2) := by decide +kernel
theorem dX2_giveFrom_91 : decode cX2_giveFrom 91 = .ok (.iload_n 2, 1) := by decide +kernel
theorem dX2_giveFrom_92 : decode cX2_giveFrom 92 = .ok (.iload 5, 2) := by decide +kernel
theorem dX2_giveFrom_94 : decode cX2_giveFrom 94 = .ok (.invokevirtual 59, 3) := by decide +kernel
theorem dX2_giveFrom_97 : decode cX2_giveFrom 97 = .ok (.iload 5, 2) := by decide +kernel
theorem dX2_giveFrom_99 : decode cX2_giveFrom 99 = .ok (.iconst 1, 1) := by decide +kernel
theorem dX2_giveFrom_100 : decode cX2_giveFrom 100 = .ok (.iload 6, 2) := by decide +kernel
theorem dX2_giveFrom_102 : decode cX2_giveFrom 102 = .ok (.ishl, 1) := by decide +kernel
theorem dX2_giveFrom_103 : decode cX2_giveFrom 103 = .ok (.ior, 1) := by decide +kernel
theorem dX2_giveFrom_104 : decode cX2_giveFrom 104 = .ok (.istore 5, 2) := by decide +kernel
theorem dX2_giveFrom_106 : decode cX2_giveFrom 106 = .ok (.iinc 6 (-1), 3) := by decide +kernel
theorem dX2_giveFrom_109 : decode cX2_giveFrom 109 = .ok (.goto (-43), 3) := by decide +kernel
theorem dX2_giveFrom_112 : decode cX2_giveFrom 112 = .ok (.return_, 1) := by decide +kernel
set_option maxRecDepth 20000 in
theorem ggX2_give_X2_costOf : GoodIn wsX2_give wsX2_costOf := goodIn_r _ [7, 8, 9, 10, 11, 12] (by decide +kernel) (by decide +kernel)
set_option maxRecDepth 20000 in
theorem gX2_give_X2_costOf : GoodIn wsX2_give (va_wsS RX2 63 yX2_costOf wsX2_costOf) := goodIn_app (goodIn_of _ (by decide +kernel)) ggX2_give_X2_costOf
set_option maxRecDepth 20000 in
theorem ggX2_give_X2_narrowRest : GoodIn wsX2_give wsX2_narrowRest := goodIn_ca (goodIn_r _ [16, 17, 18, 19, 1, 20, 21, 22, 23, 24, 6, 25, 51, 52, 53, 54, 55, 56, 57, 58, 59, 60, 61] (by decide +kernel) (by decide +kernel)) (goodIn_sub (fun _ h => List.mem_cons_of_mem _ (List.mem_append_right _ h)) (by decide +kernel))
set_option maxRecDepth 20000 in
theorem gX2_give_X2_narrowRest : GoodIn wsX2_give (wsV RX2 67 RX2 yX2_narrowRest wsX2_narrowRest) := goodIn_app (goodIn_of _ (by decide +kernel)) ggX2_give_X2_narrowRest
set_option maxRecDepth 20000 in
theorem ggX2_give_X2_isNeedless : GoodIn wsX2_give wsX2_isNeedless := goodIn_ca (goodIn_r _ [29, 1, 11, 9, 12, 30, 31, 6, 32, 20, 21, 22, 33, 34, 35, 36, 17, 18, 19, 51, 52, 53, 54, 55, 56, 57, 58, 59, 60, 61] (by decide +kernel) (by decide +kernel)) (goodIn_sub (fun _ h => List.mem_cons_of_mem _ (List.mem_append_right _ h)) (by decide +kernel))
set_option maxRecDepth 20000 in
theorem gX2_give_X2_isNeedless : GoodIn wsX2_give (wsV RX2 71 RX2 yX2_isNeedless wsX2_isNeedless) := goodIn_app (goodIn_of _ (by decide +kernel)) ggX2_give_X2_isNeedless
set_option maxRecDepth 20000 in
theorem ggX2_give_X2_giveFrom : GoodIn wsX2_give wsX2_giveFrom := goodIn_ca (goodIn_r _ [40, 17, 18, 1, 41, 42, 43, 6, 44, 45, 3, 46, 47, 2, 48, 49, 50, 0, 4, 5, 7, 8, 9, 10, 11, 12, 13, 14, 15, 16, 19, 20, 21, 22, 23, 24, 25, 26, 27, 28, 29, 30, 31, 32, 33, 34, 35, 36, 37, 38, 39, 51, 52, 53, 54, 55, 56, 57, 58, 59, 60, 61] (by decide +kernel) (by decide +kernel)) (goodIn_sub (fun _ h => List.mem_cons_of_mem _ (List.mem_append_right _ h)) (by decide +kernel))
set_option maxRecDepth 20000 in
theorem gX2_give_X2_giveFrom : GoodIn wsX2_give (wsV RX2 51 RX2 yX2_giveFrom wsX2_giveFrom) := goodIn_app (goodIn_of _ (by decide +kernel)) ggX2_give_X2_giveFrom
theorem dX2_give_0 : decode cX2_give 0 = .ok (.iload_n 3, 1) := by decide +kernel
theorem dX2_give_1 : decode cX2_give 1 = .ok (.iload_n 2, 1) := by decide +kernel
theorem dX2_give_2 : decode cX2_give 2 = .ok (.aload_n 0, 1) := by decide +kernel
theorem dX2_give_3 : decode cX2_give 3 = .ok (.getfield 15, 3) := by decide +kernel
theorem dX2_give_6 : decode cX2_give 6 = .ok (.iload_n 1, 1) := by decide +kernel
theorem dX2_give_7 : decode cX2_give 7 = .ok (.iaload, 1) := by decide +kernel
theorem dX2_give_8 : decode cX2_give 8 = .ok (.invokestatic 63, 3) := by decide +kernel
theorem dX2_give_11 : decode cX2_give 11 = .ok (.iadd, 1) := by decide +kernel
theorem dX2_give_12 : decode cX2_give 12 = .ok (.istore 5, 2) := by decide +kernel
theorem dX2_give_14 : decode cX2_give 14 = .ok (.iload 5, 2) := by decide +kernel
theorem dX2_give_16 : decode cX2_give 16 = .ok (.aload_n 0, 1) := by decide +kernel
theorem dX2_give_17 : decode cX2_give 17 = .ok (.iload_n 1, 1) := by decide +kernel
theorem dX2_give_18 : decode cX2_give 18 = .ok (.iload_n 2, 1) := by decide +kernel
theorem dX2_give_19 : decode cX2_give 19 = .ok (.aload_n 0, 1) := by decide +kernel
theorem dX2_give_20 : decode cX2_give 20 = .ok (.getfield 31, 3) := by decide +kernel
theorem dX2_give_23 : decode cX2_give 23 = .ok (.iload 5, 2) := by decide +kernel
theorem dX2_give_25 : decode cX2_give 25 = .ok (.isub, 1) := by decide +kernel
theorem dX2_give_26 : decode cX2_give 26 = .ok (.invokevirtual 67, 3) := by decide +kernel
theorem dX2_give_29 : decode cX2_give 29 = .ok (.iadd, 1) := by decide +kernel
theorem dX2_give_30 : decode cX2_give 30 = .ok (.aload_n 0, 1) := by decide +kernel
theorem dX2_give_31 : decode cX2_give 31 = .ok (.getfield 31, 3) := by decide +kernel
theorem dX2_give_34 : decode cX2_give 34 = .ok (.if_icmp .ge 30, 3) := by decide +kernel
theorem dX2_give_37 : decode cX2_give 37 = .ok (.aload_n 0, 1) := by decide +kernel
theorem dX2_give_38 : decode cX2_give 38 = .ok (.iload_n 1, 1) := by decide +kernel
theorem dX2_give_39 : decode cX2_give 39 = .ok (.iload_n 2, 1) := by decide +kernel
theorem dX2_give_40 : decode cX2_give 40 = .ok (.iload 4, 2) := by decide +kernel
theorem dX2_give_42 : decode cX2_give 42 = .ok (.invokevirtual 71, 3) := by decide +kernel
theorem dX2_give_45 : decode cX2_give 45 = .ok (.ifCond .ne 19, 3) := by decide +kernel
theorem dX2_give_48 : decode cX2_give 48 = .ok (.aload_n 0, 1) := by decide +kernel
theorem dX2_give_49 : decode cX2_give 49 = .ok (.getfield 18, 3) := by decide +kernel
theorem dX2_give_52 : decode cX2_give 52 = .ok (.iload_n 1, 1) := by decide +kernel
theorem dX2_give_53 : decode cX2_give 53 = .ok (.iload_n 2, 1) := by decide +kernel
theorem dX2_give_54 : decode cX2_give 54 = .ok (.iastore, 1) := by decide +kernel
theorem dX2_give_55 : decode cX2_give 55 = .ok (.aload_n 0, 1) := by decide +kernel
theorem dX2_give_56 : decode cX2_give 56 = .ok (.iload_n 1, 1) := by decide +kernel
theorem dX2_give_57 : decode cX2_give 57 = .ok (.iconst 1, 1) := by decide +kernel
theorem dX2_give_58 : decode cX2_give 58 = .ok (.iadd, 1) := by decide +kernel
theorem dX2_give_59 : decode cX2_give 59 = .ok (.iload 5, 2) := by decide +kernel
theorem dX2_give_61 : decode cX2_give 61 = .ok (.invokevirtual 51, 3) := by decide +kernel
theorem dX2_give_64 : decode cX2_give 64 = .ok (.return_, 1) := by decide +kernel
set_option maxRecDepth 20000 in
theorem ggX2_isNeedless_X3_isDown : GoodIn wsX2_isNeedless wsX3_isDown := goodIn_r _ [4] (by decide +kernel) (by decide +kernel)
set_option maxRecDepth 20000 in
theorem gX2_isNeedless_X3_isDown_n75 : GoodIn wsX2_isNeedless (wsX3_isDown) := ggX2_isNeedless_X3_isDown
set_option maxRecDepth 20000 in
theorem ggX2_isNeedless_X2_downCodes : GoodIn wsX2_isNeedless wsX2_downCodes := goodIn_r _ [8] (by decide +kernel) (by decide +kernel)
set_option maxRecDepth 20000 in
theorem gX2_isNeedless_X2_downCodes : GoodIn wsX2_isNeedless (va_wsS RX2 79 yX2_downCodes wsX2_downCodes) := goodIn_app (goodIn_of _ (by decide +kernel)) ggX2_isNeedless_X2_downCodes
set_option maxRecDepth 20000 in
theorem ggX2_isNeedless_X1_place : GoodIn wsX2_isNeedless wsX1_place := goodIn_r _ [11] (by decide +kernel) (by decide +kernel)
set_option maxRecDepth 20000 in
theorem gX2_isNeedless_X1_place_n83 : GoodIn wsX2_isNeedless (wsX1_place) := ggX2_isNeedless_X1_place
set_option maxRecDepth 20000 in
theorem ggX2_isNeedless_X2_leavesAsMuch : GoodIn wsX2_isNeedless wsX2_leavesAsMuch := goodIn_ca (goodIn_r _ [15, 16, 17, 18, 19, 20, 21, 22, 23, 24, 25, 26, 27, 28, 29] (by decide +kernel) (by decide +kernel)) (goodIn_sub (fun _ h => List.mem_cons_of_mem _ (List.mem_append_right _ h)) (by decide +kernel))
set_option maxRecDepth 20000 in
theorem gX2_isNeedless_X2_leavesAsMuch : GoodIn wsX2_isNeedless (wsV RX2 86 RX2 yX2_leavesAsMuch wsX2_leavesAsMuch) := goodIn_app (goodIn_of _ (by decide +kernel)) ggX2_isNeedless_X2_leavesAsMuch
theorem dX2_isNeedless_0 : decode cX2_isNeedless 0 = .ok (.iload_n 2, 1) := by decide +kernel
theorem dX2_isNeedless_1 : decode cX2_isNeedless 1 = .ok (.aload_n 0, 1) := by decide +kernel
theorem dX2_isNeedless_2 : decode cX2_isNeedless 2 = .ok (.getfield 15, 3) := by decide +kernel
theorem dX2_isNeedless_5 : decode cX2_isNeedless 5 = .ok (.iload_n 1, 1) := by decide +kernel
theorem dX2_isNeedless_6 : decode cX2_isNeedless 6 = .ok (.iaload, 1) := by decide +kernel
theorem dX2_isNeedless_7 : decode cX2_isNeedless 7 = .ok (.invokestatic 75, 3) := by decide +kernel
theorem dX2_isNeedless_10 : decode cX2_isNeedless 10 = .ok (.ifCond .eq 7, 3) := by decide +kernel
theorem dX2_isNeedless_13 : decode cX2_isNeedless 13 = .ok (.iload_n 3, 1) := by decide +kernel
theorem dX2_isNeedless_14 : decode cX2_isNeedless 14 = .ok (.goto 16, 3) := by decide +kernel
theorem dX2_isNeedless_17 : decode cX2_isNeedless 17 = .ok (.iload_n 3, 1) := by decide +kernel
theorem dX2_isNeedless_18 : decode cX2_isNeedless 18 = .ok (.aload_n 0, 1) := by decide +kernel
theorem dX2_isNeedless_19 : decode cX2_isNeedless 19 = .ok (.getfield 15, 3) := by decide +kernel
theorem dX2_isNeedless_22 : decode cX2_isNeedless 22 = .ok (.iload_n 1, 1) := by decide +kernel
theorem dX2_isNeedless_23 : decode cX2_isNeedless 23 = .ok (.iaload, 1) := by decide +kernel
theorem dX2_isNeedless_24 : decode cX2_isNeedless 24 = .ok (.invokestatic 79, 3) := by decide +kernel
theorem dX2_isNeedless_27 : decode cX2_isNeedless 27 = .ok (.iconst (-1), 1) := by decide +kernel
theorem dX2_isNeedless_28 : decode cX2_isNeedless 28 = .ok (.ixor, 1) := by decide +kernel
theorem dX2_isNeedless_29 : decode cX2_isNeedless 29 = .ok (.iand, 1) := by decide +kernel
theorem dX2_isNeedless_30 : decode cX2_isNeedless 30 = .ok (.istore 4, 2) := by decide +kernel
theorem dX2_isNeedless_32 : decode cX2_isNeedless 32 = .ok (.iload_n 1, 1) := by decide +kernel
theorem dX2_isNeedless_33 : decode cX2_isNeedless 33 = .ok (.iload_n 2, 1) := by decide +kernel
theorem dX2_isNeedless_34 : decode cX2_isNeedless 34 = .ok (.iconst 0, 1) := by decide +kernel
theorem dX2_isNeedless_35 : decode cX2_isNeedless 35 = .ok (.invokestatic 83, 3) := by decide +kernel
theorem dX2_isNeedless_38 : decode cX2_isNeedless 38 = .ok (.istore 5, 2) := by decide +kernel
theorem dX2_isNeedless_40 : decode cX2_isNeedless 40 = .ok (.iconst 0, 1) := by decide +kernel
theorem dX2_isNeedless_41 : decode cX2_isNeedless 41 = .ok (.istore 6, 2) := by decide +kernel
theorem dX2_isNeedless_43 : decode cX2_isNeedless 43 = .ok (.iload 6, 2) := by decide +kernel
theorem dX2_isNeedless_45 : decode cX2_isNeedless 45 = .ok (.bipush 7, 2) := by decide +kernel
theorem dX2_isNeedless_47 : decode cX2_isNeedless 47 = .ok (.if_icmp .ge 38, 3) := by decide +kernel
theorem dX2_isNeedless_50 : decode cX2_isNeedless 50 = .ok (.iload 4, 2) := by decide +kernel
theorem dX2_isNeedless_52 : decode cX2_isNeedless 52 = .ok (.iload 6, 2) := by decide +kernel
theorem dX2_isNeedless_54 : decode cX2_isNeedless 54 = .ok (.ishr, 1) := by decide +kernel
theorem dX2_isNeedless_55 : decode cX2_isNeedless 55 = .ok (.iconst 1, 1) := by decide +kernel
theorem dX2_isNeedless_56 : decode cX2_isNeedless 56 = .ok (.iand, 1) := by decide +kernel
theorem dX2_isNeedless_57 : decode cX2_isNeedless 57 = .ok (.ifCond .eq 22, 3) := by decide +kernel
theorem dX2_isNeedless_60 : decode cX2_isNeedless 60 = .ok (.aload_n 0, 1) := by decide +kernel
theorem dX2_isNeedless_61 : decode cX2_isNeedless 61 = .ok (.iload_n 1, 1) := by decide +kernel
theorem dX2_isNeedless_62 : decode cX2_isNeedless 62 = .ok (.iload_n 1, 1) := by decide +kernel
theorem dX2_isNeedless_63 : decode cX2_isNeedless 63 = .ok (.iload 6, 2) := by decide +kernel
theorem dX2_isNeedless_65 : decode cX2_isNeedless 65 = .ok (.iconst 0, 1) := by decide +kernel
theorem dX2_isNeedless_66 : decode cX2_isNeedless 66 = .ok (.invokestatic 83, 3) := by decide +kernel
theorem dX2_isNeedless_69 : decode cX2_isNeedless 69 = .ok (.iload 5, 2) := by decide +kernel
theorem dX2_isNeedless_71 : decode cX2_isNeedless 71 = .ok (.invokevirtual 86, 3) := by decide +kernel
theorem dX2_isNeedless_74 : decode cX2_isNeedless 74 = .ok (.ifCond .eq 5, 3) := by decide +kernel
theorem dX2_isNeedless_77 : decode cX2_isNeedless 77 = .ok (.iconst 1, 1) := by decide +kernel
theorem dX2_isNeedless_78 : decode cX2_isNeedless 78 = .ok (.ireturn, 1) := by decide +kernel
theorem dX2_isNeedless_79 : decode cX2_isNeedless 79 = .ok (.iinc 6 1, 3) := by decide +kernel
theorem dX2_isNeedless_82 : decode cX2_isNeedless 82 = .ok (.goto (-39), 3) := by decide +kernel
theorem dX2_isNeedless_85 : decode cX2_isNeedless 85 = .ok (.iconst 0, 1) := by decide +kernel
theorem dX2_isNeedless_86 : decode cX2_isNeedless 86 = .ok (.ireturn, 1) := by decide +kernel
theorem dX2_leavesAsMuch_0 : decode cX2_leavesAsMuch 0 = .ok (.iload_n 1, 1) := by decide +kernel
theorem dX2_leavesAsMuch_1 : decode cX2_leavesAsMuch 1 = .ok (.bipush 8, 2) := by decide +kernel
theorem dX2_leavesAsMuch_3 : decode cX2_leavesAsMuch 3 = .ok (.imul, 1) := by decide +kernel
theorem dX2_leavesAsMuch_4 : decode cX2_leavesAsMuch 4 = .ok (.istore 4, 2) := by decide +kernel
theorem dX2_leavesAsMuch_6 : decode cX2_leavesAsMuch 6 = .ok (.iload_n 1, 1) := by decide +kernel
theorem dX2_leavesAsMuch_7 : decode cX2_leavesAsMuch 7 = .ok (.iconst 1, 1) := by decide +kernel
theorem dX2_leavesAsMuch_8 : decode cX2_leavesAsMuch 8 = .ok (.iadd, 1) := by decide +kernel
theorem dX2_leavesAsMuch_9 : decode cX2_leavesAsMuch 9 = .ok (.istore 5, 2) := by decide +kernel
theorem dX2_leavesAsMuch_11 : decode cX2_leavesAsMuch 11 = .ok (.iload 5, 2) := by decide +kernel
theorem dX2_leavesAsMuch_13 : decode cX2_leavesAsMuch 13 = .ok (.aload_n 0, 1) := by decide +kernel
theorem dX2_leavesAsMuch_14 : decode cX2_leavesAsMuch 14 = .ok (.getfield 24, 3) := by decide +kernel
theorem dX2_leavesAsMuch_17 : decode cX2_leavesAsMuch 17 = .ok (.if_icmp .ge 52, 3) := by decide +kernel
theorem dX2_leavesAsMuch_20 : decode cX2_leavesAsMuch 20 = .ok (.aload_n 0, 1) := by decide +kernel
theorem dX2_leavesAsMuch_21 : decode cX2_leavesAsMuch 21 = .ok (.getfield 11, 3) := by decide +kernel
theorem dX2_leavesAsMuch_24 : decode cX2_leavesAsMuch 24 = .ok (.iload 4, 2) := by decide +kernel
theorem dX2_leavesAsMuch_26 : decode cX2_leavesAsMuch 26 = .ok (.iload 5, 2) := by decide +kernel
theorem dX2_leavesAsMuch_28 : decode cX2_leavesAsMuch 28 = .ok (.iadd, 1) := by decide +kernel
theorem dX2_leavesAsMuch_29 : decode cX2_leavesAsMuch 29 = .ok (.iaload, 1) := by decide +kernel
theorem dX2_leavesAsMuch_30 : decode cX2_leavesAsMuch 30 = .ok (.aload_n 0, 1) := by decide +kernel
theorem dX2_leavesAsMuch_31 : decode cX2_leavesAsMuch 31 = .ok (.getfield 38, 3) := by decide +kernel
theorem dX2_leavesAsMuch_34 : decode cX2_leavesAsMuch 34 = .ok (.getfield 89, 3) := by decide +kernel
theorem dX2_leavesAsMuch_37 : decode cX2_leavesAsMuch 37 = .ok (.iload_n 3, 1) := by decide +kernel
theorem dX2_leavesAsMuch_38 : decode cX2_leavesAsMuch 38 = .ok (.iload 5, 2) := by decide +kernel
theorem dX2_leavesAsMuch_40 : decode cX2_leavesAsMuch 40 = .ok (.iadd, 1) := by decide +kernel
theorem dX2_leavesAsMuch_41 : decode cX2_leavesAsMuch 41 = .ok (.iaload, 1) := by decide +kernel
theorem dX2_leavesAsMuch_42 : decode cX2_leavesAsMuch 42 = .ok (.iand, 1) := by decide +kernel
theorem dX2_leavesAsMuch_43 : decode cX2_leavesAsMuch 43 = .ok (.aload_n 0, 1) := by decide +kernel
theorem dX2_leavesAsMuch_44 : decode cX2_leavesAsMuch 44 = .ok (.getfield 38, 3) := by decide +kernel
theorem dX2_leavesAsMuch_47 : decode cX2_leavesAsMuch 47 = .ok (.getfield 89, 3) := by decide +kernel
theorem dX2_leavesAsMuch_50 : decode cX2_leavesAsMuch 50 = .ok (.iload_n 2, 1) := by decide +kernel
theorem dX2_leavesAsMuch_51 : decode cX2_leavesAsMuch 51 = .ok (.iload 5, 2) := by decide +kernel
theorem dX2_leavesAsMuch_53 : decode cX2_leavesAsMuch 53 = .ok (.iadd, 1) := by decide +kernel
theorem dX2_leavesAsMuch_54 : decode cX2_leavesAsMuch 54 = .ok (.iaload, 1) := by decide +kernel
theorem dX2_leavesAsMuch_55 : decode cX2_leavesAsMuch 55 = .ok (.iconst (-1), 1) := by decide +kernel
theorem dX2_leavesAsMuch_56 : decode cX2_leavesAsMuch 56 = .ok (.ixor, 1) := by decide +kernel
theorem dX2_leavesAsMuch_57 : decode cX2_leavesAsMuch 57 = .ok (.iand, 1) := by decide +kernel
theorem dX2_leavesAsMuch_58 : decode cX2_leavesAsMuch 58 = .ok (.ifCond .eq 5, 3) := by decide +kernel
theorem dX2_leavesAsMuch_61 : decode cX2_leavesAsMuch 61 = .ok (.iconst 0, 1) := by decide +kernel
theorem dX2_leavesAsMuch_62 : decode cX2_leavesAsMuch 62 = .ok (.ireturn, 1) := by decide +kernel
theorem dX2_leavesAsMuch_63 : decode cX2_leavesAsMuch 63 = .ok (.iinc 5 1, 3) := by decide +kernel
theorem dX2_leavesAsMuch_66 : decode cX2_leavesAsMuch 66 = .ok (.goto (-55), 3) := by decide +kernel
theorem dX2_leavesAsMuch_69 : decode cX2_leavesAsMuch 69 = .ok (.iconst 1, 1) := by decide +kernel
theorem dX2_leavesAsMuch_70 : decode cX2_leavesAsMuch 70 = .ok (.ireturn, 1) := by decide +kernel
theorem dX2_downCodes_0 : decode cX2_downCodes 0 = .ok (.iconst 1, 1) := by decide +kernel
theorem dX2_downCodes_1 : decode cX2_downCodes 1 = .ok (.iload_n 0, 1) := by decide +kernel
theorem dX2_downCodes_2 : decode cX2_downCodes 2 = .ok (.ishl, 1) := by decide +kernel
theorem dX2_downCodes_3 : decode cX2_downCodes 3 = .ok (.iconst 1, 1) := by decide +kernel
theorem dX2_downCodes_4 : decode cX2_downCodes 4 = .ok (.isub, 1) := by decide +kernel
theorem dX2_downCodes_5 : decode cX2_downCodes 5 = .ok (.bipush (-2), 2) := by decide +kernel
theorem dX2_downCodes_7 : decode cX2_downCodes 7 = .ok (.iand, 1) := by decide +kernel
theorem dX2_downCodes_8 : decode cX2_downCodes 8 = .ok (.ireturn, 1) := by decide +kernel
theorem dX2_keep_0 : decode cX2_keep 0 = .ok (.iconst 0, 1) := by decide +kernel
theorem dX2_keep_1 : decode cX2_keep 1 = .ok (.istore_n 2, 1) := by decide +kernel
theorem dX2_keep_2 : decode cX2_keep 2 = .ok (.iload_n 2, 1) := by decide +kernel
theorem dX2_keep_3 : decode cX2_keep 3 = .ok (.aload_n 0, 1) := by decide +kernel
theorem dX2_keep_4 : decode cX2_keep 4 = .ok (.getfield 24, 3) := by decide +kernel
theorem dX2_keep_7 : decode cX2_keep 7 = .ok (.if_icmp .ge 21, 3) := by decide +kernel
theorem dX2_keep_10 : decode cX2_keep 10 = .ok (.aload_n 0, 1) := by decide +kernel
theorem dX2_keep_11 : decode cX2_keep 11 = .ok (.getfield 21, 3) := by decide +kernel
theorem dX2_keep_14 : decode cX2_keep 14 = .ok (.iload_n 2, 1) := by decide +kernel
theorem dX2_keep_15 : decode cX2_keep 15 = .ok (.aload_n 0, 1) := by decide +kernel
theorem dX2_keep_16 : decode cX2_keep 16 = .ok (.getfield 18, 3) := by decide +kernel
theorem dX2_keep_19 : decode cX2_keep 19 = .ok (.iload_n 2, 1) := by decide +kernel
theorem dX2_keep_20 : decode cX2_keep 20 = .ok (.iaload, 1) := by decide +kernel
theorem dX2_keep_21 : decode cX2_keep 21 = .ok (.iastore, 1) := by decide +kernel
theorem dX2_keep_22 : decode cX2_keep 22 = .ok (.iinc 2 1, 3) := by decide +kernel
theorem dX2_keep_25 : decode cX2_keep 25 = .ok (.goto (-23), 3) := by decide +kernel
theorem dX2_keep_28 : decode cX2_keep 28 = .ok (.aload_n 0, 1) := by decide +kernel
theorem dX2_keep_29 : decode cX2_keep 29 = .ok (.iload_n 1, 1) := by decide +kernel
theorem dX2_keep_30 : decode cX2_keep 30 = .ok (.putfield 28, 3) := by decide +kernel
theorem dX2_keep_33 : decode cX2_keep 33 = .ok (.aload_n 0, 1) := by decide +kernel
theorem dX2_keep_34 : decode cX2_keep 34 = .ok (.aload_n 0, 1) := by decide +kernel
theorem dX2_keep_35 : decode cX2_keep 35 = .ok (.getfield 34, 3) := by decide +kernel
theorem dX2_keep_38 : decode cX2_keep 38 = .ok (.ifCond .eq 7, 3) := by decide +kernel
theorem dX2_keep_41 : decode cX2_keep 41 = .ok (.iconst 0, 1) := by decide +kernel
theorem dX2_keep_42 : decode cX2_keep 42 = .ok (.goto 4, 3) := by decide +kernel
theorem dX2_keep_45 : decode cX2_keep 45 = .ok (.iload_n 1, 1) := by decide +kernel
theorem dX2_keep_46 : decode cX2_keep 46 = .ok (.putfield 31, 3) := by decide +kernel
theorem dX2_keep_49 : decode cX2_keep 49 = .ok (.return_, 1) := by decide +kernel
set_option maxRecDepth 20000 in
theorem ggX2_narrowRest_X1_place : GoodIn wsX2_narrowRest wsX1_place := goodIn_r _ [7] (by decide +kernel) (by decide +kernel)
set_option maxRecDepth 20000 in
theorem gX2_narrowRest_X1_place_n83 : GoodIn wsX2_narrowRest (wsX1_place) := ggX2_narrowRest_X1_place
set_option maxRecDepth 20000 in
theorem ggX2_narrowRest_X2_leastCostOf : GoodIn wsX2_narrowRest wsX2_leastCostOf := goodIn_r _ [11] (by decide +kernel) (by decide +kernel)
set_option maxRecDepth 20000 in
theorem gX2_narrowRest_X2_leastCostOf : GoodIn wsX2_narrowRest (va_wsS RX2 92 yX2_leastCostOf wsX2_leastCostOf) := goodIn_app (goodIn_of _ (by decide +kernel)) ggX2_narrowRest_X2_leastCostOf
theorem dX2_narrowRest_0 : decode cX2_narrowRest 0 = .ok (.iload_n 1, 1) := by decide +kernel
theorem dX2_narrowRest_1 : decode cX2_narrowRest 1 = .ok (.bipush 8, 2) := by decide +kernel
theorem dX2_narrowRest_3 : decode cX2_narrowRest 3 = .ok (.imul, 1) := by decide +kernel
theorem dX2_narrowRest_4 : decode cX2_narrowRest 4 = .ok (.istore 4, 2) := by decide +kernel
theorem dX2_narrowRest_6 : decode cX2_narrowRest 6 = .ok (.iload 4, 2) := by decide +kernel
theorem dX2_narrowRest_8 : decode cX2_narrowRest 8 = .ok (.bipush 8, 2) := by decide +kernel
theorem dX2_narrowRest_10 : decode cX2_narrowRest 10 = .ok (.iadd, 1) := by decide +kernel
theorem dX2_narrowRest_11 : decode cX2_narrowRest 11 = .ok (.istore 5, 2) := by decide +kernel
theorem dX2_narrowRest_13 : decode cX2_narrowRest 13 = .ok (.iload_n 1, 1) := by decide +kernel
theorem dX2_narrowRest_14 : decode cX2_narrowRest 14 = .ok (.iload_n 2, 1) := by decide +kernel
theorem dX2_narrowRest_15 : decode cX2_narrowRest 15 = .ok (.iconst 0, 1) := by decide +kernel
theorem dX2_narrowRest_16 : decode cX2_narrowRest 16 = .ok (.invokestatic 83, 3) := by decide +kernel
theorem dX2_narrowRest_19 : decode cX2_narrowRest 19 = .ok (.istore 6, 2) := by decide +kernel
theorem dX2_narrowRest_21 : decode cX2_narrowRest 21 = .ok (.iconst 0, 1) := by decide +kernel
theorem dX2_narrowRest_22 : decode cX2_narrowRest 22 = .ok (.istore 7, 2) := by decide +kernel
theorem dX2_narrowRest_24 : decode cX2_narrowRest 24 = .ok (.iload_n 1, 1) := by decide +kernel
theorem dX2_narrowRest_25 : decode cX2_narrowRest 25 = .ok (.iconst 1, 1) := by decide +kernel
theorem dX2_narrowRest_26 : decode cX2_narrowRest 26 = .ok (.iadd, 1) := by decide +kernel
theorem dX2_narrowRest_27 : decode cX2_narrowRest 27 = .ok (.istore 8, 2) := by decide +kernel
theorem dX2_narrowRest_29 : decode cX2_narrowRest 29 = .ok (.iload 8, 2) := by decide +kernel
theorem dX2_narrowRest_31 : decode cX2_narrowRest 31 = .ok (.aload_n 0, 1) := by decide +kernel
theorem dX2_narrowRest_32 : decode cX2_narrowRest 32 = .ok (.getfield 24, 3) := by decide +kernel
theorem dX2_narrowRest_35 : decode cX2_narrowRest 35 = .ok (.if_icmp .ge 70, 3) := by decide +kernel
theorem dX2_narrowRest_38 : decode cX2_narrowRest 38 = .ok (.iload 7, 2) := by decide +kernel
theorem dX2_narrowRest_40 : decode cX2_narrowRest 40 = .ok (.iload_n 3, 1) := by decide +kernel
theorem dX2_narrowRest_41 : decode cX2_narrowRest 41 = .ok (.if_icmp .ge 64, 3) := by decide +kernel
theorem dX2_narrowRest_44 : decode cX2_narrowRest 44 = .ok (.aload_n 0, 1) := by decide +kernel
theorem dX2_narrowRest_45 : decode cX2_narrowRest 45 = .ok (.getfield 11, 3) := by decide +kernel
theorem dX2_narrowRest_48 : decode cX2_narrowRest 48 = .ok (.iload 4, 2) := by decide +kernel
theorem dX2_narrowRest_50 : decode cX2_narrowRest 50 = .ok (.iload 8, 2) := by decide +kernel
theorem dX2_narrowRest_52 : decode cX2_narrowRest 52 = .ok (.iadd, 1) := by decide +kernel
theorem dX2_narrowRest_53 : decode cX2_narrowRest 53 = .ok (.iaload, 1) := by decide +kernel
theorem dX2_narrowRest_54 : decode cX2_narrowRest 54 = .ok (.aload_n 0, 1) := by decide +kernel
theorem dX2_narrowRest_55 : decode cX2_narrowRest 55 = .ok (.getfield 38, 3) := by decide +kernel
theorem dX2_narrowRest_58 : decode cX2_narrowRest 58 = .ok (.getfield 89, 3) := by decide +kernel
theorem dX2_narrowRest_61 : decode cX2_narrowRest 61 = .ok (.iload 6, 2) := by decide +kernel
theorem dX2_narrowRest_63 : decode cX2_narrowRest 63 = .ok (.iload 8, 2) := by decide +kernel
theorem dX2_narrowRest_65 : decode cX2_narrowRest 65 = .ok (.iadd, 1) := by decide +kernel
theorem dX2_narrowRest_66 : decode cX2_narrowRest 66 = .ok (.iaload, 1) := by decide +kernel
theorem dX2_narrowRest_67 : decode cX2_narrowRest 67 = .ok (.iand, 1) := by decide +kernel
theorem dX2_narrowRest_68 : decode cX2_narrowRest 68 = .ok (.istore 9, 2) := by decide +kernel
theorem dX2_narrowRest_70 : decode cX2_narrowRest 70 = .ok (.aload_n 0, 1) := by decide +kernel
theorem dX2_narrowRest_71 : decode cX2_narrowRest 71 = .ok (.getfield 11, 3) := by decide +kernel
theorem dX2_narrowRest_74 : decode cX2_narrowRest 74 = .ok (.iload 5, 2) := by decide +kernel
theorem dX2_narrowRest_76 : decode cX2_narrowRest 76 = .ok (.iload 8, 2) := by decide +kernel
theorem dX2_narrowRest_78 : decode cX2_narrowRest 78 = .ok (.iadd, 1) := by decide +kernel
theorem dX2_narrowRest_79 : decode cX2_narrowRest 79 = .ok (.iload 9, 2) := by decide +kernel
theorem dX2_narrowRest_81 : decode cX2_narrowRest 81 = .ok (.iastore, 1) := by decide +kernel
theorem dX2_narrowRest_82 : decode cX2_narrowRest 82 = .ok (.iload 7, 2) := by decide +kernel
theorem dX2_narrowRest_84 : decode cX2_narrowRest 84 = .ok (.iload 9, 2) := by decide +kernel
theorem dX2_narrowRest_86 : decode cX2_narrowRest 86 = .ok (.aload_n 0, 1) := by decide +kernel
theorem dX2_narrowRest_87 : decode cX2_narrowRest 87 = .ok (.getfield 15, 3) := by decide +kernel
theorem dX2_narrowRest_90 : decode cX2_narrowRest 90 = .ok (.iload 8, 2) := by decide +kernel
theorem dX2_narrowRest_92 : decode cX2_narrowRest 92 = .ok (.iaload, 1) := by decide +kernel
theorem dX2_narrowRest_93 : decode cX2_narrowRest 93 = .ok (.invokestatic 92, 3) := by decide +kernel
theorem dX2_narrowRest_96 : decode cX2_narrowRest 96 = .ok (.iadd, 1) := by decide +kernel
theorem dX2_narrowRest_97 : decode cX2_narrowRest 97 = .ok (.istore 7, 2) := by decide +kernel
theorem dX2_narrowRest_99 : decode cX2_narrowRest 99 = .ok (.iinc 8 1, 3) := by decide +kernel
theorem dX2_narrowRest_102 : decode cX2_narrowRest 102 = .ok (.goto (-73), 3) := by decide +kernel
theorem dX2_narrowRest_105 : decode cX2_narrowRest 105 = .ok (.iload 7, 2) := by decide +kernel
theorem dX2_narrowRest_107 : decode cX2_narrowRest 107 = .ok (.ireturn, 1) := by decide +kernel
set_option maxRecDepth 20000 in
theorem ggX2_costOf_X3_isChanged : GoodIn wsX2_costOf wsX3_isChanged := goodIn_r _ [3] (by decide +kernel) (by decide +kernel)
set_option maxRecDepth 20000 in
theorem gX2_costOf_X3_isChanged_n95 : GoodIn wsX2_costOf (wsX3_isChanged) := ggX2_costOf_X3_isChanged
set_option maxRecDepth 20000 in
theorem ggX2_costOf_X3_isDown : GoodIn wsX2_costOf wsX3_isDown := goodIn_r _ [5] (by decide +kernel) (by decide +kernel)
set_option maxRecDepth 20000 in
theorem gX2_costOf_X3_isDown_n75 : GoodIn wsX2_costOf (wsX3_isDown) := ggX2_costOf_X3_isDown
theorem dX2_costOf_0 : decode cX2_costOf 0 = .ok (.iload_n 0, 1) := by decide +kernel
theorem dX2_costOf_1 : decode cX2_costOf 1 = .ok (.iload_n 1, 1) := by decide +kernel
theorem dX2_costOf_2 : decode cX2_costOf 2 = .ok (.invokestatic 95, 3) := by decide +kernel
theorem dX2_costOf_5 : decode cX2_costOf 5 = .ok (.ifCond .eq 8, 3) := by decide +kernel
theorem dX2_costOf_8 : decode cX2_costOf 8 = .ok (.bipush 16, 2) := by decide +kernel
theorem dX2_costOf_10 : decode cX2_costOf 10 = .ok (.goto 4, 3) := by decide +kernel
theorem dX2_costOf_13 : decode cX2_costOf 13 = .ok (.iconst 0, 1) := by decide +kernel
theorem dX2_costOf_14 : decode cX2_costOf 14 = .ok (.iload_n 0, 1) := by decide +kernel
theorem dX2_costOf_15 : decode cX2_costOf 15 = .ok (.iload_n 1, 1) := by decide +kernel
theorem dX2_costOf_16 : decode cX2_costOf 16 = .ok (.invokestatic 75, 3) := by decide +kernel
theorem dX2_costOf_19 : decode cX2_costOf 19 = .ok (.ifCond .eq 7, 3) := by decide +kernel
theorem dX2_costOf_22 : decode cX2_costOf 22 = .ok (.iconst 1, 1) := by decide +kernel
theorem dX2_costOf_23 : decode cX2_costOf 23 = .ok (.goto 4, 3) := by decide +kernel
theorem dX2_costOf_26 : decode cX2_costOf 26 = .ok (.iconst 0, 1) := by decide +kernel
theorem dX2_costOf_27 : decode cX2_costOf 27 = .ok (.iadd, 1) := by decide +kernel
theorem dX2_costOf_28 : decode cX2_costOf 28 = .ok (.ireturn, 1) := by decide +kernel
theorem dX2_leastCostOf_0 : decode cX2_leastCostOf 0 = .ok (.iload_n 0, 1) := by decide +kernel
theorem dX2_leastCostOf_1 : decode cX2_leastCostOf 1 = .ok (.ifCond .ne 7, 3) := by decide +kernel
theorem dX2_leastCostOf_4 : decode cX2_leastCostOf 4 = .ok (.sipush 144, 3) := by decide +kernel
theorem dX2_leastCostOf_7 : decode cX2_leastCostOf 7 = .ok (.ireturn, 1) := by decide +kernel
theorem dX2_leastCostOf_8 : decode cX2_leastCostOf 8 = .ok (.iload_n 0, 1) := by decide +kernel
theorem dX2_leastCostOf_9 : decode cX2_leastCostOf 9 = .ok (.iload_n 1, 1) := by decide +kernel
theorem dX2_leastCostOf_10 : decode cX2_leastCostOf 10 = .ok (.ishr, 1) := by decide +kernel
theorem dX2_leastCostOf_11 : decode cX2_leastCostOf 11 = .ok (.iconst 1, 1) := by decide +kernel
theorem dX2_leastCostOf_12 : decode cX2_leastCostOf 12 = .ok (.iand, 1) := by decide +kernel
theorem dX2_leastCostOf_13 : decode cX2_leastCostOf 13 = .ok (.ifCond .eq 5, 3) := by decide +kernel
theorem dX2_leastCostOf_16 : decode cX2_leastCostOf 16 = .ok (.iconst 0, 1) := by decide +kernel
theorem dX2_leastCostOf_17 : decode cX2_leastCostOf 17 = .ok (.ireturn, 1) := by decide +kernel
theorem dX2_leastCostOf_18 : decode cX2_leastCostOf 18 = .ok (.iload_n 0, 1) := by decide +kernel
theorem dX2_leastCostOf_19 : decode cX2_leastCostOf 19 = .ok (.iconst 1, 1) := by decide +kernel
theorem dX2_leastCostOf_20 : decode cX2_leastCostOf 20 = .ok (.iand, 1) := by decide +kernel
theorem dX2_leastCostOf_21 : decode cX2_leastCostOf 21 = .ok (.ifCond .ne 9, 3) := by decide +kernel
theorem dX2_leastCostOf_24 : decode cX2_leastCostOf 24 = .ok (.iload_n 0, 1) := by decide +kernel
theorem dX2_leastCostOf_25 : decode cX2_leastCostOf 25 = .ok (.iload_n 1, 1) := by decide +kernel
theorem dX2_leastCostOf_26 : decode cX2_leastCostOf 26 = .ok (.ishr, 1) := by decide +kernel
theorem dX2_leastCostOf_27 : decode cX2_leastCostOf 27 = .ok (.ifCond .eq 7, 3) := by decide +kernel
theorem dX2_leastCostOf_30 : decode cX2_leastCostOf 30 = .ok (.iconst 1, 1) := by decide +kernel
theorem dX2_leastCostOf_31 : decode cX2_leastCostOf 31 = .ok (.goto 4, 3) := by decide +kernel
theorem dX2_leastCostOf_34 : decode cX2_leastCostOf 34 = .ok (.iconst 0, 1) := by decide +kernel
theorem dX2_leastCostOf_35 : decode cX2_leastCostOf 35 = .ok (.istore_n 2, 1) := by decide +kernel
theorem dX2_leastCostOf_36 : decode cX2_leastCostOf 36 = .ok (.iload_n 2, 1) := by decide +kernel
theorem dX2_leastCostOf_37 : decode cX2_leastCostOf 37 = .ok (.ifCond .eq 8, 3) := by decide +kernel
theorem dX2_leastCostOf_40 : decode cX2_leastCostOf 40 = .ok (.bipush 16, 2) := by decide +kernel
theorem dX2_leastCostOf_42 : decode cX2_leastCostOf 42 = .ok (.goto 5, 3) := by decide +kernel
theorem dX2_leastCostOf_45 : decode cX2_leastCostOf 45 = .ok (.bipush 17, 2) := by decide +kernel
theorem dX2_leastCostOf_47 : decode cX2_leastCostOf 47 = .ok (.ireturn, 1) := by decide +kernel
set_option maxRecDepth 20000 in
theorem ggX3_init_X1_init : GoodIn wsX3_init wsX1_init := goodIn_r _ [25, 26, 2, 3, 16, 27, 28, 29, 30, 31, 32, 52, 53] (by decide +kernel) (by decide +kernel)
set_option maxRecDepth 20000 in
theorem gX3_init_X1_init_n11 : GoodIn wsX3_init (wsX1_init) := ggX3_init_X1_init
set_option maxRecDepth 20000 in
theorem ggX3_init_X2_init : GoodIn wsX3_init wsX2_init := goodIn_r _ [34, 35, 2, 3, 16, 36, 37, 38, 39, 40, 41, 42, 43, 44, 64, 65, 66, 67, 68, 69, 70, 71, 72] (by decide +kernel) (by decide +kernel)
set_option maxRecDepth 20000 in
theorem gX3_init_X2_init_n18 : GoodIn wsX3_init (wsX2_init) := ggX3_init_X2_init
set_option maxRecDepth 20000 in
theorem ggX3_init_X0_init : GoodIn wsX3_init wsX0_init := goodIn_r _ [46, 47, 2, 3, 16, 48, 49, 50, 51, 73, 74, 75, 76] (by decide +kernel) (by decide +kernel)
set_option maxRecDepth 20000 in
theorem gX3_init_X0_init_n27 : GoodIn wsX3_init (wsX0_init) := ggX3_init_X0_init
theorem dX3_init_0 : decode cX3_init 0 = .ok (.aload_n 0, 1) := by decide +kernel
theorem dX3_init_1 : decode cX3_init 1 = .ok (.invokespecial 3, 3) := by decide +kernel
theorem dX3_init_4 : decode cX3_init 4 = .ok (.aload_n 0, 1) := by decide +kernel
theorem dX3_init_5 : decode cX3_init 5 = .ok (.new 9, 3) := by decide +kernel
theorem dX3_init_8 : decode cX3_init 8 = .ok (.dup, 1) := by decide +kernel
theorem dX3_init_9 : decode cX3_init 9 = .ok (.invokespecial 11, 3) := by decide +kernel
theorem dX3_init_12 : decode cX3_init 12 = .ok (.putfield 12, 3) := by decide +kernel
theorem dX3_init_15 : decode cX3_init 15 = .ok (.aload_n 0, 1) := by decide +kernel
theorem dX3_init_16 : decode cX3_init 16 = .ok (.new 16, 3) := by decide +kernel
theorem dX3_init_19 : decode cX3_init 19 = .ok (.dup, 1) := by decide +kernel
theorem dX3_init_20 : decode cX3_init 20 = .ok (.aload_n 0, 1) := by decide +kernel
theorem dX3_init_21 : decode cX3_init 21 = .ok (.getfield 12, 3) := by decide +kernel
theorem dX3_init_24 : decode cX3_init 24 = .ok (.invokespecial 18, 3) := by decide +kernel
theorem dX3_init_27 : decode cX3_init 27 = .ok (.putfield 21, 3) := by decide +kernel
theorem dX3_init_30 : decode cX3_init 30 = .ok (.aload_n 0, 1) := by decide +kernel
theorem dX3_init_31 : decode cX3_init 31 = .ok (.new 25, 3) := by decide +kernel
theorem dX3_init_34 : decode cX3_init 34 = .ok (.dup, 1) := by decide +kernel
theorem dX3_init_35 : decode cX3_init 35 = .ok (.invokespecial 27, 3) := by decide +kernel
theorem dX3_init_38 : decode cX3_init 38 = .ok (.putfield 28, 3) := by decide +kernel
theorem dX3_init_41 : decode cX3_init 41 = .ok (.aload_n 0, 1) := by decide +kernel
theorem dX3_init_42 : decode cX3_init 42 = .ok (.bipush 8, 2) := by decide +kernel
theorem dX3_init_44 : decode cX3_init 44 = .ok (.newarray .int, 2) := by decide +kernel
theorem dX3_init_46 : decode cX3_init 46 = .ok (.putfield 32, 3) := by decide +kernel
theorem dX3_init_49 : decode cX3_init 49 = .ok (.aload_n 0, 1) := by decide +kernel
theorem dX3_init_50 : decode cX3_init 50 = .ok (.bipush 8, 2) := by decide +kernel
theorem dX3_init_52 : decode cX3_init 52 = .ok (.newarray .int, 2) := by decide +kernel
theorem dX3_init_54 : decode cX3_init 54 = .ok (.putfield 36, 3) := by decide +kernel
theorem dX3_init_57 : decode cX3_init 57 = .ok (.aload_n 0, 1) := by decide +kernel
theorem dX3_init_58 : decode cX3_init 58 = .ok (.bipush 8, 2) := by decide +kernel
theorem dX3_init_60 : decode cX3_init 60 = .ok (.newarray .int, 2) := by decide +kernel
theorem dX3_init_62 : decode cX3_init 62 = .ok (.putfield 39, 3) := by decide +kernel
theorem dX3_init_65 : decode cX3_init 65 = .ok (.aload_n 0, 1) := by decide +kernel
theorem dX3_init_66 : decode cX3_init 66 = .ok (.bipush 8, 2) := by decide +kernel
theorem dX3_init_68 : decode cX3_init 68 = .ok (.newarray .int, 2) := by decide +kernel
theorem dX3_init_70 : decode cX3_init 70 = .ok (.putfield 42, 3) := by decide +kernel
theorem dX3_init_73 : decode cX3_init 73 = .ok (.aload_n 0, 1) := by decide +kernel
theorem dX3_init_74 : decode cX3_init 74 = .ok (.bipush 60, 2) := by decide +kernel
theorem dX3_init_76 : decode cX3_init 76 = .ok (.newarray .int, 2) := by decide +kernel
theorem dX3_init_78 : decode cX3_init 78 = .ok (.putfield 45, 3) := by decide +kernel
theorem dX3_init_81 : decode cX3_init 81 = .ok (.aload_n 0, 1) := by decide +kernel
theorem dX3_init_82 : decode cX3_init 82 = .ok (.iconst 0, 1) := by decide +kernel
theorem dX3_init_83 : decode cX3_init 83 = .ok (.putfield 48, 3) := by decide +kernel
theorem dX3_init_86 : decode cX3_init 86 = .ok (.aload_n 0, 1) := by decide +kernel
theorem dX3_init_87 : decode cX3_init 87 = .ok (.iconst 0, 1) := by decide +kernel
theorem dX3_init_88 : decode cX3_init 88 = .ok (.putfield 52, 3) := by decide +kernel
theorem dX3_init_91 : decode cX3_init 91 = .ok (.return_, 1) := by decide +kernel
set_option maxRecDepth 20000 in
theorem ggX3_name_X3_codeOf : GoodIn wsX3_name wsX3_codeOf := goodIn_r _ [8] (by decide +kernel) (by decide +kernel)
set_option maxRecDepth 20000 in
theorem gX3_name_X3_codeOf : GoodIn wsX3_name (va_wsS RX3 55 yX3_codeOf wsX3_codeOf) := goodIn_app (goodIn_of _ (by decide +kernel)) ggX3_name_X3_codeOf
set_option maxRecDepth 20000 in
theorem ggX3_name_X1_open : GoodIn wsX3_name wsX1_open := goodIn_ca (goodIn_r _ [12, 13, 24, 25] (by decide +kernel) (by decide +kernel)) (goodIn_sub (fun _ h => List.mem_cons_of_mem _ (List.mem_append_right _ h)) (by decide +kernel))
set_option maxRecDepth 20000 in
theorem gX3_name_X1_open_n59 : GoodIn wsX3_name (wsX1_open) := ggX3_name_X1_open
theorem dX3_name_0 : decode cX3_name 0 = .ok (.iload_n 1, 1) := by decide +kernel
theorem dX3_name_1 : decode cX3_name 1 = .ok (.iconst 1, 1) := by decide +kernel
theorem dX3_name_2 : decode cX3_name 2 = .ok (.if_icmp .lt 20, 3) := by decide +kernel
theorem dX3_name_5 : decode cX3_name 5 = .ok (.iload_n 1, 1) := by decide +kernel
theorem dX3_name_6 : decode cX3_name 6 = .ok (.bipush 6, 2) := by decide +kernel
theorem dX3_name_8 : decode cX3_name 8 = .ok (.if_icmp .gt 14, 3) := by decide +kernel
theorem dX3_name_11 : decode cX3_name 11 = .ok (.iload_n 2, 1) := by decide +kernel
theorem dX3_name_12 : decode cX3_name 12 = .ok (.iconst (-1), 1) := by decide +kernel
theorem dX3_name_13 : decode cX3_name 13 = .ok (.if_icmp .lt 9, 3) := by decide +kernel
theorem dX3_name_16 : decode cX3_name 16 = .ok (.iload_n 2, 1) := by decide +kernel
theorem dX3_name_17 : decode cX3_name 17 = .ok (.bipush 9, 2) := by decide +kernel
theorem dX3_name_19 : decode cX3_name 19 = .ok (.if_icmp .le 6, 3) := by decide +kernel
theorem dX3_name_22 : decode cX3_name 22 = .ok (.bipush (-2), 2) := by decide +kernel
theorem dX3_name_24 : decode cX3_name 24 = .ok (.ireturn, 1) := by decide +kernel
theorem dX3_name_25 : decode cX3_name 25 = .ok (.aload_n 0, 1) := by decide +kernel
theorem dX3_name_26 : decode cX3_name 26 = .ok (.getfield 48, 3) := by decide +kernel
theorem dX3_name_29 : decode cX3_name 29 = .ok (.bipush 8, 2) := by decide +kernel
theorem dX3_name_31 : decode cX3_name 31 = .ok (.if_icmp .lt 6, 3) := by decide +kernel
theorem dX3_name_34 : decode cX3_name 34 = .ok (.bipush (-4), 2) := by decide +kernel
theorem dX3_name_36 : decode cX3_name 36 = .ok (.ireturn, 1) := by decide +kernel
theorem dX3_name_37 : decode cX3_name 37 = .ok (.aload_n 0, 1) := by decide +kernel
theorem dX3_name_38 : decode cX3_name 38 = .ok (.getfield 48, 3) := by decide +kernel
theorem dX3_name_41 : decode cX3_name 41 = .ok (.istore_n 3, 1) := by decide +kernel
theorem dX3_name_42 : decode cX3_name 42 = .ok (.aload_n 0, 1) := by decide +kernel
theorem dX3_name_43 : decode cX3_name 43 = .ok (.getfield 32, 3) := by decide +kernel
theorem dX3_name_46 : decode cX3_name 46 = .ok (.iload_n 3, 1) := by decide +kernel
theorem dX3_name_47 : decode cX3_name 47 = .ok (.iload_n 1, 1) := by decide +kernel
theorem dX3_name_48 : decode cX3_name 48 = .ok (.iastore, 1) := by decide +kernel
theorem dX3_name_49 : decode cX3_name 49 = .ok (.aload_n 0, 1) := by decide +kernel
theorem dX3_name_50 : decode cX3_name 50 = .ok (.getfield 36, 3) := by decide +kernel
theorem dX3_name_53 : decode cX3_name 53 = .ok (.iload_n 3, 1) := by decide +kernel
theorem dX3_name_54 : decode cX3_name 54 = .ok (.iload_n 2, 1) := by decide +kernel
theorem dX3_name_55 : decode cX3_name 55 = .ok (.invokestatic 55, 3) := by decide +kernel
theorem dX3_name_58 : decode cX3_name 58 = .ok (.iastore, 1) := by decide +kernel
theorem dX3_name_59 : decode cX3_name 59 = .ok (.aload_n 0, 1) := by decide +kernel
theorem dX3_name_60 : decode cX3_name 60 = .ok (.getfield 12, 3) := by decide +kernel
theorem dX3_name_63 : decode cX3_name 63 = .ok (.iload_n 3, 1) := by decide +kernel
theorem dX3_name_64 : decode cX3_name 64 = .ok (.iload_n 1, 1) := by decide +kernel
theorem dX3_name_65 : decode cX3_name 65 = .ok (.invokevirtual 59, 3) := by decide +kernel
theorem dX3_name_68 : decode cX3_name 68 = .ok (.aload_n 0, 1) := by decide +kernel
theorem dX3_name_69 : decode cX3_name 69 = .ok (.dup, 1) := by decide +kernel
theorem dX3_name_70 : decode cX3_name 70 = .ok (.getfield 48, 3) := by decide +kernel
theorem dX3_name_73 : decode cX3_name 73 = .ok (.iconst 1, 1) := by decide +kernel
theorem dX3_name_74 : decode cX3_name 74 = .ok (.iadd, 1) := by decide +kernel
theorem dX3_name_75 : decode cX3_name 75 = .ok (.putfield 48, 3) := by decide +kernel
theorem dX3_name_78 : decode cX3_name 78 = .ok (.iload_n 3, 1) := by decide +kernel
theorem dX3_name_79 : decode cX3_name 79 = .ok (.ireturn, 1) := by decide +kernel
set_option maxRecDepth 20000 in
theorem ggX3_needs_X3_isName : GoodIn wsX3_needs wsX3_isName := goodIn_r _ [8, 9, 34, 35, 36, 37, 38, 39, 40, 41, 42, 43] (by decide +kernel) (by decide +kernel)
set_option maxRecDepth 20000 in
theorem gX3_needs_X3_isName : GoodIn wsX3_needs (wsV RX3 63 RX3 yX3_isName wsX3_isName) := goodIn_app (goodIn_of _ (by decide +kernel)) ggX3_needs_X3_isName
set_option maxRecDepth 20000 in
theorem ggX3_needs_X3_codeOf : GoodIn wsX3_needs wsX3_codeOf := goodIn_r _ [12] (by decide +kernel) (by decide +kernel)
set_option maxRecDepth 20000 in
theorem gX3_needs_X3_codeOf : GoodIn wsX3_needs (va_wsS RX3 55 yX3_codeOf wsX3_codeOf) := goodIn_app (goodIn_of _ (by decide +kernel)) ggX3_needs_X3_codeOf
set_option maxRecDepth 20000 in
theorem ggX3_needs_X3_codesOf : GoodIn wsX3_needs wsX3_codesOf := goodIn_r _ [15] (by decide +kernel) (by decide +kernel)
set_option maxRecDepth 20000 in
theorem gX3_needs_X3_codesOf : GoodIn wsX3_needs (va_wsS RX3 67 yX3_codesOf wsX3_codesOf) := goodIn_app (goodIn_of _ (by decide +kernel)) ggX3_needs_X3_codesOf
set_option maxRecDepth 20000 in
theorem ggX3_needs_X1_tie : GoodIn wsX3_needs wsX1_tie := goodIn_ca (goodIn_r _ [19, 20, 21, 22, 23, 17, 24, 25, 26, 27, 28, 44, 45] (by decide +kernel) (by decide +kernel)) (goodIn_sub (fun _ h => List.mem_cons_of_mem _ (List.mem_append_right _ h)) (by decide +kernel))
set_option maxRecDepth 20000 in
theorem gX3_needs_X1_tie_n71 : GoodIn wsX3_needs (wsX1_tie) := ggX3_needs_X1_tie
set_option maxRecDepth 20000 in
theorem ggX3_needs_X3_addRow : GoodIn wsX3_needs wsX3_addRow := goodIn_ca (goodIn_r _ [32, 2, 33, 34, 35, 36, 37, 38, 39, 40, 41, 42, 43] (by decide +kernel) (by decide +kernel)) (goodIn_sub (fun _ h => List.mem_cons_of_mem _ (List.mem_append_right _ h)) (by decide +kernel))
set_option maxRecDepth 20000 in
theorem gX3_needs_X3_addRow : GoodIn wsX3_needs (wsV RX3 75 RX3 yX3_addRow wsX3_addRow) := goodIn_app (goodIn_of _ (by decide +kernel)) ggX3_needs_X3_addRow
theorem dX3_needs_0 : decode cX3_needs 0 = .ok (.aload_n 0, 1) := by decide +kernel
theorem dX3_needs_1 : decode cX3_needs 1 = .ok (.iload_n 1, 1) := by decide +kernel
theorem dX3_needs_2 : decode cX3_needs 2 = .ok (.invokevirtual 63, 3) := by decide +kernel
theorem dX3_needs_5 : decode cX3_needs 5 = .ok (.ifCond .eq 11, 3) := by decide +kernel
theorem dX3_needs_8 : decode cX3_needs 8 = .ok (.aload_n 0, 1) := by decide +kernel
theorem dX3_needs_9 : decode cX3_needs 9 = .ok (.iload_n 3, 1) := by decide +kernel
theorem dX3_needs_10 : decode cX3_needs 10 = .ok (.invokevirtual 63, 3) := by decide +kernel
theorem dX3_needs_13 : decode cX3_needs 13 = .ok (.ifCond .ne 5, 3) := by decide +kernel
theorem dX3_needs_16 : decode cX3_needs 16 = .ok (.iconst (-1), 1) := by decide +kernel
theorem dX3_needs_17 : decode cX3_needs 17 = .ok (.ireturn, 1) := by decide +kernel
theorem dX3_needs_18 : decode cX3_needs 18 = .ok (.iload_n 2, 1) := by decide +kernel
theorem dX3_needs_19 : decode cX3_needs 19 = .ok (.ifCond .lt 13, 3) := by decide +kernel
theorem dX3_needs_22 : decode cX3_needs 22 = .ok (.iload_n 2, 1) := by decide +kernel
theorem dX3_needs_23 : decode cX3_needs 23 = .ok (.aload_n 0, 1) := by decide +kernel
theorem dX3_needs_24 : decode cX3_needs 24 = .ok (.getfield 32, 3) := by decide +kernel
theorem dX3_needs_27 : decode cX3_needs 27 = .ok (.iload_n 1, 1) := by decide +kernel
theorem dX3_needs_28 : decode cX3_needs 28 = .ok (.iaload, 1) := by decide +kernel
theorem dX3_needs_29 : decode cX3_needs 29 = .ok (.if_icmp .lt 6, 3) := by decide +kernel
theorem dX3_needs_32 : decode cX3_needs 32 = .ok (.bipush (-2), 2) := by decide +kernel
theorem dX3_needs_34 : decode cX3_needs 34 = .ok (.ireturn, 1) := by decide +kernel
theorem dX3_needs_35 : decode cX3_needs 35 = .ok (.aload_n 0, 1) := by decide +kernel
theorem dX3_needs_36 : decode cX3_needs 36 = .ok (.getfield 52, 3) := by decide +kernel
theorem dX3_needs_39 : decode cX3_needs 39 = .ok (.bipush 60, 2) := by decide +kernel
theorem dX3_needs_41 : decode cX3_needs 41 = .ok (.if_icmp .lt 6, 3) := by decide +kernel
theorem dX3_needs_44 : decode cX3_needs 44 = .ok (.bipush (-4), 2) := by decide +kernel
theorem dX3_needs_46 : decode cX3_needs 46 = .ok (.ireturn, 1) := by decide +kernel
theorem dX3_needs_47 : decode cX3_needs 47 = .ok (.aload_n 0, 1) := by decide +kernel
theorem dX3_needs_48 : decode cX3_needs 48 = .ok (.getfield 12, 3) := by decide +kernel
theorem dX3_needs_51 : decode cX3_needs 51 = .ok (.iload_n 1, 1) := by decide +kernel
theorem dX3_needs_52 : decode cX3_needs 52 = .ok (.iload_n 2, 1) := by decide +kernel
theorem dX3_needs_53 : decode cX3_needs 53 = .ok (.invokestatic 55, 3) := by decide +kernel
theorem dX3_needs_56 : decode cX3_needs 56 = .ok (.iload_n 3, 1) := by decide +kernel
theorem dX3_needs_57 : decode cX3_needs 57 = .ok (.lload 4, 2) := by decide +kernel
theorem dX3_needs_59 : decode cX3_needs 59 = .ok (.invokestatic 67, 3) := by decide +kernel
theorem dX3_needs_62 : decode cX3_needs 62 = .ok (.invokevirtual 71, 3) := by decide +kernel
theorem dX3_needs_65 : decode cX3_needs 65 = .ok (.aload_n 0, 1) := by decide +kernel
theorem dX3_needs_66 : decode cX3_needs 66 = .ok (.iconst 0, 1) := by decide +kernel
theorem dX3_needs_67 : decode cX3_needs 67 = .ok (.iload_n 1, 1) := by decide +kernel
theorem dX3_needs_68 : decode cX3_needs 68 = .ok (.iload_n 2, 1) := by decide +kernel
theorem dX3_needs_69 : decode cX3_needs 69 = .ok (.iload_n 3, 1) := by decide +kernel
theorem dX3_needs_70 : decode cX3_needs 70 = .ok (.invokevirtual 75, 3) := by decide +kernel
theorem dX3_needs_73 : decode cX3_needs 73 = .ok (.ireturn, 1) := by decide +kernel
set_option maxRecDepth 20000 in
theorem ggX3_want_X3_codesOf : GoodIn wsX3_want wsX3_codesOf := goodIn_r _ [4] (by decide +kernel) (by decide +kernel)
set_option maxRecDepth 20000 in
theorem gX3_want_X3_codesOf : GoodIn wsX3_want (va_wsS RX3 67 yX3_codesOf wsX3_codesOf) := goodIn_app (goodIn_of _ (by decide +kernel)) ggX3_want_X3_codesOf
set_option maxRecDepth 20000 in
theorem ggX3_want_X3_addSetRow : GoodIn wsX3_want wsX3_addSetRow := goodIn_ca (goodIn_r _ [8, 9, 10, 11, 12, 13, 3, 14, 15, 16, 17, 18, 19, 20, 21, 22, 23, 24, 25, 26, 27, 28, 29, 30, 31, 32, 33, 34, 35, 36, 37] (by decide +kernel) (by decide +kernel)) (goodIn_sub (fun _ h => List.mem_cons_of_mem _ (List.mem_append_right _ h)) (by decide +kernel))
set_option maxRecDepth 20000 in
theorem gX3_want_X3_addSetRow : GoodIn wsX3_want (wsV RX3 79 RX3 yX3_addSetRow wsX3_addSetRow) := goodIn_app (goodIn_of _ (by decide +kernel)) ggX3_want_X3_addSetRow
theorem dX3_want_0 : decode cX3_want 0 = .ok (.aload_n 0, 1) := by decide +kernel
theorem dX3_want_1 : decode cX3_want 1 = .ok (.iconst 1, 1) := by decide +kernel
theorem dX3_want_2 : decode cX3_want 2 = .ok (.iload_n 1, 1) := by decide +kernel
theorem dX3_want_3 : decode cX3_want 3 = .ok (.lload_n 2, 1) := by decide +kernel
theorem dX3_want_4 : decode cX3_want 4 = .ok (.invokestatic 67, 3) := by decide +kernel
theorem dX3_want_7 : decode cX3_want 7 = .ok (.invokevirtual 79, 3) := by decide +kernel
theorem dX3_want_10 : decode cX3_want 10 = .ok (.ireturn, 1) := by decide +kernel
set_option maxRecDepth 20000 in
theorem ggX3_force_X3_codesOf : GoodIn wsX3_force wsX3_codesOf := goodIn_r _ [4] (by decide +kernel) (by decide +kernel)
set_option maxRecDepth 20000 in
theorem gX3_force_X3_codesOf : GoodIn wsX3_force (va_wsS RX3 67 yX3_codesOf wsX3_codesOf) := goodIn_app (goodIn_of _ (by decide +kernel)) ggX3_force_X3_codesOf
set_option maxRecDepth 20000 in
theorem ggX3_force_X3_addSetRow : GoodIn wsX3_force wsX3_addSetRow := goodIn_ca (goodIn_r _ [8, 9, 10, 11, 12, 13, 3, 14, 15, 16, 17, 18, 19, 20, 21, 22, 23, 24, 25, 26, 27, 28, 29, 30, 31, 32, 33, 34, 35, 36, 37] (by decide +kernel) (by decide +kernel)) (goodIn_sub (fun _ h => List.mem_cons_of_mem _ (List.mem_append_right _ h)) (by decide +kernel))
set_option maxRecDepth 20000 in
theorem gX3_force_X3_addSetRow : GoodIn wsX3_force (wsV RX3 79 RX3 yX3_addSetRow wsX3_addSetRow) := goodIn_app (goodIn_of _ (by decide +kernel)) ggX3_force_X3_addSetRow
theorem dX3_force_0 : decode cX3_force 0 = .ok (.aload_n 0, 1) := by decide +kernel
theorem dX3_force_1 : decode cX3_force 1 = .ok (.iconst 2, 1) := by decide +kernel
theorem dX3_force_2 : decode cX3_force 2 = .ok (.iload_n 1, 1) := by decide +kernel
theorem dX3_force_3 : decode cX3_force 3 = .ok (.lload_n 2, 1) := by decide +kernel
theorem dX3_force_4 : decode cX3_force 4 = .ok (.invokestatic 67, 3) := by decide +kernel
theorem dX3_force_7 : decode cX3_force 7 = .ok (.iconst 1, 1) := by decide +kernel
theorem dX3_force_8 : decode cX3_force 8 = .ok (.ior, 1) := by decide +kernel
theorem dX3_force_9 : decode cX3_force 9 = .ok (.invokevirtual 79, 3) := by decide +kernel
theorem dX3_force_12 : decode cX3_force 12 = .ok (.ireturn, 1) := by decide +kernel
set_option maxRecDepth 20000 in
theorem ggX3_group_X3_isName : GoodIn wsX3_group wsX3_isName := goodIn_r _ [7, 8, 27, 28, 29, 30, 31, 32, 33, 34, 35, 36] (by decide +kernel) (by decide +kernel)
set_option maxRecDepth 20000 in
theorem gX3_group_X3_isName : GoodIn wsX3_group (wsV RX3 63 RX3 yX3_isName wsX3_isName) := goodIn_app (goodIn_of _ (by decide +kernel)) ggX3_group_X3_isName
set_option maxRecDepth 20000 in
theorem ggX3_group_X1_tie : GoodIn wsX3_group wsX1_tie := goodIn_ca (goodIn_r _ [12, 13, 14, 15, 16, 10, 17, 18, 19, 20, 21, 37, 38] (by decide +kernel) (by decide +kernel)) (goodIn_sub (fun _ h => List.mem_cons_of_mem _ (List.mem_append_right _ h)) (by decide +kernel))
set_option maxRecDepth 20000 in
theorem gX3_group_X1_tie_n71 : GoodIn wsX3_group (wsX1_tie) := ggX3_group_X1_tie
set_option maxRecDepth 20000 in
theorem ggX3_group_X3_addRow : GoodIn wsX3_group wsX3_addRow := goodIn_ca (goodIn_r _ [25, 1, 26, 27, 28, 29, 30, 31, 32, 33, 34, 35, 36] (by decide +kernel) (by decide +kernel)) (goodIn_sub (fun _ h => List.mem_cons_of_mem _ (List.mem_append_right _ h)) (by decide +kernel))
set_option maxRecDepth 20000 in
theorem gX3_group_X3_addRow : GoodIn wsX3_group (wsV RX3 75 RX3 yX3_addRow wsX3_addRow) := goodIn_app (goodIn_of _ (by decide +kernel)) ggX3_group_X3_addRow
theorem dX3_group_0 : decode cX3_group 0 = .ok (.aload_n 0, 1) := by decide +kernel
theorem dX3_group_1 : decode cX3_group 1 = .ok (.iload_n 1, 1) := by decide +kernel
theorem dX3_group_2 : decode cX3_group 2 = .ok (.invokevirtual 63, 3) := by decide +kernel
theorem dX3_group_5 : decode cX3_group 5 = .ok (.ifCond .eq 11, 3) := by decide +kernel
theorem dX3_group_8 : decode cX3_group 8 = .ok (.aload_n 0, 1) := by decide +kernel
theorem dX3_group_9 : decode cX3_group 9 = .ok (.iload_n 2, 1) := by decide +kernel
theorem dX3_group_10 : decode cX3_group 10 = .ok (.invokevirtual 63, 3) := by decide +kernel
theorem dX3_group_13 : decode cX3_group 13 = .ok (.ifCond .ne 5, 3) := by decide +kernel
theorem dX3_group_16 : decode cX3_group 16 = .ok (.iconst (-1), 1) := by decide +kernel
theorem dX3_group_17 : decode cX3_group 17 = .ok (.ireturn, 1) := by decide +kernel
theorem dX3_group_18 : decode cX3_group 18 = .ok (.iload_n 1, 1) := by decide +kernel
theorem dX3_group_19 : decode cX3_group 19 = .ok (.iload_n 2, 1) := by decide +kernel
theorem dX3_group_20 : decode cX3_group 20 = .ok (.if_icmp .ne 6, 3) := by decide +kernel
theorem dX3_group_23 : decode cX3_group 23 = .ok (.bipush (-2), 2) := by decide +kernel
theorem dX3_group_25 : decode cX3_group 25 = .ok (.ireturn, 1) := by decide +kernel
theorem dX3_group_26 : decode cX3_group 26 = .ok (.aload_n 0, 1) := by decide +kernel
theorem dX3_group_27 : decode cX3_group 27 = .ok (.getfield 52, 3) := by decide +kernel
theorem dX3_group_30 : decode cX3_group 30 = .ok (.bipush 60, 2) := by decide +kernel
theorem dX3_group_32 : decode cX3_group 32 = .ok (.if_icmp .lt 6, 3) := by decide +kernel
theorem dX3_group_35 : decode cX3_group 35 = .ok (.bipush (-4), 2) := by decide +kernel
theorem dX3_group_37 : decode cX3_group 37 = .ok (.ireturn, 1) := by decide +kernel
theorem dX3_group_38 : decode cX3_group 38 = .ok (.iconst 1, 1) := by decide +kernel
theorem dX3_group_39 : decode cX3_group 39 = .ok (.istore_n 3, 1) := by decide +kernel
theorem dX3_group_40 : decode cX3_group 40 = .ok (.iload_n 3, 1) := by decide +kernel
theorem dX3_group_41 : decode cX3_group 41 = .ok (.bipush 7, 2) := by decide +kernel
theorem dX3_group_43 : decode cX3_group 43 = .ok (.if_icmp .ge 24, 3) := by decide +kernel
theorem dX3_group_46 : decode cX3_group 46 = .ok (.aload_n 0, 1) := by decide +kernel
theorem dX3_group_47 : decode cX3_group 47 = .ok (.getfield 12, 3) := by decide +kernel
theorem dX3_group_50 : decode cX3_group 50 = .ok (.iload_n 1, 1) := by decide +kernel
theorem dX3_group_51 : decode cX3_group 51 = .ok (.iload_n 3, 1) := by decide +kernel
theorem dX3_group_52 : decode cX3_group 52 = .ok (.iload_n 2, 1) := by decide +kernel
theorem dX3_group_53 : decode cX3_group 53 = .ok (.iconst 1, 1) := by decide +kernel
theorem dX3_group_54 : decode cX3_group 54 = .ok (.iconst 1, 1) := by decide +kernel
theorem dX3_group_55 : decode cX3_group 55 = .ok (.iload_n 3, 1) := by decide +kernel
theorem dX3_group_56 : decode cX3_group 56 = .ok (.ishl, 1) := by decide +kernel
theorem dX3_group_57 : decode cX3_group 57 = .ok (.ior, 1) := by decide +kernel
theorem dX3_group_58 : decode cX3_group 58 = .ok (.invokevirtual 71, 3) := by decide +kernel
theorem dX3_group_61 : decode cX3_group 61 = .ok (.iinc 3 1, 3) := by decide +kernel
theorem dX3_group_64 : decode cX3_group 64 = .ok (.goto (-24), 3) := by decide +kernel
theorem dX3_group_67 : decode cX3_group 67 = .ok (.aload_n 0, 1) := by decide +kernel
theorem dX3_group_68 : decode cX3_group 68 = .ok (.iconst 3, 1) := by decide +kernel
theorem dX3_group_69 : decode cX3_group 69 = .ok (.iload_n 1, 1) := by decide +kernel
theorem dX3_group_70 : decode cX3_group 70 = .ok (.iconst 0, 1) := by decide +kernel
theorem dX3_group_71 : decode cX3_group 71 = .ok (.iload_n 2, 1) := by decide +kernel
theorem dX3_group_72 : decode cX3_group 72 = .ok (.invokevirtual 75, 3) := by decide +kernel
theorem dX3_group_75 : decode cX3_group 75 = .ok (.ireturn, 1) := by decide +kernel
set_option maxRecDepth 20000 in
theorem ggX3_solve_X2_findBest : GoodIn wsX3_solve wsX2_findBest := goodIn_ca (goodIn_r _ [13, 14, 15, 16, 17, 11, 18, 19, 20, 21, 22, 23, 24, 25, 26, 27, 28, 29, 30, 31, 32, 33, 34, 35, 36, 37, 38, 39, 40, 41, 42, 43, 44, 45, 46, 47, 48, 49, 50, 51, 52, 53, 54, 55, 56, 57, 58, 59, 60, 61, 62, 63, 64, 65, 66, 67, 99, 100, 101, 102, 103, 104, 105, 106, 107, 108, 109] (by decide +kernel) (by decide +kernel)) (goodIn_sub (fun _ h => List.mem_cons_of_mem _ (List.mem_append_right _ h)) (by decide +kernel))
set_option maxRecDepth 20000 in
theorem gX3_solve_X2_findBest_n83 : GoodIn wsX3_solve (wsX2_findBest) := ggX3_solve_X2_findBest
set_option maxRecDepth 20000 in
theorem ggX3_solve_X2_changedCount : GoodIn wsX3_solve wsX2_changedCount := goodIn_r _ [70, 20, 99, 100, 101, 102, 103, 104, 105, 106, 107] (by decide +kernel) (by decide +kernel)
set_option maxRecDepth 20000 in
theorem gX3_solve_X2_changedCount_n87 : GoodIn wsX3_solve (wsX2_changedCount) := ggX3_solve_X2_changedCount
set_option maxRecDepth 20000 in
theorem ggX3_solve_X3_waysToTry : GoodIn wsX3_solve wsX3_waysToTry := goodIn_r _ [74, 2, 89, 90, 91, 92, 93, 94, 95, 96, 97, 98] (by decide +kernel) (by decide +kernel)
set_option maxRecDepth 20000 in
theorem gX3_solve_X3_waysToTry : GoodIn wsX3_solve (wsV RX3 97 RX3 yX3_waysToTry wsX3_waysToTry) := goodIn_app (goodIn_of _ (by decide +kernel)) ggX3_solve_X3_waysToTry
set_option maxRecDepth 20000 in
theorem ggX3_solve_X2_findFirst : GoodIn wsX3_solve wsX2_findFirst := goodIn_ca (goodIn_r _ [77, 14, 15, 16, 17, 11, 18, 19, 20, 21, 22, 23, 24, 25, 26, 27, 28, 29, 30, 31, 32, 33, 34, 35, 36, 37, 38, 39, 40, 41, 42, 43, 44, 45, 46, 47, 48, 49, 50, 51, 52, 53, 54, 55, 56, 57, 58, 59, 60, 61, 62, 63, 64, 65, 66, 67, 99, 100, 101, 102, 103, 104, 105, 106, 107, 108, 109] (by decide +kernel) (by decide +kernel)) (goodIn_sub (fun _ h => List.mem_cons_of_mem _ (List.mem_append_right _ h)) (by decide +kernel))
set_option maxRecDepth 20000 in
theorem gX3_solve_X2_findFirst_n100 : GoodIn wsX3_solve (wsX2_findFirst) := ggX3_solve_X2_findFirst
set_option maxRecDepth 20000 in
theorem ggX3_solve_X0_keep : GoodIn wsX3_solve wsX0_keep := goodIn_ca (goodIn_r _ [81, 82, 83, 84, 85, 86, 11, 87, 88, 33, 42, 43, 44, 45, 46, 110, 111, 112, 113, 99, 100, 101, 102, 103, 104, 105, 106, 107] (by decide +kernel) (by decide +kernel)) (goodIn_sub (fun _ h => List.mem_cons_of_mem _ (List.mem_append_right _ h)) (by decide +kernel))
set_option maxRecDepth 20000 in
theorem gX3_solve_X0_keep_n103 : GoodIn wsX3_solve (wsX0_keep) := ggX3_solve_X0_keep
theorem dX3_solve_0 : decode cX3_solve 0 = .ok (.iload_n 1, 1) := by decide +kernel
theorem dX3_solve_1 : decode cX3_solve 1 = .ok (.ifCond .lt 15, 3) := by decide +kernel
theorem dX3_solve_4 : decode cX3_solve 4 = .ok (.iload_n 1, 1) := by decide +kernel
