theorem inlX0 : ∀ w ∈ wsX00, w ∈ wsL_law := fun _ h => List.mem_append_left _ (List.mem_append_right _ h)
theorem inX0 : ∀ w ∈ wsX00, w ∈ lw_tbl := fun w h => wsL_law_in w (inlX0 w h)
theorem inlX1 : ∀ w ∈ wsX10, w ∈ wsL_law := fun _ h => List.mem_append_left _ (List.mem_append_left _ (List.mem_append_left _ (List.mem_append_left _ (List.mem_append_left _ (List.mem_append_right _ h)))))
theorem inX1 : ∀ w ∈ wsX10, w ∈ lw_tbl := fun w h => wsL_law_in w (inlX1 w h)
theorem inlX2 : ∀ w ∈ wsX20, w ∈ wsL_law := fun _ h => List.mem_append_left _ (List.mem_append_left _ (List.mem_append_left _ (List.mem_append_right _ h)))
theorem inX2 : ∀ w ∈ wsX20, w ∈ lw_tbl := fun w h => wsL_law_in w (inlX2 w h)
theorem inlX3 : ∀ w ∈ wsX30, w ∈ wsL_law := fun _ h => List.mem_append_left _ (List.mem_append_left _ (List.mem_append_left _ (List.mem_append_left _ (List.mem_append_right _ h))))
theorem inX3 : ∀ w ∈ wsX30, w ∈ lw_tbl := fun w h => wsL_law_in w (inlX3 w h)
theorem inX4 : ∀ w ∈ wsX40, w ∈ lw_tbl := by decide +kernel
theorem inlX5 : ∀ w ∈ wsX50, w ∈ wsL_law := fun _ h => List.mem_append_left _ (List.mem_append_left _ (List.mem_append_right _ h))
theorem inX5 : ∀ w ∈ wsX50, w ∈ lw_tbl := fun w h => wsL_law_in w (inlX5 w h)
theorem inX6 : ∀ w ∈ wsX60, w ∈ lw_tbl := by decide +kernel
theorem inlX7 : ∀ w ∈ wsX70, w ∈ wsL_law := fun _ h => List.mem_append_left _ (List.mem_append_left _ (List.mem_append_left _ (List.mem_append_left _ (List.mem_append_left _ (List.mem_append_left _ (List.mem_append_right _ h))))))
theorem inX7 : ∀ w ∈ wsX70, w ∈ lw_tbl := fun w h => wsL_law_in w (inlX7 w h)
theorem inX8 : ∀ w ∈ wsX80, w ∈ lw_tbl := by decide +kernel
theorem inJ6 : ∀ w ∈ wsJ60, w ∈ lw_tbl := by decide +kernel
theorem inJ10 : ∀ w ∈ wsJ100, w ∈ lw_tbl := by decide +kernel
theorem dX0_init_0 : decode cX0_init 0 = .ok (.aload_n 0, 1) := by decide +kernel
theorem dX0_init_1 : decode cX0_init 1 = .ok (.invokespecial 3, 3) := by decide +kernel
theorem dX0_init_4 : decode cX0_init 4 = .ok (.aload_n 0, 1) := by decide +kernel
theorem dX0_init_5 : decode cX0_init 5 = .ok (.bipush 24, 2) := by decide +kernel
theorem dX0_init_7 : decode cX0_init 7 = .ok (.newarray .int, 2) := by decide +kernel
theorem dX0_init_9 : decode cX0_init 9 = .ok (.putfield 9, 3) := by decide +kernel
theorem dX0_init_12 : decode cX0_init 12 = .ok (.aload_n 0, 1) := by decide +kernel
theorem dX0_init_13 : decode cX0_init 13 = .ok (.iconst 0, 1) := by decide +kernel
theorem dX0_init_14 : decode cX0_init 14 = .ok (.putfield 15, 3) := by decide +kernel
theorem dX0_init_17 : decode cX0_init 17 = .ok (.return_, 1) := by decide +kernel
set_option maxRecDepth 20000 in
theorem ggX0_pressAt_X7_isBelow : GoodIn wsX0_pressAt wsX7_isBelow := goodIn_r _ [4] (by decide +kernel) (by decide +kernel)
set_option maxRecDepth 20000 in
theorem gX0_pressAt_X7_isBelow_n19 : GoodIn wsX0_pressAt (wsX7_isBelow) := ggX0_pressAt_X7_isBelow
theorem dX0_pressAt_0 : decode cX0_pressAt 0 = .ok (.iload_n 1, 1) := by decide +kernel
theorem dX0_pressAt_1 : decode cX0_pressAt 1 = .ok (.bipush 24, 2) := by decide +kernel
theorem dX0_pressAt_3 : decode cX0_pressAt 3 = .ok (.invokestatic 19, 3) := by decide +kernel
theorem dX0_pressAt_6 : decode cX0_pressAt 6 = .ok (.ifCond .eq 12, 3) := by decide +kernel
theorem dX0_pressAt_9 : decode cX0_pressAt 9 = .ok (.aload_n 0, 1) := by decide +kernel
theorem dX0_pressAt_10 : decode cX0_pressAt 10 = .ok (.getfield 9, 3) := by decide +kernel
theorem dX0_pressAt_13 : decode cX0_pressAt 13 = .ok (.iload_n 1, 1) := by decide +kernel
theorem dX0_pressAt_14 : decode cX0_pressAt 14 = .ok (.iaload, 1) := by decide +kernel
theorem dX0_pressAt_15 : decode cX0_pressAt 15 = .ok (.goto 4, 3) := by decide +kernel
theorem dX0_pressAt_18 : decode cX0_pressAt 18 = .ok (.iconst 0, 1) := by decide +kernel
theorem dX0_pressAt_19 : decode cX0_pressAt 19 = .ok (.ireturn, 1) := by decide +kernel
set_option maxRecDepth 20000 in
theorem ggX0_add_X7_isBelow : GoodIn wsX0_add wsX7_isBelow := goodIn_r _ [5] (by decide +kernel) (by decide +kernel)
set_option maxRecDepth 20000 in
theorem gX0_add_X7_isBelow_n19 : GoodIn wsX0_add (wsX7_isBelow) := ggX0_add_X7_isBelow
theorem dX0_add_0 : decode cX0_add 0 = .ok (.aload_n 0, 1) := by decide +kernel
theorem dX0_add_1 : decode cX0_add 1 = .ok (.getfield 15, 3) := by decide +kernel
theorem dX0_add_4 : decode cX0_add 4 = .ok (.bipush 24, 2) := by decide +kernel
theorem dX0_add_6 : decode cX0_add 6 = .ok (.invokestatic 19, 3) := by decide +kernel
theorem dX0_add_9 : decode cX0_add 9 = .ok (.ifCond .ne 4, 3) := by decide +kernel
theorem dX0_add_12 : decode cX0_add 12 = .ok (.return_, 1) := by decide +kernel
theorem dX0_add_13 : decode cX0_add 13 = .ok (.aload_n 0, 1) := by decide +kernel
theorem dX0_add_14 : decode cX0_add 14 = .ok (.getfield 9, 3) := by decide +kernel
theorem dX0_add_17 : decode cX0_add 17 = .ok (.aload_n 0, 1) := by decide +kernel
theorem dX0_add_18 : decode cX0_add 18 = .ok (.getfield 15, 3) := by decide +kernel
theorem dX0_add_21 : decode cX0_add 21 = .ok (.iload_n 1, 1) := by decide +kernel
theorem dX0_add_22 : decode cX0_add 22 = .ok (.iastore, 1) := by decide +kernel
theorem dX0_add_23 : decode cX0_add 23 = .ok (.aload_n 0, 1) := by decide +kernel
theorem dX0_add_24 : decode cX0_add 24 = .ok (.dup, 1) := by decide +kernel
theorem dX0_add_25 : decode cX0_add 25 = .ok (.getfield 15, 3) := by decide +kernel
theorem dX0_add_28 : decode cX0_add 28 = .ok (.iconst 1, 1) := by decide +kernel
theorem dX0_add_29 : decode cX0_add 29 = .ok (.iadd, 1) := by decide +kernel
theorem dX0_add_30 : decode cX0_add 30 = .ok (.putfield 15, 3) := by decide +kernel
theorem dX0_add_33 : decode cX0_add 33 = .ok (.return_, 1) := by decide +kernel
set_option maxRecDepth 20000 in
theorem ggX0_append_X0_pressAt : GoodIn wsX0_append wsX0_pressAt := goodIn_r _ [6, 7, 8, 9, 10, 15, 16] (by decide +kernel) (by decide +kernel)
set_option maxRecDepth 20000 in
theorem gX0_append_X0_pressAt : GoodIn wsX0_append (wsV RX0 23 RX0 yX0_pressAt wsX0_pressAt) := goodIn_app (goodIn_of _ (by decide +kernel)) ggX0_append_X0_pressAt
set_option maxRecDepth 20000 in
theorem ggX0_append_X0_add : GoodIn wsX0_append wsX0_add := goodIn_r _ [14, 1, 7, 8, 9, 10, 15, 16] (by decide +kernel) (by decide +kernel)
set_option maxRecDepth 20000 in
theorem gX0_append_X0_add : GoodIn wsX0_append (wsV RX0 27 RX0 yX0_add wsX0_add) := goodIn_app (goodIn_of _ (by decide +kernel)) ggX0_append_X0_add
theorem dX0_append_0 : decode cX0_append 0 = .ok (.iconst 0, 1) := by decide +kernel
theorem dX0_append_1 : decode cX0_append 1 = .ok (.istore_n 2, 1) := by decide +kernel
theorem dX0_append_2 : decode cX0_append 2 = .ok (.iload_n 2, 1) := by decide +kernel
theorem dX0_append_3 : decode cX0_append 3 = .ok (.aload_n 1, 1) := by decide +kernel
theorem dX0_append_4 : decode cX0_append 4 = .ok (.getfield 15, 3) := by decide +kernel
theorem dX0_append_7 : decode cX0_append 7 = .ok (.if_icmp .ge 24, 3) := by decide +kernel
theorem dX0_append_10 : decode cX0_append 10 = .ok (.iload_n 2, 1) := by decide +kernel
theorem dX0_append_11 : decode cX0_append 11 = .ok (.bipush 24, 2) := by decide +kernel
theorem dX0_append_13 : decode cX0_append 13 = .ok (.if_icmp .ge 18, 3) := by decide +kernel
theorem dX0_append_16 : decode cX0_append 16 = .ok (.aload_n 0, 1) := by decide +kernel
theorem dX0_append_17 : decode cX0_append 17 = .ok (.aload_n 1, 1) := by decide +kernel
theorem dX0_append_18 : decode cX0_append 18 = .ok (.iload_n 2, 1) := by decide +kernel
theorem dX0_append_19 : decode cX0_append 19 = .ok (.invokevirtual 23, 3) := by decide +kernel
theorem dX0_append_22 : decode cX0_append 22 = .ok (.invokevirtual 27, 3) := by decide +kernel
theorem dX0_append_25 : decode cX0_append 25 = .ok (.iinc 2 1, 3) := by decide +kernel
theorem dX0_append_28 : decode cX0_append 28 = .ok (.goto (-26), 3) := by decide +kernel
theorem dX0_append_31 : decode cX0_append 31 = .ok (.return_, 1) := by decide +kernel
set_option maxRecDepth 20000 in
theorem ggX0_appendTurned_X0_pressAt : GoodIn wsX0_appendTurned wsX0_pressAt := goodIn_r _ [6, 7, 8, 9, 10, 15, 16] (by decide +kernel) (by decide +kernel)
set_option maxRecDepth 20000 in
theorem gX0_appendTurned_X0_pressAt : GoodIn wsX0_appendTurned (wsV RX0 23 RX0 yX0_pressAt wsX0_pressAt) := goodIn_app (goodIn_of _ (by decide +kernel)) ggX0_appendTurned_X0_pressAt
set_option maxRecDepth 20000 in
theorem ggX0_appendTurned_X0_add : GoodIn wsX0_appendTurned wsX0_add := goodIn_r _ [14, 1, 7, 8, 9, 10, 15, 16] (by decide +kernel) (by decide +kernel)
set_option maxRecDepth 20000 in
theorem gX0_appendTurned_X0_add : GoodIn wsX0_appendTurned (wsV RX0 27 RX0 yX0_add wsX0_add) := goodIn_app (goodIn_of _ (by decide +kernel)) ggX0_appendTurned_X0_add
theorem dX0_appendTurned_0 : decode cX0_appendTurned 0 = .ok (.aload_n 1, 1) := by decide +kernel
theorem dX0_appendTurned_1 : decode cX0_appendTurned 1 = .ok (.getfield 15, 3) := by decide +kernel
theorem dX0_appendTurned_4 : decode cX0_appendTurned 4 = .ok (.iconst 1, 1) := by decide +kernel
theorem dX0_appendTurned_5 : decode cX0_appendTurned 5 = .ok (.isub, 1) := by decide +kernel
theorem dX0_appendTurned_6 : decode cX0_appendTurned 6 = .ok (.istore_n 2, 1) := by decide +kernel
theorem dX0_appendTurned_7 : decode cX0_appendTurned 7 = .ok (.iload_n 2, 1) := by decide +kernel
theorem dX0_appendTurned_8 : decode cX0_appendTurned 8 = .ok (.ifCond .lt 24, 3) := by decide +kernel
theorem dX0_appendTurned_11 : decode cX0_appendTurned 11 = .ok (.aload_n 0, 1) := by decide +kernel
theorem dX0_appendTurned_12 : decode cX0_appendTurned 12 = .ok (.aload_n 1, 1) := by decide +kernel
theorem dX0_appendTurned_13 : decode cX0_appendTurned 13 = .ok (.iload_n 2, 1) := by decide +kernel
theorem dX0_appendTurned_14 : decode cX0_appendTurned 14 = .ok (.invokevirtual 23, 3) := by decide +kernel
theorem dX0_appendTurned_17 : decode cX0_appendTurned 17 = .ok (.bipush 6, 2) := by decide +kernel
theorem dX0_appendTurned_19 : decode cX0_appendTurned 19 = .ok (.iadd, 1) := by decide +kernel
theorem dX0_appendTurned_20 : decode cX0_appendTurned 20 = .ok (.bipush 12, 2) := by decide +kernel
theorem dX0_appendTurned_22 : decode cX0_appendTurned 22 = .ok (.irem, 1) := by decide +kernel
theorem dX0_appendTurned_23 : decode cX0_appendTurned 23 = .ok (.invokevirtual 27, 3) := by decide +kernel
theorem dX0_appendTurned_26 : decode cX0_appendTurned 26 = .ok (.iinc 2 (-1), 3) := by decide +kernel
theorem dX0_appendTurned_29 : decode cX0_appendTurned 29 = .ok (.goto (-22), 3) := by decide +kernel
theorem dX0_appendTurned_32 : decode cX0_appendTurned 32 = .ok (.return_, 1) := by decide +kernel
theorem dX0_copyFrom_0 : decode cX0_copyFrom 0 = .ok (.aload_n 1, 1) := by decide +kernel
theorem dX0_copyFrom_1 : decode cX0_copyFrom 1 = .ok (.getfield 9, 3) := by decide +kernel
theorem dX0_copyFrom_4 : decode cX0_copyFrom 4 = .ok (.iconst 0, 1) := by decide +kernel
theorem dX0_copyFrom_5 : decode cX0_copyFrom 5 = .ok (.aload_n 0, 1) := by decide +kernel
theorem dX0_copyFrom_6 : decode cX0_copyFrom 6 = .ok (.getfield 9, 3) := by decide +kernel
theorem dX0_copyFrom_9 : decode cX0_copyFrom 9 = .ok (.iconst 0, 1) := by decide +kernel
theorem dX0_copyFrom_10 : decode cX0_copyFrom 10 = .ok (.bipush 24, 2) := by decide +kernel
theorem dX0_copyFrom_12 : decode cX0_copyFrom 12 = .ok (.invokestatic 31, 3) := by decide +kernel
theorem dX0_copyFrom_15 : decode cX0_copyFrom 15 = .ok (.aload_n 0, 1) := by decide +kernel
theorem dX0_copyFrom_16 : decode cX0_copyFrom 16 = .ok (.aload_n 1, 1) := by decide +kernel
theorem dX0_copyFrom_17 : decode cX0_copyFrom 17 = .ok (.getfield 15, 3) := by decide +kernel
theorem dX0_copyFrom_20 : decode cX0_copyFrom 20 = .ok (.putfield 15, 3) := by decide +kernel
theorem dX0_copyFrom_23 : decode cX0_copyFrom 23 = .ok (.return_, 1) := by decide +kernel
set_option maxRecDepth 20000 in
theorem ggX1_init_X0_init : GoodIn wsX1_init wsX0_init := goodIn_r _ [18, 19, 2, 3, 9, 20, 21, 29, 30] (by decide +kernel) (by decide +kernel)
set_option maxRecDepth 20000 in
theorem gX1_init_X0_init_n44 : GoodIn wsX1_init (wsX0_init) := ggX1_init_X0_init
theorem dX1_init_0 : decode cX1_init 0 = .ok (.aload_n 0, 1) := by decide +kernel
theorem dX1_init_1 : decode cX1_init 1 = .ok (.invokespecial 3, 3) := by decide +kernel
theorem dX1_init_4 : decode cX1_init 4 = .ok (.aload_n 0, 1) := by decide +kernel
theorem dX1_init_5 : decode cX1_init 5 = .ok (.ldc2_w 11, 3) := by decide +kernel
theorem dX1_init_8 : decode cX1_init 8 = .ok (.putfield 13, 3) := by decide +kernel
theorem dX1_init_11 : decode cX1_init 11 = .ok (.aload_n 0, 1) := by decide +kernel
theorem dX1_init_12 : decode cX1_init 12 = .ok (.ldc2_w 19, 3) := by decide +kernel
theorem dX1_init_15 : decode cX1_init 15 = .ok (.putfield 21, 3) := by decide +kernel
theorem dX1_init_18 : decode cX1_init 18 = .ok (.aload_n 0, 1) := by decide +kernel
theorem dX1_init_19 : decode cX1_init 19 = .ok (.lconst 0, 1) := by decide +kernel
theorem dX1_init_20 : decode cX1_init 20 = .ok (.putfield 24, 3) := by decide +kernel
theorem dX1_init_23 : decode cX1_init 23 = .ok (.aload_n 0, 1) := by decide +kernel
theorem dX1_init_24 : decode cX1_init 24 = .ok (.bipush 6, 2) := by decide +kernel
theorem dX1_init_26 : decode cX1_init 26 = .ok (.newarray .int, 2) := by decide +kernel
theorem dX1_init_28 : decode cX1_init 28 = .ok (.putfield 27, 3) := by decide +kernel
theorem dX1_init_31 : decode cX1_init 31 = .ok (.aload_n 0, 1) := by decide +kernel
theorem dX1_init_32 : decode cX1_init 32 = .ok (.bipush 6, 2) := by decide +kernel
theorem dX1_init_34 : decode cX1_init 34 = .ok (.anewarray 31, 3) := by decide +kernel
theorem dX1_init_37 : decode cX1_init 37 = .ok (.putfield 33, 3) := by decide +kernel
theorem dX1_init_40 : decode cX1_init 40 = .ok (.aload_n 0, 1) := by decide +kernel
theorem dX1_init_41 : decode cX1_init 41 = .ok (.iconst 0, 1) := by decide +kernel
theorem dX1_init_42 : decode cX1_init 42 = .ok (.putfield 37, 3) := by decide +kernel
theorem dX1_init_45 : decode cX1_init 45 = .ok (.aload_n 0, 1) := by decide +kernel
theorem dX1_init_46 : decode cX1_init 46 = .ok (.iconst 0, 1) := by decide +kernel
theorem dX1_init_47 : decode cX1_init 47 = .ok (.putfield 41, 3) := by decide +kernel
theorem dX1_init_50 : decode cX1_init 50 = .ok (.iconst 0, 1) := by decide +kernel
theorem dX1_init_51 : decode cX1_init 51 = .ok (.istore_n 1, 1) := by decide +kernel
theorem dX1_init_52 : decode cX1_init 52 = .ok (.iload_n 1, 1) := by decide +kernel
theorem dX1_init_53 : decode cX1_init 53 = .ok (.bipush 6, 2) := by decide +kernel
theorem dX1_init_55 : decode cX1_init 55 = .ok (.if_icmp .ge 18, 3) := by decide +kernel
theorem dX1_init_58 : decode cX1_init 58 = .ok (.aload_n 0, 1) := by decide +kernel
theorem dX1_init_59 : decode cX1_init 59 = .ok (.getfield 27, 3) := by decide +kernel
theorem dX1_init_62 : decode cX1_init 62 = .ok (.iload_n 1, 1) := by decide +kernel
theorem dX1_init_63 : decode cX1_init 63 = .ok (.iconst 1, 1) := by decide +kernel
theorem dX1_init_64 : decode cX1_init 64 = .ok (.iload_n 1, 1) := by decide +kernel
theorem dX1_init_65 : decode cX1_init 65 = .ok (.ishl, 1) := by decide +kernel
theorem dX1_init_66 : decode cX1_init 66 = .ok (.iastore, 1) := by decide +kernel
theorem dX1_init_67 : decode cX1_init 67 = .ok (.iinc 1 1, 3) := by decide +kernel
theorem dX1_init_70 : decode cX1_init 70 = .ok (.goto (-18), 3) := by decide +kernel
theorem dX1_init_73 : decode cX1_init 73 = .ok (.iconst 0, 1) := by decide +kernel
theorem dX1_init_74 : decode cX1_init 74 = .ok (.istore_n 1, 1) := by decide +kernel
theorem dX1_init_75 : decode cX1_init 75 = .ok (.iload_n 1, 1) := by decide +kernel
theorem dX1_init_76 : decode cX1_init 76 = .ok (.bipush 6, 2) := by decide +kernel
theorem dX1_init_78 : decode cX1_init 78 = .ok (.if_icmp .ge 22, 3) := by decide +kernel
theorem dX1_init_81 : decode cX1_init 81 = .ok (.aload_n 0, 1) := by decide +kernel
theorem dX1_init_82 : decode cX1_init 82 = .ok (.getfield 33, 3) := by decide +kernel
theorem dX1_init_85 : decode cX1_init 85 = .ok (.iload_n 1, 1) := by decide +kernel
theorem dX1_init_86 : decode cX1_init 86 = .ok (.new 31, 3) := by decide +kernel
theorem dX1_init_89 : decode cX1_init 89 = .ok (.dup, 1) := by decide +kernel
theorem dX1_init_90 : decode cX1_init 90 = .ok (.invokespecial 44, 3) := by decide +kernel
theorem dX1_init_93 : decode cX1_init 93 = .ok (.aastore, 1) := by decide +kernel
theorem dX1_init_94 : decode cX1_init 94 = .ok (.iinc 1 1, 3) := by decide +kernel
theorem dX1_init_97 : decode cX1_init 97 = .ok (.goto (-22), 3) := by decide +kernel
theorem dX1_init_100 : decode cX1_init 100 = .ok (.return_, 1) := by decide +kernel
set_option maxRecDepth 20000 in
theorem ggX1_copyFrom_X0_copyFrom : GoodIn wsX1_copyFrom wsX0_copyFrom := goodIn_r _ [16, 17, 18, 6, 7, 8, 19, 27, 28] (by decide +kernel) (by decide +kernel)
set_option maxRecDepth 20000 in
theorem gX1_copyFrom_X0_copyFrom : GoodIn wsX1_copyFrom (wsV RX1 51 RX0 yX0_copyFrom wsX0_copyFrom) := goodIn_app (goodIn_of _ (by decide +kernel)) ggX1_copyFrom_X0_copyFrom
theorem dX1_copyFrom_0 : decode cX1_copyFrom 0 = .ok (.aload_n 0, 1) := by decide +kernel
theorem dX1_copyFrom_1 : decode cX1_copyFrom 1 = .ok (.aload_n 1, 1) := by decide +kernel
theorem dX1_copyFrom_2 : decode cX1_copyFrom 2 = .ok (.getfield 13, 3) := by decide +kernel
theorem dX1_copyFrom_5 : decode cX1_copyFrom 5 = .ok (.putfield 13, 3) := by decide +kernel
theorem dX1_copyFrom_8 : decode cX1_copyFrom 8 = .ok (.aload_n 0, 1) := by decide +kernel
theorem dX1_copyFrom_9 : decode cX1_copyFrom 9 = .ok (.aload_n 1, 1) := by decide +kernel
theorem dX1_copyFrom_10 : decode cX1_copyFrom 10 = .ok (.getfield 21, 3) := by decide +kernel
theorem dX1_copyFrom_13 : decode cX1_copyFrom 13 = .ok (.putfield 21, 3) := by decide +kernel
theorem dX1_copyFrom_16 : decode cX1_copyFrom 16 = .ok (.aload_n 0, 1) := by decide +kernel
theorem dX1_copyFrom_17 : decode cX1_copyFrom 17 = .ok (.aload_n 1, 1) := by decide +kernel
theorem dX1_copyFrom_18 : decode cX1_copyFrom 18 = .ok (.getfield 24, 3) := by decide +kernel
theorem dX1_copyFrom_21 : decode cX1_copyFrom 21 = .ok (.putfield 24, 3) := by decide +kernel
theorem dX1_copyFrom_24 : decode cX1_copyFrom 24 = .ok (.aload_n 1, 1) := by decide +kernel
theorem dX1_copyFrom_25 : decode cX1_copyFrom 25 = .ok (.getfield 27, 3) := by decide +kernel
theorem dX1_copyFrom_28 : decode cX1_copyFrom 28 = .ok (.iconst 0, 1) := by decide +kernel
theorem dX1_copyFrom_29 : decode cX1_copyFrom 29 = .ok (.aload_n 0, 1) := by decide +kernel
theorem dX1_copyFrom_30 : decode cX1_copyFrom 30 = .ok (.getfield 27, 3) := by decide +kernel
theorem dX1_copyFrom_33 : decode cX1_copyFrom 33 = .ok (.iconst 0, 1) := by decide +kernel
theorem dX1_copyFrom_34 : decode cX1_copyFrom 34 = .ok (.bipush 6, 2) := by decide +kernel
theorem dX1_copyFrom_36 : decode cX1_copyFrom 36 = .ok (.invokestatic 45, 3) := by decide +kernel
theorem dX1_copyFrom_39 : decode cX1_copyFrom 39 = .ok (.iconst 0, 1) := by decide +kernel
theorem dX1_copyFrom_40 : decode cX1_copyFrom 40 = .ok (.istore_n 2, 1) := by decide +kernel
theorem dX1_copyFrom_41 : decode cX1_copyFrom 41 = .ok (.iload_n 2, 1) := by decide +kernel
theorem dX1_copyFrom_42 : decode cX1_copyFrom 42 = .ok (.bipush 6, 2) := by decide +kernel
theorem dX1_copyFrom_44 : decode cX1_copyFrom 44 = .ok (.if_icmp .ge 39, 3) := by decide +kernel
theorem dX1_copyFrom_47 : decode cX1_copyFrom 47 = .ok (.aload_n 0, 1) := by decide +kernel
theorem dX1_copyFrom_48 : decode cX1_copyFrom 48 = .ok (.getfield 33, 3) := by decide +kernel
theorem dX1_copyFrom_51 : decode cX1_copyFrom 51 = .ok (.iload_n 2, 1) := by decide +kernel
theorem dX1_copyFrom_52 : decode cX1_copyFrom 52 = .ok (.aaload, 1) := by decide +kernel
theorem dX1_copyFrom_53 : decode cX1_copyFrom 53 = .ok (.astore_n 3, 1) := by decide +kernel
theorem dX1_copyFrom_54 : decode cX1_copyFrom 54 = .ok (.aload_n 1, 1) := by decide +kernel
theorem dX1_copyFrom_55 : decode cX1_copyFrom 55 = .ok (.getfield 33, 3) := by decide +kernel
theorem dX1_copyFrom_58 : decode cX1_copyFrom 58 = .ok (.iload_n 2, 1) := by decide +kernel
theorem dX1_copyFrom_59 : decode cX1_copyFrom 59 = .ok (.aaload, 1) := by decide +kernel
theorem dX1_copyFrom_60 : decode cX1_copyFrom 60 = .ok (.astore 4, 2) := by decide +kernel
theorem dX1_copyFrom_62 : decode cX1_copyFrom 62 = .ok (.aload_n 3, 1) := by decide +kernel
theorem dX1_copyFrom_63 : decode cX1_copyFrom 63 = .ok (.ifnull 14, 3) := by decide +kernel
theorem dX1_copyFrom_66 : decode cX1_copyFrom 66 = .ok (.aload 4, 2) := by decide +kernel
theorem dX1_copyFrom_68 : decode cX1_copyFrom 68 = .ok (.ifnull 9, 3) := by decide +kernel
theorem dX1_copyFrom_71 : decode cX1_copyFrom 71 = .ok (.aload_n 3, 1) := by decide +kernel
theorem dX1_copyFrom_72 : decode cX1_copyFrom 72 = .ok (.aload 4, 2) := by decide +kernel
theorem dX1_copyFrom_74 : decode cX1_copyFrom 74 = .ok (.invokevirtual 51, 3) := by decide +kernel
theorem dX1_copyFrom_77 : decode cX1_copyFrom 77 = .ok (.iinc 2 1, 3) := by decide +kernel
theorem dX1_copyFrom_80 : decode cX1_copyFrom 80 = .ok (.goto (-39), 3) := by decide +kernel
theorem dX1_copyFrom_83 : decode cX1_copyFrom 83 = .ok (.aload_n 0, 1) := by decide +kernel
theorem dX1_copyFrom_84 : decode cX1_copyFrom 84 = .ok (.aload_n 1, 1) := by decide +kernel
theorem dX1_copyFrom_85 : decode cX1_copyFrom 85 = .ok (.getfield 37, 3) := by decide +kernel
theorem dX1_copyFrom_88 : decode cX1_copyFrom 88 = .ok (.putfield 37, 3) := by decide +kernel
theorem dX1_copyFrom_91 : decode cX1_copyFrom 91 = .ok (.aload_n 0, 1) := by decide +kernel
theorem dX1_copyFrom_92 : decode cX1_copyFrom 92 = .ok (.aload_n 1, 1) := by decide +kernel
theorem dX1_copyFrom_93 : decode cX1_copyFrom 93 = .ok (.getfield 41, 3) := by decide +kernel
theorem dX1_copyFrom_96 : decode cX1_copyFrom 96 = .ok (.putfield 41, 3) := by decide +kernel
theorem dX1_copyFrom_99 : decode cX1_copyFrom 99 = .ok (.return_, 1) := by decide +kernel
set_option maxRecDepth 20000 in
theorem ggX1_draftAt_X7_isBelow : GoodIn wsX1_draftAt wsX7_isBelow := goodIn_r _ [4] (by decide +kernel) (by decide +kernel)
set_option maxRecDepth 20000 in
theorem gX1_draftAt_X7_isBelow_n55 : GoodIn wsX1_draftAt (wsX7_isBelow) := ggX1_draftAt_X7_isBelow
theorem dX1_draftAt_0 : decode cX1_draftAt 0 = .ok (.iload_n 1, 1) := by decide +kernel
theorem dX1_draftAt_1 : decode cX1_draftAt 1 = .ok (.bipush 6, 2) := by decide +kernel
theorem dX1_draftAt_3 : decode cX1_draftAt 3 = .ok (.invokestatic 55, 3) := by decide +kernel
theorem dX1_draftAt_6 : decode cX1_draftAt 6 = .ok (.ifCond .eq 12, 3) := by decide +kernel
theorem dX1_draftAt_9 : decode cX1_draftAt 9 = .ok (.aload_n 0, 1) := by decide +kernel
theorem dX1_draftAt_10 : decode cX1_draftAt 10 = .ok (.getfield 33, 3) := by decide +kernel
theorem dX1_draftAt_13 : decode cX1_draftAt 13 = .ok (.iload_n 1, 1) := by decide +kernel
theorem dX1_draftAt_14 : decode cX1_draftAt 14 = .ok (.aaload, 1) := by decide +kernel
theorem dX1_draftAt_15 : decode cX1_draftAt 15 = .ok (.goto 4, 3) := by decide +kernel
theorem dX1_draftAt_18 : decode cX1_draftAt 18 = .ok (.aconst_null, 1) := by decide +kernel
theorem dX1_draftAt_19 : decode cX1_draftAt 19 = .ok (.areturn, 1) := by decide +kernel
set_option maxRecDepth 20000 in
theorem ggX1_raisedBy_X7_isBelow : GoodIn wsX1_raisedBy wsX7_isBelow := goodIn_r _ [5] (by decide +kernel) (by decide +kernel)
set_option maxRecDepth 20000 in
theorem gX1_raisedBy_X7_isBelow_n55 : GoodIn wsX1_raisedBy (wsX7_isBelow) := ggX1_raisedBy_X7_isBelow
set_option maxRecDepth 20000 in
theorem ggX1_raisedBy_X4_at : GoodIn wsX1_raisedBy wsX4_at := goodIn_r _ [9] (by decide +kernel) (by decide +kernel)
set_option maxRecDepth 20000 in
theorem gX1_raisedBy_X4_at : GoodIn wsX1_raisedBy (va_wsS RX1 59 yX4_at wsX4_at) := goodIn_app (goodIn_of _ (by decide +kernel)) ggX1_raisedBy_X4_at
set_option maxRecDepth 20000 in
theorem ggX1_raisedBy_X7_hasBit : GoodIn wsX1_raisedBy wsX7_hasBit := goodIn_r _ [11] (by decide +kernel) (by decide +kernel)
set_option maxRecDepth 20000 in
theorem gX1_raisedBy_X7_hasBit_n63 : GoodIn wsX1_raisedBy (wsX7_hasBit) := ggX1_raisedBy_X7_hasBit
theorem dX1_raisedBy_0 : decode cX1_raisedBy 0 = .ok (.iload_n 1, 1) := by decide +kernel
theorem dX1_raisedBy_1 : decode cX1_raisedBy 1 = .ok (.bipush 6, 2) := by decide +kernel
theorem dX1_raisedBy_3 : decode cX1_raisedBy 3 = .ok (.invokestatic 55, 3) := by decide +kernel
theorem dX1_raisedBy_6 : decode cX1_raisedBy 6 = .ok (.ifCond .ne 5, 3) := by decide +kernel
theorem dX1_raisedBy_9 : decode cX1_raisedBy 9 = .ok (.iconst 0, 1) := by decide +kernel
theorem dX1_raisedBy_10 : decode cX1_raisedBy 10 = .ok (.ireturn, 1) := by decide +kernel
theorem dX1_raisedBy_11 : decode cX1_raisedBy 11 = .ok (.iconst 0, 1) := by decide +kernel
theorem dX1_raisedBy_12 : decode cX1_raisedBy 12 = .ok (.istore_n 2, 1) := by decide +kernel
theorem dX1_raisedBy_13 : decode cX1_raisedBy 13 = .ok (.iconst 0, 1) := by decide +kernel
theorem dX1_raisedBy_14 : decode cX1_raisedBy 14 = .ok (.istore_n 3, 1) := by decide +kernel
theorem dX1_raisedBy_15 : decode cX1_raisedBy 15 = .ok (.iload_n 3, 1) := by decide +kernel
theorem dX1_raisedBy_16 : decode cX1_raisedBy 16 = .ok (.bipush 12, 2) := by decide +kernel
theorem dX1_raisedBy_18 : decode cX1_raisedBy 18 = .ok (.if_icmp .ge 35, 3) := by decide +kernel
theorem dX1_raisedBy_21 : decode cX1_raisedBy 21 = .ok (.aload_n 0, 1) := by decide +kernel
theorem dX1_raisedBy_22 : decode cX1_raisedBy 22 = .ok (.getfield 27, 3) := by decide +kernel
theorem dX1_raisedBy_25 : decode cX1_raisedBy 25 = .ok (.iload_n 1, 1) := by decide +kernel
theorem dX1_raisedBy_26 : decode cX1_raisedBy 26 = .ok (.iaload, 1) := by decide +kernel
theorem dX1_raisedBy_27 : decode cX1_raisedBy 27 = .ok (.aload_n 0, 1) := by decide +kernel
theorem dX1_raisedBy_28 : decode cX1_raisedBy 28 = .ok (.getfield 13, 3) := by decide +kernel
theorem dX1_raisedBy_31 : decode cX1_raisedBy 31 = .ok (.iload_n 3, 1) := by decide +kernel
theorem dX1_raisedBy_32 : decode cX1_raisedBy 32 = .ok (.invokestatic 59, 3) := by decide +kernel
theorem dX1_raisedBy_35 : decode cX1_raisedBy 35 = .ok (.invokestatic 63, 3) := by decide +kernel
theorem dX1_raisedBy_38 : decode cX1_raisedBy 38 = .ok (.ifCond .eq 9, 3) := by decide +kernel
theorem dX1_raisedBy_41 : decode cX1_raisedBy 41 = .ok (.iload_n 2, 1) := by decide +kernel
theorem dX1_raisedBy_42 : decode cX1_raisedBy 42 = .ok (.iconst 1, 1) := by decide +kernel
theorem dX1_raisedBy_43 : decode cX1_raisedBy 43 = .ok (.iload_n 3, 1) := by decide +kernel
theorem dX1_raisedBy_44 : decode cX1_raisedBy 44 = .ok (.ishl, 1) := by decide +kernel
theorem dX1_raisedBy_45 : decode cX1_raisedBy 45 = .ok (.ior, 1) := by decide +kernel
theorem dX1_raisedBy_46 : decode cX1_raisedBy 46 = .ok (.istore_n 2, 1) := by decide +kernel
theorem dX1_raisedBy_47 : decode cX1_raisedBy 47 = .ok (.iinc 3 1, 3) := by decide +kernel
theorem dX1_raisedBy_50 : decode cX1_raisedBy 50 = .ok (.goto (-35), 3) := by decide +kernel
theorem dX1_raisedBy_53 : decode cX1_raisedBy 53 = .ok (.iload_n 2, 1) := by decide +kernel
theorem dX1_raisedBy_54 : decode cX1_raisedBy 54 = .ok (.ireturn, 1) := by decide +kernel
set_option maxRecDepth 20000 in
theorem ggX1_treadlesRaising_X4_at : GoodIn wsX1_treadlesRaising wsX4_at := goodIn_r _ [6] (by decide +kernel) (by decide +kernel)
set_option maxRecDepth 20000 in
theorem gX1_treadlesRaising_X4_at : GoodIn wsX1_treadlesRaising (va_wsS RX1 59 yX4_at wsX4_at) := goodIn_app (goodIn_of _ (by decide +kernel)) ggX1_treadlesRaising_X4_at
set_option maxRecDepth 20000 in
theorem ggX1_treadlesRaising_X7_hasBit : GoodIn wsX1_treadlesRaising wsX7_hasBit := goodIn_r _ [9] (by decide +kernel) (by decide +kernel)
set_option maxRecDepth 20000 in
theorem gX1_treadlesRaising_X7_hasBit_n63 : GoodIn wsX1_treadlesRaising (wsX7_hasBit) := ggX1_treadlesRaising_X7_hasBit
theorem dX1_treadlesRaising_0 : decode cX1_treadlesRaising 0 = .ok (.iconst 0, 1) := by decide +kernel
theorem dX1_treadlesRaising_1 : decode cX1_treadlesRaising 1 = .ok (.istore_n 2, 1) := by decide +kernel
theorem dX1_treadlesRaising_2 : decode cX1_treadlesRaising 2 = .ok (.iconst 0, 1) := by decide +kernel
theorem dX1_treadlesRaising_3 : decode cX1_treadlesRaising 3 = .ok (.istore_n 3, 1) := by decide +kernel
theorem dX1_treadlesRaising_4 : decode cX1_treadlesRaising 4 = .ok (.iload_n 3, 1) := by decide +kernel
theorem dX1_treadlesRaising_5 : decode cX1_treadlesRaising 5 = .ok (.bipush 6, 2) := by decide +kernel
theorem dX1_treadlesRaising_7 : decode cX1_treadlesRaising 7 = .ok (.if_icmp .ge 35, 3) := by decide +kernel
theorem dX1_treadlesRaising_10 : decode cX1_treadlesRaising 10 = .ok (.aload_n 0, 1) := by decide +kernel
theorem dX1_treadlesRaising_11 : decode cX1_treadlesRaising 11 = .ok (.getfield 27, 3) := by decide +kernel
theorem dX1_treadlesRaising_14 : decode cX1_treadlesRaising 14 = .ok (.iload_n 3, 1) := by decide +kernel
theorem dX1_treadlesRaising_15 : decode cX1_treadlesRaising 15 = .ok (.iaload, 1) := by decide +kernel
theorem dX1_treadlesRaising_16 : decode cX1_treadlesRaising 16 = .ok (.aload_n 0, 1) := by decide +kernel
theorem dX1_treadlesRaising_17 : decode cX1_treadlesRaising 17 = .ok (.getfield 13, 3) := by decide +kernel
theorem dX1_treadlesRaising_20 : decode cX1_treadlesRaising 20 = .ok (.iload_n 1, 1) := by decide +kernel
theorem dX1_treadlesRaising_21 : decode cX1_treadlesRaising 21 = .ok (.invokestatic 59, 3) := by decide +kernel
theorem dX1_treadlesRaising_24 : decode cX1_treadlesRaising 24 = .ok (.invokestatic 63, 3) := by decide +kernel
theorem dX1_treadlesRaising_27 : decode cX1_treadlesRaising 27 = .ok (.ifCond .eq 9, 3) := by decide +kernel
theorem dX1_treadlesRaising_30 : decode cX1_treadlesRaising 30 = .ok (.iload_n 2, 1) := by decide +kernel
theorem dX1_treadlesRaising_31 : decode cX1_treadlesRaising 31 = .ok (.iconst 1, 1) := by decide +kernel
theorem dX1_treadlesRaising_32 : decode cX1_treadlesRaising 32 = .ok (.iload_n 3, 1) := by decide +kernel
theorem dX1_treadlesRaising_33 : decode cX1_treadlesRaising 33 = .ok (.ishl, 1) := by decide +kernel
theorem dX1_treadlesRaising_34 : decode cX1_treadlesRaising 34 = .ok (.ior, 1) := by decide +kernel
theorem dX1_treadlesRaising_35 : decode cX1_treadlesRaising 35 = .ok (.istore_n 2, 1) := by decide +kernel
theorem dX1_treadlesRaising_36 : decode cX1_treadlesRaising 36 = .ok (.iinc 3 1, 3) := by decide +kernel
theorem dX1_treadlesRaising_39 : decode cX1_treadlesRaising 39 = .ok (.goto (-35), 3) := by decide +kernel
theorem dX1_treadlesRaising_42 : decode cX1_treadlesRaising 42 = .ok (.iload_n 2, 1) := by decide +kernel
theorem dX1_treadlesRaising_43 : decode cX1_treadlesRaising 43 = .ok (.ireturn, 1) := by decide +kernel
set_option maxRecDepth 20000 in
theorem ggX1_neverRaised_X1_raisedBy : GoodIn wsX1_neverRaised wsX1_raisedBy := goodIn_r _ [5, 6, 7, 8, 9, 10, 11, 12, 13, 14, 15, 16, 17, 18, 19, 20, 21, 22, 23] (by decide +kernel) (by decide +kernel)
set_option maxRecDepth 20000 in
theorem gX1_neverRaised_X1_raisedBy : GoodIn wsX1_neverRaised (wsV RX1 66 RX1 yX1_raisedBy wsX1_raisedBy) := goodIn_app (goodIn_of _ (by decide +kernel)) ggX1_neverRaised_X1_raisedBy
theorem dX1_neverRaised_0 : decode cX1_neverRaised 0 = .ok (.sipush 4095, 3) := by decide +kernel
theorem dX1_neverRaised_3 : decode cX1_neverRaised 3 = .ok (.istore_n 1, 1) := by decide +kernel
theorem dX1_neverRaised_4 : decode cX1_neverRaised 4 = .ok (.iconst 0, 1) := by decide +kernel
theorem dX1_neverRaised_5 : decode cX1_neverRaised 5 = .ok (.istore_n 2, 1) := by decide +kernel
theorem dX1_neverRaised_6 : decode cX1_neverRaised 6 = .ok (.iload_n 2, 1) := by decide +kernel
theorem dX1_neverRaised_7 : decode cX1_neverRaised 7 = .ok (.bipush 6, 2) := by decide +kernel
theorem dX1_neverRaised_9 : decode cX1_neverRaised 9 = .ok (.if_icmp .ge 19, 3) := by decide +kernel
theorem dX1_neverRaised_12 : decode cX1_neverRaised 12 = .ok (.iload_n 1, 1) := by decide +kernel
theorem dX1_neverRaised_13 : decode cX1_neverRaised 13 = .ok (.aload_n 0, 1) := by decide +kernel
theorem dX1_neverRaised_14 : decode cX1_neverRaised 14 = .ok (.iload_n 2, 1) := by decide +kernel
theorem dX1_neverRaised_15 : decode cX1_neverRaised 15 = .ok (.invokevirtual 66, 3) := by decide +kernel
theorem dX1_neverRaised_18 : decode cX1_neverRaised 18 = .ok (.iconst (-1), 1) := by decide +kernel
theorem dX1_neverRaised_19 : decode cX1_neverRaised 19 = .ok (.ixor, 1) := by decide +kernel
theorem dX1_neverRaised_20 : decode cX1_neverRaised 20 = .ok (.iand, 1) := by decide +kernel
theorem dX1_neverRaised_21 : decode cX1_neverRaised 21 = .ok (.istore_n 1, 1) := by decide +kernel
theorem dX1_neverRaised_22 : decode cX1_neverRaised 22 = .ok (.iinc 2 1, 3) := by decide +kernel
theorem dX1_neverRaised_25 : decode cX1_neverRaised 25 = .ok (.goto (-19), 3) := by decide +kernel
theorem dX1_neverRaised_28 : decode cX1_neverRaised 28 = .ok (.iload_n 1, 1) := by decide +kernel
theorem dX1_neverRaised_29 : decode cX1_neverRaised 29 = .ok (.ireturn, 1) := by decide +kernel
theorem dX1_draftsWithPresses_0 : decode cX1_draftsWithPresses 0 = .ok (.iconst 0, 1) := by decide +kernel
theorem dX1_draftsWithPresses_1 : decode cX1_draftsWithPresses 1 = .ok (.istore_n 1, 1) := by decide +kernel
theorem dX1_draftsWithPresses_2 : decode cX1_draftsWithPresses 2 = .ok (.iconst 0, 1) := by decide +kernel
theorem dX1_draftsWithPresses_3 : decode cX1_draftsWithPresses 3 = .ok (.istore_n 2, 1) := by decide +kernel
theorem dX1_draftsWithPresses_4 : decode cX1_draftsWithPresses 4 = .ok (.iload_n 2, 1) := by decide +kernel
theorem dX1_draftsWithPresses_5 : decode cX1_draftsWithPresses 5 = .ok (.bipush 6, 2) := by decide +kernel
theorem dX1_draftsWithPresses_7 : decode cX1_draftsWithPresses 7 = .ok (.if_icmp .ge 33, 3) := by decide +kernel
theorem dX1_draftsWithPresses_10 : decode cX1_draftsWithPresses 10 = .ok (.aload_n 0, 1) := by decide +kernel
theorem dX1_draftsWithPresses_11 : decode cX1_draftsWithPresses 11 = .ok (.getfield 33, 3) := by decide +kernel
theorem dX1_draftsWithPresses_14 : decode cX1_draftsWithPresses 14 = .ok (.iload_n 2, 1) := by decide +kernel
theorem dX1_draftsWithPresses_15 : decode cX1_draftsWithPresses 15 = .ok (.aaload, 1) := by decide +kernel
theorem dX1_draftsWithPresses_16 : decode cX1_draftsWithPresses 16 = .ok (.astore_n 3, 1) := by decide +kernel
theorem dX1_draftsWithPresses_17 : decode cX1_draftsWithPresses 17 = .ok (.aload_n 3, 1) := by decide +kernel
theorem dX1_draftsWithPresses_18 : decode cX1_draftsWithPresses 18 = .ok (.ifnull 16, 3) := by decide +kernel
theorem dX1_draftsWithPresses_21 : decode cX1_draftsWithPresses 21 = .ok (.aload_n 3, 1) := by decide +kernel
theorem dX1_draftsWithPresses_22 : decode cX1_draftsWithPresses 22 = .ok (.getfield 70, 3) := by decide +kernel
theorem dX1_draftsWithPresses_25 : decode cX1_draftsWithPresses 25 = .ok (.ifCond .le 9, 3) := by decide +kernel
theorem dX1_draftsWithPresses_28 : decode cX1_draftsWithPresses 28 = .ok (.iload_n 1, 1) := by decide +kernel
theorem dX1_draftsWithPresses_29 : decode cX1_draftsWithPresses 29 = .ok (.iconst 1, 1) := by decide +kernel
theorem dX1_draftsWithPresses_30 : decode cX1_draftsWithPresses 30 = .ok (.iload_n 2, 1) := by decide +kernel
theorem dX1_draftsWithPresses_31 : decode cX1_draftsWithPresses 31 = .ok (.ishl, 1) := by decide +kernel
theorem dX1_draftsWithPresses_32 : decode cX1_draftsWithPresses 32 = .ok (.ior, 1) := by decide +kernel
theorem dX1_draftsWithPresses_33 : decode cX1_draftsWithPresses 33 = .ok (.istore_n 1, 1) := by decide +kernel
theorem dX1_draftsWithPresses_34 : decode cX1_draftsWithPresses 34 = .ok (.iinc 2 1, 3) := by decide +kernel
theorem dX1_draftsWithPresses_37 : decode cX1_draftsWithPresses 37 = .ok (.goto (-33), 3) := by decide +kernel
theorem dX1_draftsWithPresses_40 : decode cX1_draftsWithPresses 40 = .ok (.iload_n 1, 1) := by decide +kernel
theorem dX1_draftsWithPresses_41 : decode cX1_draftsWithPresses 41 = .ok (.ireturn, 1) := by decide +kernel
set_option maxRecDepth 20000 in
theorem ggX1_coloursByPlace_X6_then : GoodIn wsX1_coloursByPlace wsX6_then := goodIn_r _ [6, 7, 8, 9, 10] (by decide +kernel) (by decide +kernel)
set_option maxRecDepth 20000 in
theorem gX1_coloursByPlace_X6_then : GoodIn wsX1_coloursByPlace (va_wsS RX1 73 yX6_then wsX6_then) := goodIn_app (goodIn_of _ (by decide +kernel)) ggX1_coloursByPlace_X6_then
theorem dX1_coloursByPlace_0 : decode cX1_coloursByPlace 0 = .ok (.aload_n 0, 1) := by decide +kernel
theorem dX1_coloursByPlace_1 : decode cX1_coloursByPlace 1 = .ok (.getfield 21, 3) := by decide +kernel
theorem dX1_coloursByPlace_4 : decode cX1_coloursByPlace 4 = .ok (.aload_n 0, 1) := by decide +kernel
theorem dX1_coloursByPlace_5 : decode cX1_coloursByPlace 5 = .ok (.getfield 24, 3) := by decide +kernel
theorem dX1_coloursByPlace_8 : decode cX1_coloursByPlace 8 = .ok (.invokestatic 73, 3) := by decide +kernel
theorem dX1_coloursByPlace_11 : decode cX1_coloursByPlace 11 = .ok (.lreturn, 1) := by decide +kernel
set_option maxRecDepth 20000 in
theorem ggX1_wayOf_X1_draftAt : GoodIn wsX1_wayOf wsX1_draftAt := goodIn_r _ [7, 8, 9, 10, 11, 57, 58, 59, 60, 61, 62, 63] (by decide +kernel) (by decide +kernel)
set_option maxRecDepth 20000 in
theorem gX1_wayOf_X1_draftAt : GoodIn wsX1_wayOf (wsV RX1 79 RX1 yX1_draftAt wsX1_draftAt) := goodIn_app (goodIn_of _ (by decide +kernel)) ggX1_wayOf_X1_draftAt
set_option maxRecDepth 20000 in
theorem ggX1_wayOf_X0_pressAt : GoodIn wsX1_wayOf wsX0_pressAt := goodIn_r _ [16, 17, 9, 10, 11, 55, 56] (by decide +kernel) (by decide +kernel)
set_option maxRecDepth 20000 in
theorem gX1_wayOf_X0_pressAt : GoodIn wsX1_wayOf (wsV RX1 83 RX0 yX0_pressAt wsX0_pressAt) := goodIn_app (goodIn_of _ (by decide +kernel)) ggX1_wayOf_X0_pressAt
set_option maxRecDepth 20000 in
theorem ggX1_wayOf_X1_wayOfPress : GoodIn wsX1_wayOf wsX1_wayOfPress := goodIn_r _ [21, 22, 23, 24, 6, 25, 26, 27, 9, 10, 11, 28, 29, 30, 31, 32, 33, 34, 35, 36, 37, 38, 39, 40, 41, 42, 43, 44, 45, 46, 47, 48, 49, 50, 57, 58, 59, 60, 61, 62, 63] (by decide +kernel) (by decide +kernel)
set_option maxRecDepth 20000 in
theorem gX1_wayOf_X1_wayOfPress : GoodIn wsX1_wayOf (wsV RX1 86 RX1 yX1_wayOfPress wsX1_wayOfPress) := goodIn_app (goodIn_of _ (by decide +kernel)) ggX1_wayOf_X1_wayOfPress
set_option maxRecDepth 20000 in
theorem ggX1_wayOf_X6_then : GoodIn wsX1_wayOf wsX6_then := goodIn_r _ [53, 54, 29, 30, 31] (by decide +kernel) (by decide +kernel)
set_option maxRecDepth 20000 in
theorem gX1_wayOf_X6_then : GoodIn wsX1_wayOf (va_wsS RX1 73 yX6_then wsX6_then) := goodIn_app (goodIn_of _ (by decide +kernel)) ggX1_wayOf_X6_then
theorem dX1_wayOf_0 : decode cX1_wayOf 0 = .ok (.aload_n 0, 1) := by decide +kernel
theorem dX1_wayOf_1 : decode cX1_wayOf 1 = .ok (.iload_n 1, 1) := by decide +kernel
theorem dX1_wayOf_2 : decode cX1_wayOf 2 = .ok (.invokevirtual 79, 3) := by decide +kernel
theorem dX1_wayOf_5 : decode cX1_wayOf 5 = .ok (.astore_n 2, 1) := by decide +kernel
theorem dX1_wayOf_6 : decode cX1_wayOf 6 = .ok (.aload_n 2, 1) := by decide +kernel
theorem dX1_wayOf_7 : decode cX1_wayOf 7 = .ok (.ifnonnull 7, 3) := by decide +kernel
theorem dX1_wayOf_10 : decode cX1_wayOf 10 = .ok (.ldc2_w 19, 3) := by decide +kernel
theorem dX1_wayOf_13 : decode cX1_wayOf 13 = .ok (.lreturn, 1) := by decide +kernel
theorem dX1_wayOf_14 : decode cX1_wayOf 14 = .ok (.ldc2_w 19, 3) := by decide +kernel
theorem dX1_wayOf_17 : decode cX1_wayOf 17 = .ok (.lstore_n 3, 1) := by decide +kernel
theorem dX1_wayOf_18 : decode cX1_wayOf 18 = .ok (.iconst 0, 1) := by decide +kernel
theorem dX1_wayOf_19 : decode cX1_wayOf 19 = .ok (.istore 5, 2) := by decide +kernel
theorem dX1_wayOf_21 : decode cX1_wayOf 21 = .ok (.iload 5, 2) := by decide +kernel
theorem dX1_wayOf_23 : decode cX1_wayOf 23 = .ok (.aload_n 2, 1) := by decide +kernel
theorem dX1_wayOf_24 : decode cX1_wayOf 24 = .ok (.getfield 70, 3) := by decide +kernel
theorem dX1_wayOf_27 : decode cX1_wayOf 27 = .ok (.if_icmp .ge 31, 3) := by decide +kernel
theorem dX1_wayOf_30 : decode cX1_wayOf 30 = .ok (.iload 5, 2) := by decide +kernel
theorem dX1_wayOf_32 : decode cX1_wayOf 32 = .ok (.bipush 24, 2) := by decide +kernel
theorem dX1_wayOf_34 : decode cX1_wayOf 34 = .ok (.if_icmp .ge 24, 3) := by decide +kernel
theorem dX1_wayOf_37 : decode cX1_wayOf 37 = .ok (.lload_n 3, 1) := by decide +kernel
theorem dX1_wayOf_38 : decode cX1_wayOf 38 = .ok (.aload_n 0, 1) := by decide +kernel
theorem dX1_wayOf_39 : decode cX1_wayOf 39 = .ok (.aload_n 2, 1) := by decide +kernel
theorem dX1_wayOf_40 : decode cX1_wayOf 40 = .ok (.iload 5, 2) := by decide +kernel
theorem dX1_wayOf_42 : decode cX1_wayOf 42 = .ok (.invokevirtual 83, 3) := by decide +kernel
theorem dX1_wayOf_45 : decode cX1_wayOf 45 = .ok (.invokevirtual 86, 3) := by decide +kernel
theorem dX1_wayOf_48 : decode cX1_wayOf 48 = .ok (.invokestatic 73, 3) := by decide +kernel
theorem dX1_wayOf_51 : decode cX1_wayOf 51 = .ok (.lstore_n 3, 1) := by decide +kernel
theorem dX1_wayOf_52 : decode cX1_wayOf 52 = .ok (.iinc 5 1, 3) := by decide +kernel
theorem dX1_wayOf_55 : decode cX1_wayOf 55 = .ok (.goto (-34), 3) := by decide +kernel
theorem dX1_wayOf_58 : decode cX1_wayOf 58 = .ok (.lload_n 3, 1) := by decide +kernel
theorem dX1_wayOf_59 : decode cX1_wayOf 59 = .ok (.lreturn, 1) := by decide +kernel
set_option maxRecDepth 20000 in
theorem ggX1_wayOfPress_X1_raisedBy : GoodIn wsX1_wayOfPress wsX1_raisedBy := goodIn_r _ [5, 6, 7, 8, 9, 10, 11, 12, 13, 14, 15, 16, 34, 35, 36, 37, 38, 39, 40] (by decide +kernel) (by decide +kernel)
set_option maxRecDepth 20000 in
theorem gX1_wayOfPress_X1_raisedBy : GoodIn wsX1_wayOfPress (wsV RX1 66 RX1 yX1_raisedBy wsX1_raisedBy) := goodIn_app (goodIn_of _ (by decide +kernel)) ggX1_wayOfPress_X1_raisedBy
set_option maxRecDepth 20000 in
theorem ggX1_wayOfPress_X6_round : GoodIn wsX1_wayOfPress wsX6_round := goodIn_r _ [20, 21, 15, 9, 16, 22, 23, 13, 24, 25, 26] (by decide +kernel) (by decide +kernel)
set_option maxRecDepth 20000 in
theorem gX1_wayOfPress_X6_round : GoodIn wsX1_wayOfPress (va_wsS RX1 90 yX6_round wsX6_round) := goodIn_app (goodIn_of _ (by decide +kernel)) ggX1_wayOfPress_X6_round
set_option maxRecDepth 20000 in
theorem ggX1_wayOfPress_X6_back : GoodIn wsX1_wayOfPress wsX6_back := goodIn_r _ [29, 21, 30, 31, 13, 32, 33, 12, 14] (by decide +kernel) (by decide +kernel)
set_option maxRecDepth 20000 in
theorem gX1_wayOfPress_X6_back : GoodIn wsX1_wayOfPress (va_wsS RX1 93 yX6_back wsX6_back) := goodIn_app (goodIn_of _ (by decide +kernel)) ggX1_wayOfPress_X6_back
theorem dX1_wayOfPress_0 : decode cX1_wayOfPress 0 = .ok (.aload_n 0, 1) := by decide +kernel
theorem dX1_wayOfPress_1 : decode cX1_wayOfPress 1 = .ok (.iload_n 1, 1) := by decide +kernel
theorem dX1_wayOfPress_2 : decode cX1_wayOfPress 2 = .ok (.bipush 6, 2) := by decide +kernel
theorem dX1_wayOfPress_4 : decode cX1_wayOfPress 4 = .ok (.irem, 1) := by decide +kernel
theorem dX1_wayOfPress_5 : decode cX1_wayOfPress 5 = .ok (.invokevirtual 66, 3) := by decide +kernel
theorem dX1_wayOfPress_8 : decode cX1_wayOfPress 8 = .ok (.invokestatic 90, 3) := by decide +kernel
theorem dX1_wayOfPress_11 : decode cX1_wayOfPress 11 = .ok (.lstore_n 2, 1) := by decide +kernel
theorem dX1_wayOfPress_12 : decode cX1_wayOfPress 12 = .ok (.iload_n 1, 1) := by decide +kernel
theorem dX1_wayOfPress_13 : decode cX1_wayOfPress 13 = .ok (.bipush 6, 2) := by decide +kernel
theorem dX1_wayOfPress_15 : decode cX1_wayOfPress 15 = .ok (.if_icmp .ge 7, 3) := by decide +kernel
theorem dX1_wayOfPress_18 : decode cX1_wayOfPress 18 = .ok (.lload_n 2, 1) := by decide +kernel
theorem dX1_wayOfPress_19 : decode cX1_wayOfPress 19 = .ok (.goto 7, 3) := by decide +kernel
theorem dX1_wayOfPress_22 : decode cX1_wayOfPress 22 = .ok (.lload_n 2, 1) := by decide +kernel
theorem dX1_wayOfPress_23 : decode cX1_wayOfPress 23 = .ok (.invokestatic 93, 3) := by decide +kernel
theorem dX1_wayOfPress_26 : decode cX1_wayOfPress 26 = .ok (.lreturn, 1) := by decide +kernel
theorem dX2_init_0 : decode cX2_init 0 = .ok (.aload_n 0, 1) := by decide +kernel
theorem dX2_init_1 : decode cX2_init 1 = .ok (.invokespecial 3, 3) := by decide +kernel
theorem dX2_init_4 : decode cX2_init 4 = .ok (.aload_n 0, 1) := by decide +kernel
theorem dX2_init_5 : decode cX2_init 5 = .ok (.bipush 40, 2) := by decide +kernel
theorem dX2_init_7 : decode cX2_init 7 = .ok (.newarray .char, 2) := by decide +kernel
theorem dX2_init_9 : decode cX2_init 9 = .ok (.putfield 9, 3) := by decide +kernel
theorem dX2_init_12 : decode cX2_init 12 = .ok (.aload_n 0, 1) := by decide +kernel
theorem dX2_init_13 : decode cX2_init 13 = .ok (.iconst 0, 1) := by decide +kernel
theorem dX2_init_14 : decode cX2_init 14 = .ok (.putfield 15, 3) := by decide +kernel
theorem dX2_init_17 : decode cX2_init 17 = .ok (.return_, 1) := by decide +kernel
theorem dX2_signsIn_0 : decode cX2_signsIn 0 = .ok (.iconst 0, 1) := by decide +kernel
theorem dX2_signsIn_1 : decode cX2_signsIn 1 = .ok (.istore_n 2, 1) := by decide +kernel
theorem dX2_signsIn_2 : decode cX2_signsIn 2 = .ok (.lload_n 0, 1) := by decide +kernel
theorem dX2_signsIn_3 : decode cX2_signsIn 3 = .ok (.lstore_n 3, 1) := by decide +kernel
theorem dX2_signsIn_4 : decode cX2_signsIn 4 = .ok (.iload_n 2, 1) := by decide +kernel
theorem dX2_signsIn_5 : decode cX2_signsIn 5 = .ok (.bipush 8, 2) := by decide +kernel
theorem dX2_signsIn_7 : decode cX2_signsIn 7 = .ok (.if_icmp .ge 51, 3) := by decide +kernel
theorem dX2_signsIn_10 : decode cX2_signsIn 10 = .ok (.lload_n 3, 1) := by decide +kernel
theorem dX2_signsIn_11 : decode cX2_signsIn 11 = .ok (.ldc2_w 19, 3) := by decide +kernel
theorem dX2_signsIn_14 : decode cX2_signsIn 14 = .ok (.land, 1) := by decide +kernel
theorem dX2_signsIn_15 : decode cX2_signsIn 15 = .ok (.lconst 0, 1) := by decide +kernel
theorem dX2_signsIn_16 : decode cX2_signsIn 16 = .ok (.lcmp, 1) := by decide +kernel
theorem dX2_signsIn_17 : decode cX2_signsIn 17 = .ok (.ifCond .eq 41, 3) := by decide +kernel
theorem dX2_signsIn_20 : decode cX2_signsIn 20 = .ok (.lload_n 3, 1) := by decide +kernel
theorem dX2_signsIn_21 : decode cX2_signsIn 21 = .ok (.ldc2_w 19, 3) := by decide +kernel
theorem dX2_signsIn_24 : decode cX2_signsIn 24 = .ok (.land, 1) := by decide +kernel
theorem dX2_signsIn_25 : decode cX2_signsIn 25 = .ok (.lstore 5, 2) := by decide +kernel
theorem dX2_signsIn_27 : decode cX2_signsIn 27 = .ok (.lload 5, 2) := by decide +kernel
theorem dX2_signsIn_29 : decode cX2_signsIn 29 = .ok (.ldc2_w 21, 3) := by decide +kernel
theorem dX2_signsIn_32 : decode cX2_signsIn 32 = .ok (.lcmp, 1) := by decide +kernel
theorem dX2_signsIn_33 : decode cX2_signsIn 33 = .ok (.ifCond .lt 12, 3) := by decide +kernel
theorem dX2_signsIn_36 : decode cX2_signsIn 36 = .ok (.lload 5, 2) := by decide +kernel
theorem dX2_signsIn_38 : decode cX2_signsIn 38 = .ok (.ldc2_w 23, 3) := by decide +kernel
theorem dX2_signsIn_41 : decode cX2_signsIn 41 = .ok (.lcmp, 1) := by decide +kernel
theorem dX2_signsIn_42 : decode cX2_signsIn 42 = .ok (.ifCond .le 5, 3) := by decide +kernel
theorem dX2_signsIn_45 : decode cX2_signsIn 45 = .ok (.iconst 0, 1) := by decide +kernel
theorem dX2_signsIn_46 : decode cX2_signsIn 46 = .ok (.ireturn, 1) := by decide +kernel
theorem dX2_signsIn_47 : decode cX2_signsIn 47 = .ok (.lload_n 3, 1) := by decide +kernel
theorem dX2_signsIn_48 : decode cX2_signsIn 48 = .ok (.bipush 8, 2) := by decide +kernel
theorem dX2_signsIn_50 : decode cX2_signsIn 50 = .ok (.lushr, 1) := by decide +kernel
theorem dX2_signsIn_51 : decode cX2_signsIn 51 = .ok (.lstore_n 3, 1) := by decide +kernel
theorem dX2_signsIn_52 : decode cX2_signsIn 52 = .ok (.iinc 2 1, 3) := by decide +kernel
theorem dX2_signsIn_55 : decode cX2_signsIn 55 = .ok (.goto (-51), 3) := by decide +kernel
theorem dX2_signsIn_58 : decode cX2_signsIn 58 = .ok (.lload_n 3, 1) := by decide +kernel
theorem dX2_signsIn_59 : decode cX2_signsIn 59 = .ok (.lconst 0, 1) := by decide +kernel
theorem dX2_signsIn_60 : decode cX2_signsIn 60 = .ok (.lcmp, 1) := by decide +kernel
theorem dX2_signsIn_61 : decode cX2_signsIn 61 = .ok (.ifCond .ne 7, 3) := by decide +kernel
theorem dX2_signsIn_64 : decode cX2_signsIn 64 = .ok (.iload_n 2, 1) := by decide +kernel
theorem dX2_signsIn_65 : decode cX2_signsIn 65 = .ok (.goto 4, 3) := by decide +kernel
theorem dX2_signsIn_68 : decode cX2_signsIn 68 = .ok (.iconst 0, 1) := by decide +kernel
theorem dX2_signsIn_69 : decode cX2_signsIn 69 = .ok (.ireturn, 1) := by decide +kernel
set_option maxRecDepth 20000 in
theorem ggX2_append_X7_isBelow : GoodIn wsX2_append wsX7_isBelow := goodIn_r _ [6] (by decide +kernel) (by decide +kernel)
set_option maxRecDepth 20000 in
theorem gX2_append_X7_isBelow_n25 : GoodIn wsX2_append (wsX7_isBelow) := ggX2_append_X7_isBelow
theorem dX2_append_0 : decode cX2_append 0 = .ok (.iload_n 3, 1) := by decide +kernel
theorem dX2_append_1 : decode cX2_append 1 = .ok (.iconst 1, 1) := by decide +kernel
theorem dX2_append_2 : decode cX2_append 2 = .ok (.isub, 1) := by decide +kernel
theorem dX2_append_3 : decode cX2_append 3 = .ok (.istore 4, 2) := by decide +kernel
theorem dX2_append_5 : decode cX2_append 5 = .ok (.iload 4, 2) := by decide +kernel
theorem dX2_append_7 : decode cX2_append 7 = .ok (.ifCond .lt 54, 3) := by decide +kernel
theorem dX2_append_10 : decode cX2_append 10 = .ok (.aload_n 0, 1) := by decide +kernel
theorem dX2_append_11 : decode cX2_append 11 = .ok (.getfield 15, 3) := by decide +kernel
theorem dX2_append_14 : decode cX2_append 14 = .ok (.bipush 40, 2) := by decide +kernel
theorem dX2_append_16 : decode cX2_append 16 = .ok (.invokestatic 25, 3) := by decide +kernel
theorem dX2_append_19 : decode cX2_append 19 = .ok (.ifCond .ne 4, 3) := by decide +kernel
theorem dX2_append_22 : decode cX2_append 22 = .ok (.return_, 1) := by decide +kernel
theorem dX2_append_23 : decode cX2_append 23 = .ok (.aload_n 0, 1) := by decide +kernel
theorem dX2_append_24 : decode cX2_append 24 = .ok (.getfield 9, 3) := by decide +kernel
theorem dX2_append_27 : decode cX2_append 27 = .ok (.aload_n 0, 1) := by decide +kernel
theorem dX2_append_28 : decode cX2_append 28 = .ok (.getfield 15, 3) := by decide +kernel
theorem dX2_append_31 : decode cX2_append 31 = .ok (.lload_n 1, 1) := by decide +kernel
theorem dX2_append_32 : decode cX2_append 32 = .ok (.bipush 8, 2) := by decide +kernel
theorem dX2_append_34 : decode cX2_append 34 = .ok (.iload 4, 2) := by decide +kernel
theorem dX2_append_36 : decode cX2_append 36 = .ok (.imul, 1) := by decide +kernel
theorem dX2_append_37 : decode cX2_append 37 = .ok (.lushr, 1) := by decide +kernel
theorem dX2_append_38 : decode cX2_append 38 = .ok (.ldc2_w 19, 3) := by decide +kernel
theorem dX2_append_41 : decode cX2_append 41 = .ok (.land, 1) := by decide +kernel
theorem dX2_append_42 : decode cX2_append 42 = .ok (.l2i, 1) := by decide +kernel
theorem dX2_append_43 : decode cX2_append 43 = .ok (.i2c, 1) := by decide +kernel
theorem dX2_append_44 : decode cX2_append 44 = .ok (.castore, 1) := by decide +kernel
theorem dX2_append_45 : decode cX2_append 45 = .ok (.aload_n 0, 1) := by decide +kernel
theorem dX2_append_46 : decode cX2_append 46 = .ok (.dup, 1) := by decide +kernel
theorem dX2_append_47 : decode cX2_append 47 = .ok (.getfield 15, 3) := by decide +kernel
theorem dX2_append_50 : decode cX2_append 50 = .ok (.iconst 1, 1) := by decide +kernel
theorem dX2_append_51 : decode cX2_append 51 = .ok (.iadd, 1) := by decide +kernel
theorem dX2_append_52 : decode cX2_append 52 = .ok (.putfield 15, 3) := by decide +kernel
theorem dX2_append_55 : decode cX2_append 55 = .ok (.iinc 4 (-1), 3) := by decide +kernel
theorem dX2_append_58 : decode cX2_append 58 = .ok (.goto (-53), 3) := by decide +kernel
theorem dX2_append_61 : decode cX2_append 61 = .ok (.return_, 1) := by decide +kernel
set_option maxRecDepth 20000 in
theorem ggX2_layOut_X2_pressOf : GoodIn wsX2_layOut wsX2_pressOf := goodIn_r _ [7] (by decide +kernel) (by decide +kernel)
set_option maxRecDepth 20000 in
theorem gX2_layOut_X2_pressOf : GoodIn wsX2_layOut (va_wsS RX2 32 yX2_pressOf wsX2_pressOf) := goodIn_app (goodIn_of _ (by decide +kernel)) ggX2_layOut_X2_pressOf
set_option maxRecDepth 20000 in
theorem ggX2_layOut_X2_timesOf : GoodIn wsX2_layOut wsX2_timesOf := goodIn_r _ [10] (by decide +kernel) (by decide +kernel)
set_option maxRecDepth 20000 in
theorem gX2_layOut_X2_timesOf : GoodIn wsX2_layOut (va_wsS RX2 36 yX2_timesOf wsX2_timesOf) := goodIn_app (goodIn_of _ (by decide +kernel)) ggX2_layOut_X2_timesOf
set_option maxRecDepth 20000 in
theorem ggX2_layOut_X0_add : GoodIn wsX2_layOut wsX0_add := goodIn_r _ [15, 16, 17, 18, 19, 20, 21, 22] (by decide +kernel) (by decide +kernel)
set_option maxRecDepth 20000 in
theorem gX2_layOut_X0_add : GoodIn wsX2_layOut (wsV RX2 39 RX0 yX0_add wsX0_add) := goodIn_app (goodIn_of _ (by decide +kernel)) ggX2_layOut_X0_add
theorem dX2_layOut_0 : decode cX2_layOut 0 = .ok (.aload_n 1, 1) := by decide +kernel
theorem dX2_layOut_1 : decode cX2_layOut 1 = .ok (.iconst 0, 1) := by decide +kernel
theorem dX2_layOut_2 : decode cX2_layOut 2 = .ok (.putfield 29, 3) := by decide +kernel
theorem dX2_layOut_5 : decode cX2_layOut 5 = .ok (.iconst (-1), 1) := by decide +kernel
theorem dX2_layOut_6 : decode cX2_layOut 6 = .ok (.istore_n 2, 1) := by decide +kernel
theorem dX2_layOut_7 : decode cX2_layOut 7 = .ok (.iconst 0, 1) := by decide +kernel
theorem dX2_layOut_8 : decode cX2_layOut 8 = .ok (.istore_n 3, 1) := by decide +kernel
theorem dX2_layOut_9 : decode cX2_layOut 9 = .ok (.iload_n 3, 1) := by decide +kernel
theorem dX2_layOut_10 : decode cX2_layOut 10 = .ok (.aload_n 0, 1) := by decide +kernel
theorem dX2_layOut_11 : decode cX2_layOut 11 = .ok (.getfield 15, 3) := by decide +kernel
theorem dX2_layOut_14 : decode cX2_layOut 14 = .ok (.if_icmp .ge 123, 3) := by decide +kernel
theorem dX2_layOut_17 : decode cX2_layOut 17 = .ok (.iload_n 3, 1) := by decide +kernel
theorem dX2_layOut_18 : decode cX2_layOut 18 = .ok (.bipush 40, 2) := by decide +kernel
theorem dX2_layOut_20 : decode cX2_layOut 20 = .ok (.if_icmp .ge 117, 3) := by decide +kernel
theorem dX2_layOut_23 : decode cX2_layOut 23 = .ok (.aload_n 0, 1) := by decide +kernel
theorem dX2_layOut_24 : decode cX2_layOut 24 = .ok (.getfield 9, 3) := by decide +kernel
theorem dX2_layOut_27 : decode cX2_layOut 27 = .ok (.iload_n 3, 1) := by decide +kernel
theorem dX2_layOut_28 : decode cX2_layOut 28 = .ok (.caload, 1) := by decide +kernel
theorem dX2_layOut_29 : decode cX2_layOut 29 = .ok (.invokestatic 32, 3) := by decide +kernel
theorem dX2_layOut_32 : decode cX2_layOut 32 = .ok (.istore 4, 2) := by decide +kernel
theorem dX2_layOut_34 : decode cX2_layOut 34 = .ok (.iload 4, 2) := by decide +kernel
theorem dX2_layOut_36 : decode cX2_layOut 36 = .ok (.ifCond .lt 7, 3) := by decide +kernel
theorem dX2_layOut_39 : decode cX2_layOut 39 = .ok (.iconst 1, 1) := by decide +kernel
theorem dX2_layOut_40 : decode cX2_layOut 40 = .ok (.goto 4, 3) := by decide +kernel
theorem dX2_layOut_43 : decode cX2_layOut 43 = .ok (.iconst 0, 1) := by decide +kernel
theorem dX2_layOut_44 : decode cX2_layOut 44 = .ok (.istore 5, 2) := by decide +kernel
theorem dX2_layOut_46 : decode cX2_layOut 46 = .ok (.iload 5, 2) := by decide +kernel
theorem dX2_layOut_48 : decode cX2_layOut 48 = .ok (.ifCond .eq 8, 3) := by decide +kernel
theorem dX2_layOut_51 : decode cX2_layOut 51 = .ok (.iload 4, 2) := by decide +kernel
theorem dX2_layOut_53 : decode cX2_layOut 53 = .ok (.goto 4, 3) := by decide +kernel
theorem dX2_layOut_56 : decode cX2_layOut 56 = .ok (.iload_n 2, 1) := by decide +kernel
theorem dX2_layOut_57 : decode cX2_layOut 57 = .ok (.istore 6, 2) := by decide +kernel
theorem dX2_layOut_59 : decode cX2_layOut 59 = .ok (.iload 5, 2) := by decide +kernel
theorem dX2_layOut_61 : decode cX2_layOut 61 = .ok (.ifCond .eq 7, 3) := by decide +kernel
theorem dX2_layOut_64 : decode cX2_layOut 64 = .ok (.iconst 1, 1) := by decide +kernel
theorem dX2_layOut_65 : decode cX2_layOut 65 = .ok (.goto 14, 3) := by decide +kernel
theorem dX2_layOut_68 : decode cX2_layOut 68 = .ok (.aload_n 0, 1) := by decide +kernel
theorem dX2_layOut_69 : decode cX2_layOut 69 = .ok (.getfield 9, 3) := by decide +kernel
theorem dX2_layOut_72 : decode cX2_layOut 72 = .ok (.iload_n 3, 1) := by decide +kernel
theorem dX2_layOut_73 : decode cX2_layOut 73 = .ok (.caload, 1) := by decide +kernel
theorem dX2_layOut_74 : decode cX2_layOut 74 = .ok (.invokestatic 36, 3) := by decide +kernel
theorem dX2_layOut_77 : decode cX2_layOut 77 = .ok (.iconst 1, 1) := by decide +kernel
theorem dX2_layOut_78 : decode cX2_layOut 78 = .ok (.isub, 1) := by decide +kernel
theorem dX2_layOut_79 : decode cX2_layOut 79 = .ok (.istore 7, 2) := by decide +kernel
theorem dX2_layOut_81 : decode cX2_layOut 81 = .ok (.iload 6, 2) := by decide +kernel
theorem dX2_layOut_83 : decode cX2_layOut 83 = .ok (.ifCond .lt 21, 3) := by decide +kernel
theorem dX2_layOut_86 : decode cX2_layOut 86 = .ok (.iload 7, 2) := by decide +kernel
theorem dX2_layOut_88 : decode cX2_layOut 88 = .ok (.iconst 1, 1) := by decide +kernel
theorem dX2_layOut_89 : decode cX2_layOut 89 = .ok (.if_icmp .lt 15, 3) := by decide +kernel
theorem dX2_layOut_92 : decode cX2_layOut 92 = .ok (.aload_n 1, 1) := by decide +kernel
theorem dX2_layOut_93 : decode cX2_layOut 93 = .ok (.getfield 29, 3) := by decide +kernel
theorem dX2_layOut_96 : decode cX2_layOut 96 = .ok (.iload 7, 2) := by decide +kernel
theorem dX2_layOut_98 : decode cX2_layOut 98 = .ok (.iadd, 1) := by decide +kernel
theorem dX2_layOut_99 : decode cX2_layOut 99 = .ok (.bipush 24, 2) := by decide +kernel
theorem dX2_layOut_101 : decode cX2_layOut 101 = .ok (.if_icmp .le 5, 3) := by decide +kernel
theorem dX2_layOut_104 : decode cX2_layOut 104 = .ok (.iload_n 3, 1) := by decide +kernel
theorem dX2_layOut_105 : decode cX2_layOut 105 = .ok (.ireturn, 1) := by decide +kernel
theorem dX2_layOut_106 : decode cX2_layOut 106 = .ok (.iconst 0, 1) := by decide +kernel
theorem dX2_layOut_107 : decode cX2_layOut 107 = .ok (.istore 8, 2) := by decide +kernel
theorem dX2_layOut_109 : decode cX2_layOut 109 = .ok (.iload 8, 2) := by decide +kernel
theorem dX2_layOut_111 : decode cX2_layOut 111 = .ok (.iload 7, 2) := by decide +kernel
theorem dX2_layOut_113 : decode cX2_layOut 113 = .ok (.if_icmp .ge 15, 3) := by decide +kernel
theorem dX2_layOut_116 : decode cX2_layOut 116 = .ok (.aload_n 1, 1) := by decide +kernel
theorem dX2_layOut_117 : decode cX2_layOut 117 = .ok (.iload 6, 2) := by decide +kernel
theorem dX2_layOut_119 : decode cX2_layOut 119 = .ok (.invokevirtual 39, 3) := by decide +kernel
theorem dX2_layOut_122 : decode cX2_layOut 122 = .ok (.iinc 8 1, 3) := by decide +kernel
theorem dX2_layOut_125 : decode cX2_layOut 125 = .ok (.goto (-16), 3) := by decide +kernel
theorem dX2_layOut_128 : decode cX2_layOut 128 = .ok (.iload 4, 2) := by decide +kernel
theorem dX2_layOut_130 : decode cX2_layOut 130 = .ok (.istore_n 2, 1) := by decide +kernel
theorem dX2_layOut_131 : decode cX2_layOut 131 = .ok (.iinc 3 1, 3) := by decide +kernel
theorem dX2_layOut_134 : decode cX2_layOut 134 = .ok (.goto (-125), 3) := by decide +kernel
theorem dX2_layOut_137 : decode cX2_layOut 137 = .ok (.aload_n 0, 1) := by decide +kernel
theorem dX2_layOut_138 : decode cX2_layOut 138 = .ok (.getfield 15, 3) := by decide +kernel
theorem dX2_layOut_141 : decode cX2_layOut 141 = .ok (.ifCond .ne 7, 3) := by decide +kernel
theorem dX2_layOut_144 : decode cX2_layOut 144 = .ok (.iconst 0, 1) := by decide +kernel
theorem dX2_layOut_145 : decode cX2_layOut 145 = .ok (.goto 5, 3) := by decide +kernel
theorem dX2_layOut_148 : decode cX2_layOut 148 = .ok (.bipush (-6), 2) := by decide +kernel
theorem dX2_layOut_150 : decode cX2_layOut 150 = .ok (.ireturn, 1) := by decide +kernel
theorem dX2_pressOf_0 : decode cX2_pressOf 0 = .ok (.iload_n 0, 1) := by decide +kernel
theorem dX2_pressOf_1 : decode cX2_pressOf 1 = .ok (.bipush 97, 2) := by decide +kernel
theorem dX2_pressOf_3 : decode cX2_pressOf 3 = .ok (.if_icmp .lt 14, 3) := by decide +kernel
theorem dX2_pressOf_6 : decode cX2_pressOf 6 = .ok (.iload_n 0, 1) := by decide +kernel
theorem dX2_pressOf_7 : decode cX2_pressOf 7 = .ok (.bipush 102, 2) := by decide +kernel
theorem dX2_pressOf_9 : decode cX2_pressOf 9 = .ok (.if_icmp .gt 8, 3) := by decide +kernel
theorem dX2_pressOf_12 : decode cX2_pressOf 12 = .ok (.iload_n 0, 1) := by decide +kernel
theorem dX2_pressOf_13 : decode cX2_pressOf 13 = .ok (.bipush 97, 2) := by decide +kernel
theorem dX2_pressOf_15 : decode cX2_pressOf 15 = .ok (.isub, 1) := by decide +kernel
theorem dX2_pressOf_16 : decode cX2_pressOf 16 = .ok (.ireturn, 1) := by decide +kernel
theorem dX2_pressOf_17 : decode cX2_pressOf 17 = .ok (.iload_n 0, 1) := by decide +kernel
theorem dX2_pressOf_18 : decode cX2_pressOf 18 = .ok (.bipush 65, 2) := by decide +kernel
theorem dX2_pressOf_20 : decode cX2_pressOf 20 = .ok (.if_icmp .lt 17, 3) := by decide +kernel
theorem dX2_pressOf_23 : decode cX2_pressOf 23 = .ok (.iload_n 0, 1) := by decide +kernel
theorem dX2_pressOf_24 : decode cX2_pressOf 24 = .ok (.bipush 70, 2) := by decide +kernel
theorem dX2_pressOf_26 : decode cX2_pressOf 26 = .ok (.if_icmp .gt 11, 3) := by decide +kernel
theorem dX2_pressOf_29 : decode cX2_pressOf 29 = .ok (.iload_n 0, 1) := by decide +kernel
theorem dX2_pressOf_30 : decode cX2_pressOf 30 = .ok (.bipush 65, 2) := by decide +kernel
theorem dX2_pressOf_32 : decode cX2_pressOf 32 = .ok (.isub, 1) := by decide +kernel
theorem dX2_pressOf_33 : decode cX2_pressOf 33 = .ok (.bipush 6, 2) := by decide +kernel
theorem dX2_pressOf_35 : decode cX2_pressOf 35 = .ok (.iadd, 1) := by decide +kernel
theorem dX2_pressOf_36 : decode cX2_pressOf 36 = .ok (.ireturn, 1) := by decide +kernel
theorem dX2_pressOf_37 : decode cX2_pressOf 37 = .ok (.iconst (-1), 1) := by decide +kernel
theorem dX2_pressOf_38 : decode cX2_pressOf 38 = .ok (.ireturn, 1) := by decide +kernel
theorem dX2_timesOf_0 : decode cX2_timesOf 0 = .ok (.iload_n 0, 1) := by decide +kernel
theorem dX2_timesOf_1 : decode cX2_timesOf 1 = .ok (.bipush 50, 2) := by decide +kernel
theorem dX2_timesOf_3 : decode cX2_timesOf 3 = .ok (.if_icmp .lt 16, 3) := by decide +kernel
theorem dX2_timesOf_6 : decode cX2_timesOf 6 = .ok (.iload_n 0, 1) := by decide +kernel
theorem dX2_timesOf_7 : decode cX2_timesOf 7 = .ok (.bipush 57, 2) := by decide +kernel
theorem dX2_timesOf_9 : decode cX2_timesOf 9 = .ok (.if_icmp .gt 10, 3) := by decide +kernel
theorem dX2_timesOf_12 : decode cX2_timesOf 12 = .ok (.iload_n 0, 1) := by decide +kernel
theorem dX2_timesOf_13 : decode cX2_timesOf 13 = .ok (.bipush 48, 2) := by decide +kernel
theorem dX2_timesOf_15 : decode cX2_timesOf 15 = .ok (.isub, 1) := by decide +kernel
theorem dX2_timesOf_16 : decode cX2_timesOf 16 = .ok (.goto 4, 3) := by decide +kernel
theorem dX2_timesOf_19 : decode cX2_timesOf 19 = .ok (.iconst 0, 1) := by decide +kernel
theorem dX2_timesOf_20 : decode cX2_timesOf 20 = .ok (.ireturn, 1) := by decide +kernel
theorem dX3_init_0 : decode cX3_init 0 = .ok (.aload_n 0, 1) := by decide +kernel
theorem dX3_init_1 : decode cX3_init 1 = .ok (.invokespecial 3, 3) := by decide +kernel
theorem dX3_init_4 : decode cX3_init 4 = .ok (.aload_n 0, 1) := by decide +kernel
theorem dX3_init_5 : decode cX3_init 5 = .ok (.bipush 6, 2) := by decide +kernel
theorem dX3_init_7 : decode cX3_init 7 = .ok (.anewarray 9, 3) := by decide +kernel
theorem dX3_init_10 : decode cX3_init 10 = .ok (.putfield 11, 3) := by decide +kernel
theorem dX3_init_13 : decode cX3_init 13 = .ok (.aload_n 0, 1) := by decide +kernel
theorem dX3_init_14 : decode cX3_init 14 = .ok (.iconst 0, 1) := by decide +kernel
theorem dX3_init_15 : decode cX3_init 15 = .ok (.putfield 17, 3) := by decide +kernel
theorem dX3_init_18 : decode cX3_init 18 = .ok (.return_, 1) := by decide +kernel
set_option maxRecDepth 20000 in
theorem ggX3_keep_X3_dropOldest : GoodIn wsX3_keep wsX3_dropOldest := goodIn_r _ [10, 2, 1, 51, 52] (by decide +kernel) (by decide +kernel)
set_option maxRecDepth 20000 in
theorem gX3_keep_X3_dropOldest : GoodIn wsX3_keep (wsV RX3 21 RX3 yX3_dropOldest wsX3_dropOldest) := goodIn_app (goodIn_of _ (by decide +kernel)) ggX3_keep_X3_dropOldest
set_option maxRecDepth 20000 in
theorem ggX3_keep_X7_isBelow : GoodIn wsX3_keep wsX7_isBelow := goodIn_r _ [13] (by decide +kernel) (by decide +kernel)
set_option maxRecDepth 20000 in
theorem gX3_keep_X7_isBelow_n24 : GoodIn wsX3_keep (wsX7_isBelow) := ggX3_keep_X7_isBelow
set_option maxRecDepth 20000 in
theorem ggX3_keep_X1_init : GoodIn wsX3_keep wsX1_init := goodIn_r _ [16, 17, 18, 19, 20, 21, 22, 23, 24, 25, 26, 27, 28, 29, 30, 31, 32, 33, 34, 35, 36, 37, 53, 54, 55, 56, 57, 58, 59, 60, 61] (by decide +kernel) (by decide +kernel)
set_option maxRecDepth 20000 in
theorem gX3_keep_X1_init : GoodIn wsX3_keep (wsX1_init) := ggX3_keep_X1_init
set_option maxRecDepth 20000 in
theorem ggX3_keep_X1_copyFrom : GoodIn wsX3_keep wsX1_copyFrom := goodIn_r _ [41, 21, 23, 24, 26, 42, 43, 44, 45, 28, 29, 30, 46, 47, 48, 32, 49, 36, 50, 37, 53, 54, 55, 56, 57, 58, 59, 60, 61] (by decide +kernel) (by decide +kernel)
set_option maxRecDepth 20000 in
theorem gX3_keep_X1_copyFrom : GoodIn wsX3_keep (wsV RX3 29 RX1 yX1_copyFrom wsX1_copyFrom) := goodIn_app (goodIn_of _ (by decide +kernel)) ggX3_keep_X1_copyFrom
theorem dX3_keep_0 : decode cX3_keep 0 = .ok (.aload_n 0, 1) := by decide +kernel
theorem dX3_keep_1 : decode cX3_keep 1 = .ok (.getfield 17, 3) := by decide +kernel
theorem dX3_keep_4 : decode cX3_keep 4 = .ok (.bipush 6, 2) := by decide +kernel
theorem dX3_keep_6 : decode cX3_keep 6 = .ok (.if_icmp .lt 7, 3) := by decide +kernel
theorem dX3_keep_9 : decode cX3_keep 9 = .ok (.aload_n 0, 1) := by decide +kernel
theorem dX3_keep_10 : decode cX3_keep 10 = .ok (.invokevirtual 21, 3) := by decide +kernel
theorem dX3_keep_13 : decode cX3_keep 13 = .ok (.aload_n 0, 1) := by decide +kernel
theorem dX3_keep_14 : decode cX3_keep 14 = .ok (.getfield 17, 3) := by decide +kernel
theorem dX3_keep_17 : decode cX3_keep 17 = .ok (.bipush 6, 2) := by decide +kernel
theorem dX3_keep_19 : decode cX3_keep 19 = .ok (.invokestatic 24, 3) := by decide +kernel
theorem dX3_keep_22 : decode cX3_keep 22 = .ok (.ifCond .ne 4, 3) := by decide +kernel
theorem dX3_keep_25 : decode cX3_keep 25 = .ok (.return_, 1) := by decide +kernel
theorem dX3_keep_26 : decode cX3_keep 26 = .ok (.aload_n 0, 1) := by decide +kernel
theorem dX3_keep_27 : decode cX3_keep 27 = .ok (.getfield 11, 3) := by decide +kernel
theorem dX3_keep_30 : decode cX3_keep 30 = .ok (.aload_n 0, 1) := by decide +kernel
theorem dX3_keep_31 : decode cX3_keep 31 = .ok (.getfield 17, 3) := by decide +kernel
theorem dX3_keep_34 : decode cX3_keep 34 = .ok (.aaload, 1) := by decide +kernel
theorem dX3_keep_35 : decode cX3_keep 35 = .ok (.astore_n 2, 1) := by decide +kernel
theorem dX3_keep_36 : decode cX3_keep 36 = .ok (.aload_n 2, 1) := by decide +kernel
theorem dX3_keep_37 : decode cX3_keep 37 = .ok (.ifnonnull 11, 3) := by decide +kernel
theorem dX3_keep_40 : decode cX3_keep 40 = .ok (.new 9, 3) := by decide +kernel
theorem dX3_keep_43 : decode cX3_keep 43 = .ok (.dup, 1) := by decide +kernel
theorem dX3_keep_44 : decode cX3_keep 44 = .ok (.invokespecial 28, 3) := by decide +kernel
theorem dX3_keep_47 : decode cX3_keep 47 = .ok (.astore_n 2, 1) := by decide +kernel
theorem dX3_keep_48 : decode cX3_keep 48 = .ok (.aload_n 2, 1) := by decide +kernel
theorem dX3_keep_49 : decode cX3_keep 49 = .ok (.aload_n 1, 1) := by decide +kernel
theorem dX3_keep_50 : decode cX3_keep 50 = .ok (.invokevirtual 29, 3) := by decide +kernel
theorem dX3_keep_53 : decode cX3_keep 53 = .ok (.aload_n 0, 1) := by decide +kernel
theorem dX3_keep_54 : decode cX3_keep 54 = .ok (.getfield 11, 3) := by decide +kernel
theorem dX3_keep_57 : decode cX3_keep 57 = .ok (.aload_n 0, 1) := by decide +kernel
theorem dX3_keep_58 : decode cX3_keep 58 = .ok (.getfield 17, 3) := by decide +kernel
theorem dX3_keep_61 : decode cX3_keep 61 = .ok (.aload_n 2, 1) := by decide +kernel
theorem dX3_keep_62 : decode cX3_keep 62 = .ok (.aastore, 1) := by decide +kernel
theorem dX3_keep_63 : decode cX3_keep 63 = .ok (.aload_n 0, 1) := by decide +kernel
theorem dX3_keep_64 : decode cX3_keep 64 = .ok (.dup, 1) := by decide +kernel
theorem dX3_keep_65 : decode cX3_keep 65 = .ok (.getfield 17, 3) := by decide +kernel
theorem dX3_keep_68 : decode cX3_keep 68 = .ok (.iconst 1, 1) := by decide +kernel
theorem dX3_keep_69 : decode cX3_keep 69 = .ok (.iadd, 1) := by decide +kernel
theorem dX3_keep_70 : decode cX3_keep 70 = .ok (.putfield 17, 3) := by decide +kernel
theorem dX3_keep_73 : decode cX3_keep 73 = .ok (.return_, 1) := by decide +kernel
set_option maxRecDepth 20000 in
theorem ggX3_giveBack_X7_isBelow : GoodIn wsX3_giveBack wsX7_isBelow := goodIn_r _ [5] (by decide +kernel) (by decide +kernel)
set_option maxRecDepth 20000 in
theorem gX3_giveBack_X7_isBelow_n24 : GoodIn wsX3_giveBack (wsX7_isBelow) := ggX3_giveBack_X7_isBelow
set_option maxRecDepth 20000 in
theorem ggX3_giveBack_X1_copyFrom : GoodIn wsX3_giveBack wsX1_copyFrom := goodIn_r _ [10, 11, 12, 13, 14, 15, 16, 17, 18, 19, 20, 21, 22, 23, 24, 25, 26, 27, 28, 29, 32, 33, 34, 35, 36, 37, 38, 39, 40] (by decide +kernel) (by decide +kernel)
set_option maxRecDepth 20000 in
theorem gX3_giveBack_X1_copyFrom : GoodIn wsX3_giveBack (wsV RX3 29 RX1 yX1_copyFrom wsX1_copyFrom) := goodIn_app (goodIn_of _ (by decide +kernel)) ggX3_giveBack_X1_copyFrom
theorem dX3_giveBack_0 : decode cX3_giveBack 0 = .ok (.aload_n 0, 1) := by decide +kernel
theorem dX3_giveBack_1 : decode cX3_giveBack 1 = .ok (.getfield 17, 3) := by decide +kernel
theorem dX3_giveBack_4 : decode cX3_giveBack 4 = .ok (.iconst 1, 1) := by decide +kernel
theorem dX3_giveBack_5 : decode cX3_giveBack 5 = .ok (.isub, 1) := by decide +kernel
theorem dX3_giveBack_6 : decode cX3_giveBack 6 = .ok (.bipush 6, 2) := by decide +kernel
theorem dX3_giveBack_8 : decode cX3_giveBack 8 = .ok (.invokestatic 24, 3) := by decide +kernel
theorem dX3_giveBack_11 : decode cX3_giveBack 11 = .ok (.ifCond .ne 4, 3) := by decide +kernel
theorem dX3_giveBack_14 : decode cX3_giveBack 14 = .ok (.return_, 1) := by decide +kernel
theorem dX3_giveBack_15 : decode cX3_giveBack 15 = .ok (.aload_n 0, 1) := by decide +kernel
theorem dX3_giveBack_16 : decode cX3_giveBack 16 = .ok (.dup, 1) := by decide +kernel
theorem dX3_giveBack_17 : decode cX3_giveBack 17 = .ok (.getfield 17, 3) := by decide +kernel
theorem dX3_giveBack_20 : decode cX3_giveBack 20 = .ok (.iconst 1, 1) := by decide +kernel
theorem dX3_giveBack_21 : decode cX3_giveBack 21 = .ok (.isub, 1) := by decide +kernel
theorem dX3_giveBack_22 : decode cX3_giveBack 22 = .ok (.putfield 17, 3) := by decide +kernel
theorem dX3_giveBack_25 : decode cX3_giveBack 25 = .ok (.aload_n 0, 1) := by decide +kernel
theorem dX3_giveBack_26 : decode cX3_giveBack 26 = .ok (.getfield 11, 3) := by decide +kernel
theorem dX3_giveBack_29 : decode cX3_giveBack 29 = .ok (.aload_n 0, 1) := by decide +kernel
theorem dX3_giveBack_30 : decode cX3_giveBack 30 = .ok (.getfield 17, 3) := by decide +kernel
theorem dX3_giveBack_33 : decode cX3_giveBack 33 = .ok (.aaload, 1) := by decide +kernel
theorem dX3_giveBack_34 : decode cX3_giveBack 34 = .ok (.astore_n 2, 1) := by decide +kernel
theorem dX3_giveBack_35 : decode cX3_giveBack 35 = .ok (.aload_n 2, 1) := by decide +kernel
theorem dX3_giveBack_36 : decode cX3_giveBack 36 = .ok (.ifnull 8, 3) := by decide +kernel
theorem dX3_giveBack_39 : decode cX3_giveBack 39 = .ok (.aload_n 1, 1) := by decide +kernel
theorem dX3_giveBack_40 : decode cX3_giveBack 40 = .ok (.aload_n 2, 1) := by decide +kernel
theorem dX3_giveBack_41 : decode cX3_giveBack 41 = .ok (.invokevirtual 29, 3) := by decide +kernel
theorem dX3_giveBack_44 : decode cX3_giveBack 44 = .ok (.return_, 1) := by decide +kernel
theorem dX3_dropOldest_0 : decode cX3_dropOldest 0 = .ok (.aload_n 0, 1) := by decide +kernel
theorem dX3_dropOldest_1 : decode cX3_dropOldest 1 = .ok (.getfield 11, 3) := by decide +kernel
theorem dX3_dropOldest_4 : decode cX3_dropOldest 4 = .ok (.iconst 0, 1) := by decide +kernel
theorem dX3_dropOldest_5 : decode cX3_dropOldest 5 = .ok (.aaload, 1) := by decide +kernel
theorem dX3_dropOldest_6 : decode cX3_dropOldest 6 = .ok (.astore_n 1, 1) := by decide +kernel
theorem dX3_dropOldest_7 : decode cX3_dropOldest 7 = .ok (.iconst 1, 1) := by decide +kernel
theorem dX3_dropOldest_8 : decode cX3_dropOldest 8 = .ok (.istore_n 2, 1) := by decide +kernel
theorem dX3_dropOldest_9 : decode cX3_dropOldest 9 = .ok (.iload_n 2, 1) := by decide +kernel
theorem dX3_dropOldest_10 : decode cX3_dropOldest 10 = .ok (.bipush 6, 2) := by decide +kernel
theorem dX3_dropOldest_12 : decode cX3_dropOldest 12 = .ok (.if_icmp .ge 23, 3) := by decide +kernel
theorem dX3_dropOldest_15 : decode cX3_dropOldest 15 = .ok (.aload_n 0, 1) := by decide +kernel
theorem dX3_dropOldest_16 : decode cX3_dropOldest 16 = .ok (.getfield 11, 3) := by decide +kernel
theorem dX3_dropOldest_19 : decode cX3_dropOldest 19 = .ok (.iload_n 2, 1) := by decide +kernel
theorem dX3_dropOldest_20 : decode cX3_dropOldest 20 = .ok (.iconst 1, 1) := by decide +kernel
theorem dX3_dropOldest_21 : decode cX3_dropOldest 21 = .ok (.isub, 1) := by decide +kernel
theorem dX3_dropOldest_22 : decode cX3_dropOldest 22 = .ok (.aload_n 0, 1) := by decide +kernel
theorem dX3_dropOldest_23 : decode cX3_dropOldest 23 = .ok (.getfield 11, 3) := by decide +kernel
theorem dX3_dropOldest_26 : decode cX3_dropOldest 26 = .ok (.iload_n 2, 1) := by decide +kernel
theorem dX3_dropOldest_27 : decode cX3_dropOldest 27 = .ok (.aaload, 1) := by decide +kernel
theorem dX3_dropOldest_28 : decode cX3_dropOldest 28 = .ok (.aastore, 1) := by decide +kernel
theorem dX3_dropOldest_29 : decode cX3_dropOldest 29 = .ok (.iinc 2 1, 3) := by decide +kernel
theorem dX3_dropOldest_32 : decode cX3_dropOldest 32 = .ok (.goto (-23), 3) := by decide +kernel
theorem dX3_dropOldest_35 : decode cX3_dropOldest 35 = .ok (.aload_n 0, 1) := by decide +kernel
theorem dX3_dropOldest_36 : decode cX3_dropOldest 36 = .ok (.getfield 11, 3) := by decide +kernel
theorem dX3_dropOldest_39 : decode cX3_dropOldest 39 = .ok (.iconst 5, 1) := by decide +kernel
theorem dX3_dropOldest_40 : decode cX3_dropOldest 40 = .ok (.aload_n 1, 1) := by decide +kernel
theorem dX3_dropOldest_41 : decode cX3_dropOldest 41 = .ok (.aastore, 1) := by decide +kernel
theorem dX3_dropOldest_42 : decode cX3_dropOldest 42 = .ok (.aload_n 0, 1) := by decide +kernel
theorem dX3_dropOldest_43 : decode cX3_dropOldest 43 = .ok (.iconst 5, 1) := by decide +kernel
theorem dX3_dropOldest_44 : decode cX3_dropOldest 44 = .ok (.putfield 17, 3) := by decide +kernel
theorem dX3_dropOldest_47 : decode cX3_dropOldest 47 = .ok (.return_, 1) := by decide +kernel
theorem dX4_at_0 : decode cX4_at 0 = .ok (.lload_n 0, 1) := by decide +kernel
theorem dX4_at_1 : decode cX4_at 1 = .ok (.iconst 4, 1) := by decide +kernel
theorem dX4_at_2 : decode cX4_at 2 = .ok (.iload_n 2, 1) := by decide +kernel
theorem dX4_at_3 : decode cX4_at 3 = .ok (.imul, 1) := by decide +kernel
theorem dX4_at_4 : decode cX4_at 4 = .ok (.lushr, 1) := by decide +kernel
theorem dX4_at_5 : decode cX4_at 5 = .ok (.l2i, 1) := by decide +kernel
theorem dX4_at_6 : decode cX4_at 6 = .ok (.bipush 15, 2) := by decide +kernel
theorem dX4_at_8 : decode cX4_at 8 = .ok (.iand, 1) := by decide +kernel
theorem dX4_at_9 : decode cX4_at 9 = .ok (.ireturn, 1) := by decide +kernel
theorem dX4_with_0 : decode cX4_with 0 = .ok (.lload_n 0, 1) := by decide +kernel
theorem dX4_with_1 : decode cX4_with 1 = .ok (.ldc2_w 9, 3) := by decide +kernel
theorem dX4_with_4 : decode cX4_with 4 = .ok (.iconst 4, 1) := by decide +kernel
theorem dX4_with_5 : decode cX4_with 5 = .ok (.iload_n 2, 1) := by decide +kernel
theorem dX4_with_6 : decode cX4_with 6 = .ok (.imul, 1) := by decide +kernel
theorem dX4_with_7 : decode cX4_with 7 = .ok (.lshl, 1) := by decide +kernel
theorem dX4_with_8 : decode cX4_with 8 = .ok (.ldc2_w 11, 3) := by decide +kernel
theorem dX4_with_11 : decode cX4_with 11 = .ok (.lxor, 1) := by decide +kernel
theorem dX4_with_12 : decode cX4_with 12 = .ok (.land, 1) := by decide +kernel
theorem dX4_with_13 : decode cX4_with 13 = .ok (.iload_n 3, 1) := by decide +kernel
theorem dX4_with_14 : decode cX4_with 14 = .ok (.i2l, 1) := by decide +kernel
theorem dX4_with_15 : decode cX4_with 15 = .ok (.iconst 4, 1) := by decide +kernel
theorem dX4_with_16 : decode cX4_with 16 = .ok (.iload_n 2, 1) := by decide +kernel
theorem dX4_with_17 : decode cX4_with 17 = .ok (.imul, 1) := by decide +kernel
theorem dX4_with_18 : decode cX4_with 18 = .ok (.lshl, 1) := by decide +kernel
theorem dX4_with_19 : decode cX4_with 19 = .ok (.lor, 1) := by decide +kernel
theorem dX4_with_20 : decode cX4_with 20 = .ok (.lreturn, 1) := by decide +kernel
set_option maxRecDepth 20000 in
theorem ggX4_moved_X4_at : GoodIn wsX4_moved wsX4_at := goodIn_r _ [4] (by decide +kernel) (by decide +kernel)
set_option maxRecDepth 20000 in
theorem gX4_moved_X4_at : GoodIn wsX4_moved (va_wsS RX4 13 yX4_at wsX4_at) := goodIn_app (goodIn_of _ (by decide +kernel)) ggX4_moved_X4_at
theorem dX4_moved_0 : decode cX4_moved 0 = .ok (.lconst 0, 1) := by decide +kernel
theorem dX4_moved_1 : decode cX4_moved 1 = .ok (.lstore 4, 2) := by decide +kernel
theorem dX4_moved_3 : decode cX4_moved 3 = .ok (.iconst 0, 1) := by decide +kernel
theorem dX4_moved_4 : decode cX4_moved 4 = .ok (.istore 6, 2) := by decide +kernel
theorem dX4_moved_6 : decode cX4_moved 6 = .ok (.iload 6, 2) := by decide +kernel
theorem dX4_moved_8 : decode cX4_moved 8 = .ok (.bipush 12, 2) := by decide +kernel
theorem dX4_moved_10 : decode cX4_moved 10 = .ok (.if_icmp .ge 30, 3) := by decide +kernel
theorem dX4_moved_13 : decode cX4_moved 13 = .ok (.lload 4, 2) := by decide +kernel
theorem dX4_moved_15 : decode cX4_moved 15 = .ok (.lload_n 0, 1) := by decide +kernel
theorem dX4_moved_16 : decode cX4_moved 16 = .ok (.iload 6, 2) := by decide +kernel
theorem dX4_moved_18 : decode cX4_moved 18 = .ok (.invokestatic 13, 3) := by decide +kernel
theorem dX4_moved_21 : decode cX4_moved 21 = .ok (.i2l, 1) := by decide +kernel
theorem dX4_moved_22 : decode cX4_moved 22 = .ok (.iconst 4, 1) := by decide +kernel
theorem dX4_moved_23 : decode cX4_moved 23 = .ok (.lload_n 2, 1) := by decide +kernel
theorem dX4_moved_24 : decode cX4_moved 24 = .ok (.iload 6, 2) := by decide +kernel
theorem dX4_moved_26 : decode cX4_moved 26 = .ok (.invokestatic 13, 3) := by decide +kernel
theorem dX4_moved_29 : decode cX4_moved 29 = .ok (.imul, 1) := by decide +kernel
theorem dX4_moved_30 : decode cX4_moved 30 = .ok (.lshl, 1) := by decide +kernel
theorem dX4_moved_31 : decode cX4_moved 31 = .ok (.lor, 1) := by decide +kernel
theorem dX4_moved_32 : decode cX4_moved 32 = .ok (.lstore 4, 2) := by decide +kernel
theorem dX4_moved_34 : decode cX4_moved 34 = .ok (.iinc 6 1, 3) := by decide +kernel
theorem dX4_moved_37 : decode cX4_moved 37 = .ok (.goto (-31), 3) := by decide +kernel
theorem dX4_moved_40 : decode cX4_moved 40 = .ok (.lload 4, 2) := by decide +kernel
theorem dX4_moved_42 : decode cX4_moved 42 = .ok (.lreturn, 1) := by decide +kernel
theorem dX5_init_0 : decode cX5_init 0 = .ok (.aload_n 0, 1) := by decide +kernel
theorem dX5_init_1 : decode cX5_init 1 = .ok (.invokespecial 3, 3) := by decide +kernel
theorem dX5_init_4 : decode cX5_init 4 = .ok (.aload_n 0, 1) := by decide +kernel
theorem dX5_init_5 : decode cX5_init 5 = .ok (.bipush 6, 2) := by decide +kernel
theorem dX5_init_7 : decode cX5_init 7 = .ok (.newarray .long, 2) := by decide +kernel
theorem dX5_init_9 : decode cX5_init 9 = .ok (.putfield 9, 3) := by decide +kernel
theorem dX5_init_12 : decode cX5_init 12 = .ok (.aload_n 0, 1) := by decide +kernel
theorem dX5_init_13 : decode cX5_init 13 = .ok (.iconst 0, 1) := by decide +kernel
theorem dX5_init_14 : decode cX5_init 14 = .ok (.putfield 15, 3) := by decide +kernel
theorem dX5_init_17 : decode cX5_init 17 = .ok (.aload_n 0, 1) := by decide +kernel
theorem dX5_init_18 : decode cX5_init 18 = .ok (.sipush 301, 3) := by decide +kernel
theorem dX5_init_21 : decode cX5_init 21 = .ok (.newarray .long, 2) := by decide +kernel
theorem dX5_init_23 : decode cX5_init 23 = .ok (.putfield 19, 3) := by decide +kernel
theorem dX5_init_26 : decode cX5_init 26 = .ok (.aload_n 0, 1) := by decide +kernel
theorem dX5_init_27 : decode cX5_init 27 = .ok (.iconst 0, 1) := by decide +kernel
theorem dX5_init_28 : decode cX5_init 28 = .ok (.putfield 22, 3) := by decide +kernel
theorem dX5_init_31 : decode cX5_init 31 = .ok (.aload_n 0, 1) := by decide +kernel
theorem dX5_init_32 : decode cX5_init 32 = .ok (.sipush 1024, 3) := by decide +kernel
theorem dX5_init_35 : decode cX5_init 35 = .ok (.newarray .long, 2) := by decide +kernel
theorem dX5_init_37 : decode cX5_init 37 = .ok (.putfield 25, 3) := by decide +kernel
theorem dX5_init_40 : decode cX5_init 40 = .ok (.return_, 1) := by decide +kernel
set_option maxRecDepth 20000 in
theorem ggX5_addMaker_X7_isBelow : GoodIn wsX5_addMaker wsX7_isBelow := goodIn_r _ [5] (by decide +kernel) (by decide +kernel)
set_option maxRecDepth 20000 in
theorem gX5_addMaker_X7_isBelow_n28 : GoodIn wsX5_addMaker (wsX7_isBelow) := ggX5_addMaker_X7_isBelow
theorem dX5_addMaker_0 : decode cX5_addMaker 0 = .ok (.aload_n 0, 1) := by decide +kernel
