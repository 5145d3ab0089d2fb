theorem dX7_dye_12 : decode cX7_dye 12 = .ok (.iconst 4, 1) := by decide +kernel
theorem dX7_dye_13 : decode cX7_dye 13 = .ok (.invokestatic 48, 3) := by decide +kernel
theorem dX7_dye_16 : decode cX7_dye 16 = .ok (.ifCond .ne 6, 3) := by decide +kernel
theorem dX7_dye_19 : decode cX7_dye 19 = .ok (.bipush (-2), 2) := by decide +kernel
theorem dX7_dye_21 : decode cX7_dye 21 = .ok (.ireturn, 1) := by decide +kernel
theorem dX7_dye_22 : decode cX7_dye 22 = .ok (.aload_n 0, 1) := by decide +kernel
theorem dX7_dye_23 : decode cX7_dye 23 = .ok (.getfield 19, 3) := by decide +kernel
theorem dX7_dye_26 : decode cX7_dye 26 = .ok (.aload_n 0, 1) := by decide +kernel
theorem dX7_dye_27 : decode cX7_dye 27 = .ok (.getfield 10, 3) := by decide +kernel
theorem dX7_dye_30 : decode cX7_dye 30 = .ok (.invokevirtual 52, 3) := by decide +kernel
theorem dX7_dye_33 : decode cX7_dye 33 = .ok (.aload_n 0, 1) := by decide +kernel
theorem dX7_dye_34 : decode cX7_dye 34 = .ok (.getfield 10, 3) := by decide +kernel
theorem dX7_dye_37 : decode cX7_dye 37 = .ok (.getfield 133, 3) := by decide +kernel
theorem dX7_dye_40 : decode cX7_dye 40 = .ok (.iload_n 1, 1) := by decide +kernel
theorem dX7_dye_41 : decode cX7_dye 41 = .ok (.invokestatic 60, 3) := by decide +kernel
theorem dX7_dye_44 : decode cX7_dye 44 = .ok (.istore_n 3, 1) := by decide +kernel
theorem dX7_dye_45 : decode cX7_dye 45 = .ok (.aload_n 0, 1) := by decide +kernel
theorem dX7_dye_46 : decode cX7_dye 46 = .ok (.getfield 10, 3) := by decide +kernel
theorem dX7_dye_49 : decode cX7_dye 49 = .ok (.aload_n 0, 1) := by decide +kernel
theorem dX7_dye_50 : decode cX7_dye 50 = .ok (.getfield 10, 3) := by decide +kernel
theorem dX7_dye_53 : decode cX7_dye 53 = .ok (.getfield 133, 3) := by decide +kernel
theorem dX7_dye_56 : decode cX7_dye 56 = .ok (.iload_n 1, 1) := by decide +kernel
theorem dX7_dye_57 : decode cX7_dye 57 = .ok (.iload_n 2, 1) := by decide +kernel
theorem dX7_dye_58 : decode cX7_dye 58 = .ok (.invokestatic 66, 3) := by decide +kernel
theorem dX7_dye_61 : decode cX7_dye 61 = .ok (.putfield 133, 3) := by decide +kernel
theorem dX7_dye_64 : decode cX7_dye 64 = .ok (.iload_n 3, 1) := by decide +kernel
theorem dX7_dye_65 : decode cX7_dye 65 = .ok (.ireturn, 1) := by decide +kernel
set_option maxRecDepth 20000 in
theorem ggX7_place_X7_isBelow : GoodIn wsX7_place wsX7_isBelow := goodIn_r _ [7] (by decide +kernel) (by decide +kernel)
set_option maxRecDepth 20000 in
theorem gX7_place_X7_isBelow : GoodIn wsX7_place (va_wsS RX7 48 yX7_isBelow wsX7_isBelow) := goodIn_app (goodIn_of _ (by decide +kernel)) ggX7_place_X7_isBelow
set_option maxRecDepth 20000 in
theorem ggX7_place_X4_at : GoodIn wsX7_place wsX4_at := goodIn_r _ [11] (by decide +kernel) (by decide +kernel)
set_option maxRecDepth 20000 in
theorem gX7_place_X4_at : GoodIn wsX7_place (va_wsS RX7 60 yX4_at wsX4_at) := goodIn_app (goodIn_of _ (by decide +kernel)) ggX7_place_X4_at
set_option maxRecDepth 20000 in
theorem ggX7_place_X1_coloursByPlace : GoodIn wsX7_place wsX1_coloursByPlace := goodIn_r _ [16, 17, 18, 19, 20, 21, 22, 23, 9, 10, 11, 39, 40, 41, 42, 43, 44, 45] (by decide +kernel) (by decide +kernel)
set_option maxRecDepth 20000 in
theorem gX7_place_X1_coloursByPlace : GoodIn wsX7_place (wsV RX7 136 RX1 yX1_coloursByPlace wsX1_coloursByPlace) := goodIn_app (goodIn_of _ (by decide +kernel)) ggX7_place_X1_coloursByPlace
set_option maxRecDepth 20000 in
theorem ggX7_place_X1_treadlesRaising : GoodIn wsX7_place wsX1_treadlesRaising := goodIn_r _ [27, 28, 29, 30, 9, 10, 11, 31, 6, 32, 39, 40, 41, 42, 43, 44, 45] (by decide +kernel) (by decide +kernel)
set_option maxRecDepth 20000 in
theorem gX7_place_X1_treadlesRaising : GoodIn wsX7_place (wsV RX7 140 RX1 yX1_treadlesRaising wsX1_treadlesRaising) := goodIn_app (goodIn_of _ (by decide +kernel)) ggX7_place_X1_treadlesRaising
theorem dX7_place_0 : decode cX7_place 0 = .ok (.iload_n 1, 1) := by decide +kernel
theorem dX7_place_1 : decode cX7_place 1 = .ok (.bipush 12, 2) := by decide +kernel
theorem dX7_place_3 : decode cX7_place 3 = .ok (.invokestatic 48, 3) := by decide +kernel
theorem dX7_place_6 : decode cX7_place 6 = .ok (.ifCond .ne 5, 3) := by decide +kernel
theorem dX7_place_9 : decode cX7_place 9 = .ok (.iconst (-1), 1) := by decide +kernel
theorem dX7_place_10 : decode cX7_place 10 = .ok (.ireturn, 1) := by decide +kernel
theorem dX7_place_11 : decode cX7_place 11 = .ok (.iload_n 2, 1) := by decide +kernel
theorem dX7_place_12 : decode cX7_place 12 = .ok (.tableswitch 77 0 3 #[32, 44, 56, 68], 32) := by decide +kernel
theorem dX7_place_44 : decode cX7_place 44 = .ok (.aload_n 0, 1) := by decide +kernel
theorem dX7_place_45 : decode cX7_place 45 = .ok (.getfield 10, 3) := by decide +kernel
theorem dX7_place_48 : decode cX7_place 48 = .ok (.getfield 56, 3) := by decide +kernel
theorem dX7_place_51 : decode cX7_place 51 = .ok (.iload_n 1, 1) := by decide +kernel
theorem dX7_place_52 : decode cX7_place 52 = .ok (.invokestatic 60, 3) := by decide +kernel
theorem dX7_place_55 : decode cX7_place 55 = .ok (.ireturn, 1) := by decide +kernel
theorem dX7_place_56 : decode cX7_place 56 = .ok (.aload_n 0, 1) := by decide +kernel
theorem dX7_place_57 : decode cX7_place 57 = .ok (.getfield 10, 3) := by decide +kernel
theorem dX7_place_60 : decode cX7_place 60 = .ok (.getfield 106, 3) := by decide +kernel
theorem dX7_place_63 : decode cX7_place 63 = .ok (.iload_n 1, 1) := by decide +kernel
theorem dX7_place_64 : decode cX7_place 64 = .ok (.invokestatic 60, 3) := by decide +kernel
theorem dX7_place_67 : decode cX7_place 67 = .ok (.ireturn, 1) := by decide +kernel
theorem dX7_place_68 : decode cX7_place 68 = .ok (.aload_n 0, 1) := by decide +kernel
theorem dX7_place_69 : decode cX7_place 69 = .ok (.getfield 10, 3) := by decide +kernel
theorem dX7_place_72 : decode cX7_place 72 = .ok (.invokevirtual 136, 3) := by decide +kernel
theorem dX7_place_75 : decode cX7_place 75 = .ok (.iload_n 1, 1) := by decide +kernel
theorem dX7_place_76 : decode cX7_place 76 = .ok (.invokestatic 60, 3) := by decide +kernel
theorem dX7_place_79 : decode cX7_place 79 = .ok (.ireturn, 1) := by decide +kernel
theorem dX7_place_80 : decode cX7_place 80 = .ok (.aload_n 0, 1) := by decide +kernel
theorem dX7_place_81 : decode cX7_place 81 = .ok (.getfield 10, 3) := by decide +kernel
theorem dX7_place_84 : decode cX7_place 84 = .ok (.iload_n 1, 1) := by decide +kernel
theorem dX7_place_85 : decode cX7_place 85 = .ok (.invokevirtual 140, 3) := by decide +kernel
theorem dX7_place_88 : decode cX7_place 88 = .ok (.ireturn, 1) := by decide +kernel
theorem dX7_place_89 : decode cX7_place 89 = .ok (.bipush (-2), 2) := by decide +kernel
theorem dX7_place_91 : decode cX7_place 91 = .ok (.ireturn, 1) := by decide +kernel
set_option maxRecDepth 20000 in
theorem ggX7_treadle_X7_isBelow : GoodIn wsX7_treadle wsX7_isBelow := goodIn_r _ [6] (by decide +kernel) (by decide +kernel)
set_option maxRecDepth 20000 in
theorem gX7_treadle_X7_isBelow : GoodIn wsX7_treadle (va_wsS RX7 48 yX7_isBelow wsX7_isBelow) := goodIn_app (goodIn_of _ (by decide +kernel)) ggX7_treadle_X7_isBelow
set_option maxRecDepth 20000 in
theorem ggX7_treadle_X1_raisedBy : GoodIn wsX7_treadle wsX1_raisedBy := goodIn_r _ [11, 12, 13, 4, 5, 6, 14, 15, 16, 17, 18, 19, 26, 27, 28, 29, 30, 31, 32] (by decide +kernel) (by decide +kernel)
set_option maxRecDepth 20000 in
theorem gX7_treadle_X1_raisedBy : GoodIn wsX7_treadle (wsV RX7 74 RX1 yX1_raisedBy wsX1_raisedBy) := goodIn_app (goodIn_of _ (by decide +kernel)) ggX7_treadle_X1_raisedBy
theorem dX7_treadle_0 : decode cX7_treadle 0 = .ok (.iload_n 1, 1) := by decide +kernel
theorem dX7_treadle_1 : decode cX7_treadle 1 = .ok (.bipush 6, 2) := by decide +kernel
theorem dX7_treadle_3 : decode cX7_treadle 3 = .ok (.invokestatic 48, 3) := by decide +kernel
theorem dX7_treadle_6 : decode cX7_treadle 6 = .ok (.ifCond .ne 5, 3) := by decide +kernel
theorem dX7_treadle_9 : decode cX7_treadle 9 = .ok (.iconst (-1), 1) := by decide +kernel
theorem dX7_treadle_10 : decode cX7_treadle 10 = .ok (.ireturn, 1) := by decide +kernel
theorem dX7_treadle_11 : decode cX7_treadle 11 = .ok (.iload_n 2, 1) := by decide +kernel
theorem dX7_treadle_12 : decode cX7_treadle 12 = .ok (.lookupswitch 47 #[(0, 28), (1, 38)], 28) := by decide +kernel
theorem dX7_treadle_40 : decode cX7_treadle 40 = .ok (.aload_n 0, 1) := by decide +kernel
theorem dX7_treadle_41 : decode cX7_treadle 41 = .ok (.getfield 10, 3) := by decide +kernel
theorem dX7_treadle_44 : decode cX7_treadle 44 = .ok (.getfield 70, 3) := by decide +kernel
theorem dX7_treadle_47 : decode cX7_treadle 47 = .ok (.iload_n 1, 1) := by decide +kernel
theorem dX7_treadle_48 : decode cX7_treadle 48 = .ok (.iaload, 1) := by decide +kernel
theorem dX7_treadle_49 : decode cX7_treadle 49 = .ok (.ireturn, 1) := by decide +kernel
theorem dX7_treadle_50 : decode cX7_treadle 50 = .ok (.aload_n 0, 1) := by decide +kernel
theorem dX7_treadle_51 : decode cX7_treadle 51 = .ok (.getfield 10, 3) := by decide +kernel
theorem dX7_treadle_54 : decode cX7_treadle 54 = .ok (.iload_n 1, 1) := by decide +kernel
theorem dX7_treadle_55 : decode cX7_treadle 55 = .ok (.invokevirtual 74, 3) := by decide +kernel
theorem dX7_treadle_58 : decode cX7_treadle 58 = .ok (.ireturn, 1) := by decide +kernel
theorem dX7_treadle_59 : decode cX7_treadle 59 = .ok (.bipush (-2), 2) := by decide +kernel
theorem dX7_treadle_61 : decode cX7_treadle 61 = .ok (.ireturn, 1) := by decide +kernel
set_option maxRecDepth 20000 in
theorem ggX7_draft_X1_draftAt : GoodIn wsX7_draft wsX1_draftAt := goodIn_r _ [8, 9, 10, 11, 12, 102, 103, 104, 105, 106, 107, 108] (by decide +kernel) (by decide +kernel)
set_option maxRecDepth 20000 in
theorem gX7_draft_X1_draftAt : GoodIn wsX7_draft (wsV RX7 83 RX1 yX1_draftAt wsX1_draftAt) := goodIn_app (goodIn_of _ (by decide +kernel)) ggX7_draft_X1_draftAt
set_option maxRecDepth 20000 in
theorem ggX7_draft_X1_wayOf : GoodIn wsX7_draft wsX1_wayOf := goodIn_r _ [16, 17, 18, 19, 5, 6, 7, 8, 9, 10, 11, 12, 20, 21, 22, 23, 24, 25, 26, 27, 28, 29, 30, 31, 32, 33, 34, 35, 36, 37, 38, 39, 40, 41, 42, 43, 44, 45, 46, 47, 48, 49, 50, 51, 52, 53, 54, 55, 56, 57, 58, 59, 60, 61, 62, 100, 101, 102, 103, 104, 105, 106, 107, 108] (by decide +kernel) (by decide +kernel)
set_option maxRecDepth 20000 in
theorem gX7_draft_X1_wayOf : GoodIn wsX7_draft (wsV RX7 109 RX1 yX1_wayOf wsX1_wayOf) := goodIn_app (goodIn_of _ (by decide +kernel)) ggX7_draft_X1_wayOf
set_option maxRecDepth 20000 in
theorem ggX7_draft_X6_timesUntilAgain : GoodIn wsX7_draft wsX6_timesUntilAgain := goodIn_r _ [65, 55, 56, 38, 57, 58, 37, 39] (by decide +kernel) (by decide +kernel)
set_option maxRecDepth 20000 in
theorem gX7_draft_X6_timesUntilAgain : GoodIn wsX7_draft (va_wsS RX7 145 yX6_timesUntilAgain wsX6_timesUntilAgain) := goodIn_app (goodIn_of _ (by decide +kernel)) ggX7_draft_X6_timesUntilAgain
set_option maxRecDepth 20000 in
theorem ggX7_draft_X6_alikePlaces : GoodIn wsX7_draft wsX6_alikePlaces := goodIn_r _ [68, 62, 37, 38, 39] (by decide +kernel) (by decide +kernel)
set_option maxRecDepth 20000 in
theorem gX7_draft_X6_alikePlaces : GoodIn wsX7_draft (va_wsS RX7 149 yX6_alikePlaces wsX6_alikePlaces) := goodIn_app (goodIn_of _ (by decide +kernel)) ggX7_draft_X6_alikePlaces
set_option maxRecDepth 20000 in
theorem ggX7_draft_X6_cycles : GoodIn wsX7_draft wsX6_cycles := goodIn_r _ [71, 72, 73, 44, 74, 62, 37, 38, 39] (by decide +kernel) (by decide +kernel)
set_option maxRecDepth 20000 in
theorem gX7_draft_X6_cycles : GoodIn wsX7_draft (va_wsS RX7 152 yX6_cycles wsX6_cycles) := goodIn_app (goodIn_of _ (by decide +kernel)) ggX7_draft_X6_cycles
set_option maxRecDepth 20000 in
theorem ggX7_draft_X6_longestCycle : GoodIn wsX7_draft wsX6_longestCycle := goodIn_r _ [77, 72, 73, 44, 74, 62, 37, 38, 39, 78, 79, 80, 81, 82, 83, 84] (by decide +kernel) (by decide +kernel)
set_option maxRecDepth 20000 in
theorem gX7_draft_X6_longestCycle : GoodIn wsX7_draft (va_wsS RX7 155 yX6_longestCycle wsX6_longestCycle) := goodIn_app (goodIn_of _ (by decide +kernel)) ggX7_draft_X6_longestCycle
set_option maxRecDepth 20000 in
theorem ggX7_draft_X6_crossings : GoodIn wsX7_draft wsX6_crossings := goodIn_r _ [87, 62, 37, 38, 39] (by decide +kernel) (by decide +kernel)
set_option maxRecDepth 20000 in
theorem gX7_draft_X6_crossings : GoodIn wsX7_draft (va_wsS RX7 158 yX6_crossings wsX6_crossings) := goodIn_app (goodIn_of _ (by decide +kernel)) ggX7_draft_X6_crossings
set_option maxRecDepth 20000 in
theorem ggX7_draft_X1_coloursByPlace : GoodIn wsX7_draft wsX1_coloursByPlace := goodIn_r _ [91, 92, 93, 59, 60, 44, 61, 62, 37, 38, 39, 102, 103, 104, 105, 106, 107, 108] (by decide +kernel) (by decide +kernel)
set_option maxRecDepth 20000 in
theorem gX7_draft_X1_coloursByPlace : GoodIn wsX7_draft (wsV RX7 136 RX1 yX1_coloursByPlace wsX1_coloursByPlace) := goodIn_app (goodIn_of _ (by decide +kernel)) ggX7_draft_X1_coloursByPlace
theorem dX7_draft_0 : decode cX7_draft 0 = .ok (.aload_n 0, 1) := by decide +kernel
theorem dX7_draft_1 : decode cX7_draft 1 = .ok (.getfield 10, 3) := by decide +kernel
theorem dX7_draft_4 : decode cX7_draft 4 = .ok (.iload_n 1, 1) := by decide +kernel
theorem dX7_draft_5 : decode cX7_draft 5 = .ok (.invokevirtual 83, 3) := by decide +kernel
theorem dX7_draft_8 : decode cX7_draft 8 = .ok (.astore_n 3, 1) := by decide +kernel
theorem dX7_draft_9 : decode cX7_draft 9 = .ok (.aload_n 3, 1) := by decide +kernel
theorem dX7_draft_10 : decode cX7_draft 10 = .ok (.ifnonnull 5, 3) := by decide +kernel
theorem dX7_draft_13 : decode cX7_draft 13 = .ok (.iconst (-1), 1) := by decide +kernel
theorem dX7_draft_14 : decode cX7_draft 14 = .ok (.ireturn, 1) := by decide +kernel
theorem dX7_draft_15 : decode cX7_draft 15 = .ok (.aload_n 0, 1) := by decide +kernel
theorem dX7_draft_16 : decode cX7_draft 16 = .ok (.getfield 10, 3) := by decide +kernel
theorem dX7_draft_19 : decode cX7_draft 19 = .ok (.iload_n 1, 1) := by decide +kernel
theorem dX7_draft_20 : decode cX7_draft 20 = .ok (.invokevirtual 109, 3) := by decide +kernel
theorem dX7_draft_23 : decode cX7_draft 23 = .ok (.lstore 4, 2) := by decide +kernel
theorem dX7_draft_25 : decode cX7_draft 25 = .ok (.iload_n 2, 1) := by decide +kernel
theorem dX7_draft_26 : decode cX7_draft 26 = .ok (.tableswitch 96 0 6 #[42, 47, 56, 65, 71, 77, 83], 42) := by decide +kernel
theorem dX7_draft_68 : decode cX7_draft 68 = .ok (.aload_n 3, 1) := by decide +kernel
theorem dX7_draft_69 : decode cX7_draft 69 = .ok (.getfield 99, 3) := by decide +kernel
theorem dX7_draft_72 : decode cX7_draft 72 = .ok (.ireturn, 1) := by decide +kernel
theorem dX7_draft_73 : decode cX7_draft 73 = .ok (.lload 4, 2) := by decide +kernel
theorem dX7_draft_75 : decode cX7_draft 75 = .ok (.ldc2_w 143, 3) := by decide +kernel
theorem dX7_draft_78 : decode cX7_draft 78 = .ok (.invokestatic 145, 3) := by decide +kernel
theorem dX7_draft_81 : decode cX7_draft 81 = .ok (.ireturn, 1) := by decide +kernel
theorem dX7_draft_82 : decode cX7_draft 82 = .ok (.lload 4, 2) := by decide +kernel
theorem dX7_draft_84 : decode cX7_draft 84 = .ok (.ldc2_w 143, 3) := by decide +kernel
theorem dX7_draft_87 : decode cX7_draft 87 = .ok (.invokestatic 149, 3) := by decide +kernel
theorem dX7_draft_90 : decode cX7_draft 90 = .ok (.ireturn, 1) := by decide +kernel
theorem dX7_draft_91 : decode cX7_draft 91 = .ok (.lload 4, 2) := by decide +kernel
theorem dX7_draft_93 : decode cX7_draft 93 = .ok (.invokestatic 152, 3) := by decide +kernel
theorem dX7_draft_96 : decode cX7_draft 96 = .ok (.ireturn, 1) := by decide +kernel
theorem dX7_draft_97 : decode cX7_draft 97 = .ok (.lload 4, 2) := by decide +kernel
theorem dX7_draft_99 : decode cX7_draft 99 = .ok (.invokestatic 155, 3) := by decide +kernel
theorem dX7_draft_102 : decode cX7_draft 102 = .ok (.ireturn, 1) := by decide +kernel
theorem dX7_draft_103 : decode cX7_draft 103 = .ok (.lload 4, 2) := by decide +kernel
theorem dX7_draft_105 : decode cX7_draft 105 = .ok (.invokestatic 158, 3) := by decide +kernel
theorem dX7_draft_108 : decode cX7_draft 108 = .ok (.ireturn, 1) := by decide +kernel
theorem dX7_draft_109 : decode cX7_draft 109 = .ok (.lload 4, 2) := by decide +kernel
theorem dX7_draft_111 : decode cX7_draft 111 = .ok (.aload_n 0, 1) := by decide +kernel
theorem dX7_draft_112 : decode cX7_draft 112 = .ok (.getfield 10, 3) := by decide +kernel
theorem dX7_draft_115 : decode cX7_draft 115 = .ok (.invokevirtual 136, 3) := by decide +kernel
theorem dX7_draft_118 : decode cX7_draft 118 = .ok (.invokestatic 145, 3) := by decide +kernel
theorem dX7_draft_121 : decode cX7_draft 121 = .ok (.ireturn, 1) := by decide +kernel
theorem dX7_draft_122 : decode cX7_draft 122 = .ok (.bipush (-2), 2) := by decide +kernel
theorem dX7_draft_124 : decode cX7_draft 124 = .ok (.ireturn, 1) := by decide +kernel
set_option maxRecDepth 20000 in
theorem ggX7_press_X1_draftAt : GoodIn wsX7_press wsX1_draftAt := goodIn_r _ [7, 8, 9, 10, 11, 27, 28, 29, 30, 31, 32, 33] (by decide +kernel) (by decide +kernel)
set_option maxRecDepth 20000 in
theorem gX7_press_X1_draftAt : GoodIn wsX7_press (wsV RX7 83 RX1 yX1_draftAt wsX1_draftAt) := goodIn_app (goodIn_of _ (by decide +kernel)) ggX7_press_X1_draftAt
set_option maxRecDepth 20000 in
theorem ggX7_press_X7_isBelow : GoodIn wsX7_press wsX7_isBelow := goodIn_r _ [11] (by decide +kernel) (by decide +kernel)
set_option maxRecDepth 20000 in
theorem gX7_press_X7_isBelow : GoodIn wsX7_press (va_wsS RX7 48 yX7_isBelow wsX7_isBelow) := goodIn_app (goodIn_of _ (by decide +kernel)) ggX7_press_X7_isBelow
set_option maxRecDepth 20000 in
theorem ggX7_press_X0_pressAt : GoodIn wsX7_press wsX0_pressAt := goodIn_r _ [17, 18, 9, 10, 11, 25, 26] (by decide +kernel) (by decide +kernel)
set_option maxRecDepth 20000 in
theorem gX7_press_X0_pressAt : GoodIn wsX7_press (wsV RX7 161 RX0 yX0_pressAt wsX0_pressAt) := goodIn_app (goodIn_of _ (by decide +kernel)) ggX7_press_X0_pressAt
theorem dX7_press_0 : decode cX7_press 0 = .ok (.aload_n 0, 1) := by decide +kernel
theorem dX7_press_1 : decode cX7_press 1 = .ok (.getfield 10, 3) := by decide +kernel
theorem dX7_press_4 : decode cX7_press 4 = .ok (.iload_n 1, 1) := by decide +kernel
theorem dX7_press_5 : decode cX7_press 5 = .ok (.invokevirtual 83, 3) := by decide +kernel
theorem dX7_press_8 : decode cX7_press 8 = .ok (.astore_n 3, 1) := by decide +kernel
theorem dX7_press_9 : decode cX7_press 9 = .ok (.aload_n 3, 1) := by decide +kernel
theorem dX7_press_10 : decode cX7_press 10 = .ok (.ifnull 14, 3) := by decide +kernel
theorem dX7_press_13 : decode cX7_press 13 = .ok (.iload_n 2, 1) := by decide +kernel
theorem dX7_press_14 : decode cX7_press 14 = .ok (.aload_n 3, 1) := by decide +kernel
theorem dX7_press_15 : decode cX7_press 15 = .ok (.getfield 99, 3) := by decide +kernel
theorem dX7_press_18 : decode cX7_press 18 = .ok (.invokestatic 48, 3) := by decide +kernel
theorem dX7_press_21 : decode cX7_press 21 = .ok (.ifCond .ne 5, 3) := by decide +kernel
theorem dX7_press_24 : decode cX7_press 24 = .ok (.iconst (-1), 1) := by decide +kernel
theorem dX7_press_25 : decode cX7_press 25 = .ok (.ireturn, 1) := by decide +kernel
theorem dX7_press_26 : decode cX7_press 26 = .ok (.aload_n 3, 1) := by decide +kernel
theorem dX7_press_27 : decode cX7_press 27 = .ok (.iload_n 2, 1) := by decide +kernel
theorem dX7_press_28 : decode cX7_press 28 = .ok (.invokevirtual 161, 3) := by decide +kernel
theorem dX7_press_31 : decode cX7_press 31 = .ok (.ireturn, 1) := by decide +kernel
set_option maxRecDepth 20000 in
theorem ggX7_comesTo_X7_isBelow : GoodIn wsX7_comesTo wsX7_isBelow := goodIn_r _ [6] (by decide +kernel) (by decide +kernel)
set_option maxRecDepth 20000 in
theorem gX7_comesTo_X7_isBelow : GoodIn wsX7_comesTo (va_wsS RX7 48 yX7_isBelow wsX7_isBelow) := goodIn_app (goodIn_of _ (by decide +kernel)) ggX7_comesTo_X7_isBelow
set_option maxRecDepth 20000 in
theorem ggX7_comesTo_X1_wayOf : GoodIn wsX7_comesTo wsX1_wayOf := goodIn_r _ [11, 12, 13, 14, 15, 16, 10, 17, 18, 4, 5, 6, 19, 20, 21, 22, 23, 24, 25, 26, 27, 28, 29, 30, 31, 32, 33, 34, 35, 36, 37, 38, 39, 40, 41, 42, 43, 44, 45, 46, 47, 48, 49, 50, 51, 52, 53, 54, 55, 56, 57, 58, 59, 60, 61, 73, 74, 75, 76, 77, 78, 79, 80, 81] (by decide +kernel) (by decide +kernel)
set_option maxRecDepth 20000 in
theorem gX7_comesTo_X1_wayOf : GoodIn wsX7_comesTo (wsV RX7 109 RX1 yX1_wayOf wsX1_wayOf) := goodIn_app (goodIn_of _ (by decide +kernel)) ggX7_comesTo_X1_wayOf
set_option maxRecDepth 20000 in
theorem ggX7_comesTo_X6_power : GoodIn wsX7_comesTo wsX6_power := goodIn_r _ [64, 45, 65, 59, 43, 60, 61, 36, 37, 38] (by decide +kernel) (by decide +kernel)
set_option maxRecDepth 20000 in
theorem gX7_comesTo_X6_power : GoodIn wsX7_comesTo (va_wsS RX7 113 yX6_power wsX6_power) := goodIn_app (goodIn_of _ (by decide +kernel)) ggX7_comesTo_X6_power
set_option maxRecDepth 20000 in
theorem ggX7_comesTo_X4_at : GoodIn wsX7_comesTo wsX4_at := goodIn_r _ [38] (by decide +kernel) (by decide +kernel)
set_option maxRecDepth 20000 in
theorem gX7_comesTo_X4_at : GoodIn wsX7_comesTo (va_wsS RX7 60 yX4_at wsX4_at) := goodIn_app (goodIn_of _ (by decide +kernel)) ggX7_comesTo_X4_at
theorem dX7_comesTo_0 : decode cX7_comesTo 0 = .ok (.iload_n 1, 1) := by decide +kernel
theorem dX7_comesTo_1 : decode cX7_comesTo 1 = .ok (.bipush 6, 2) := by decide +kernel
theorem dX7_comesTo_3 : decode cX7_comesTo 3 = .ok (.invokestatic 48, 3) := by decide +kernel
theorem dX7_comesTo_6 : decode cX7_comesTo 6 = .ok (.ifCond .eq 12, 3) := by decide +kernel
theorem dX7_comesTo_9 : decode cX7_comesTo 9 = .ok (.iload_n 2, 1) := by decide +kernel
theorem dX7_comesTo_10 : decode cX7_comesTo 10 = .ok (.bipush 12, 2) := by decide +kernel
theorem dX7_comesTo_12 : decode cX7_comesTo 12 = .ok (.invokestatic 48, 3) := by decide +kernel
theorem dX7_comesTo_15 : decode cX7_comesTo 15 = .ok (.ifCond .ne 5, 3) := by decide +kernel
theorem dX7_comesTo_18 : decode cX7_comesTo 18 = .ok (.iconst (-1), 1) := by decide +kernel
theorem dX7_comesTo_19 : decode cX7_comesTo 19 = .ok (.ireturn, 1) := by decide +kernel
theorem dX7_comesTo_20 : decode cX7_comesTo 20 = .ok (.iload_n 3, 1) := by decide +kernel
theorem dX7_comesTo_21 : decode cX7_comesTo 21 = .ok (.ifCond .lt 9, 3) := by decide +kernel
theorem dX7_comesTo_24 : decode cX7_comesTo 24 = .ok (.iload_n 3, 1) := by decide +kernel
theorem dX7_comesTo_25 : decode cX7_comesTo 25 = .ok (.ldc 164, 2) := by decide +kernel
theorem dX7_comesTo_27 : decode cX7_comesTo 27 = .ok (.if_icmp .le 6, 3) := by decide +kernel
theorem dX7_comesTo_30 : decode cX7_comesTo 30 = .ok (.bipush (-2), 2) := by decide +kernel
theorem dX7_comesTo_32 : decode cX7_comesTo 32 = .ok (.ireturn, 1) := by decide +kernel
theorem dX7_comesTo_33 : decode cX7_comesTo 33 = .ok (.aload_n 0, 1) := by decide +kernel
theorem dX7_comesTo_34 : decode cX7_comesTo 34 = .ok (.getfield 10, 3) := by decide +kernel
theorem dX7_comesTo_37 : decode cX7_comesTo 37 = .ok (.iload_n 1, 1) := by decide +kernel
theorem dX7_comesTo_38 : decode cX7_comesTo 38 = .ok (.invokevirtual 109, 3) := by decide +kernel
theorem dX7_comesTo_41 : decode cX7_comesTo 41 = .ok (.iload_n 3, 1) := by decide +kernel
theorem dX7_comesTo_42 : decode cX7_comesTo 42 = .ok (.invokestatic 113, 3) := by decide +kernel
theorem dX7_comesTo_45 : decode cX7_comesTo 45 = .ok (.iload_n 2, 1) := by decide +kernel
theorem dX7_comesTo_46 : decode cX7_comesTo 46 = .ok (.invokestatic 60, 3) := by decide +kernel
theorem dX7_comesTo_49 : decode cX7_comesTo 49 = .ok (.ireturn, 1) := by decide +kernel
set_option maxRecDepth 20000 in
theorem ggX7_count_X6_staying : GoodIn wsX7_count wsX6_staying := goodIn_r _ [12, 13, 14, 15, 11, 16, 17, 18, 19, 20, 21, 22, 23, 24, 25, 26, 27] (by decide +kernel) (by decide +kernel)
set_option maxRecDepth 20000 in
theorem gX7_count_X6_staying : GoodIn wsX7_count (va_wsS RX7 129 yX6_staying wsX6_staying) := goodIn_app (goodIn_of _ (by decide +kernel)) ggX7_count_X6_staying
set_option maxRecDepth 20000 in
theorem ggX7_count_X1_neverRaised : GoodIn wsX7_count wsX1_neverRaised := goodIn_r _ [32, 33, 34, 35, 31, 36, 37, 38, 39, 40, 41, 42, 18, 19, 20, 43, 44, 57, 58, 59, 60, 61, 62, 63] (by decide +kernel) (by decide +kernel)
set_option maxRecDepth 20000 in
theorem gX7_count_X1_neverRaised : GoodIn wsX7_count (wsV RX7 165 RX1 yX1_neverRaised wsX1_neverRaised) := goodIn_app (goodIn_of _ (by decide +kernel)) ggX7_count_X1_neverRaised
set_option maxRecDepth 20000 in
theorem ggX7_count_X1_draftsWithPresses : GoodIn wsX7_count wsX1_draftsWithPresses := goodIn_r _ [48, 49, 50, 57, 58, 59, 60, 61, 62, 63, 68, 69] (by decide +kernel) (by decide +kernel)
set_option maxRecDepth 20000 in
theorem gX7_count_X1_draftsWithPresses : GoodIn wsX7_count (wsV RX7 169 RX1 yX1_draftsWithPresses wsX1_draftsWithPresses) := goodIn_app (goodIn_of _ (by decide +kernel)) ggX7_count_X1_draftsWithPresses
theorem dX7_count_0 : decode cX7_count 0 = .ok (.iload_n 1, 1) := by decide +kernel
theorem dX7_count_1 : decode cX7_count 1 = .ok (.tableswitch 102 0 6 #[43, 54, 62, 70, 78, 86, 94], 43) := by decide +kernel
theorem dX7_count_44 : decode cX7_count 44 = .ok (.aload_n 0, 1) := by decide +kernel
theorem dX7_count_45 : decode cX7_count 45 = .ok (.getfield 10, 3) := by decide +kernel
theorem dX7_count_48 : decode cX7_count 48 = .ok (.getfield 106, 3) := by decide +kernel
theorem dX7_count_51 : decode cX7_count 51 = .ok (.invokestatic 129, 3) := by decide +kernel
theorem dX7_count_54 : decode cX7_count 54 = .ok (.ireturn, 1) := by decide +kernel
theorem dX7_count_55 : decode cX7_count 55 = .ok (.aload_n 0, 1) := by decide +kernel
theorem dX7_count_56 : decode cX7_count 56 = .ok (.getfield 10, 3) := by decide +kernel
theorem dX7_count_59 : decode cX7_count 59 = .ok (.getfield 123, 3) := by decide +kernel
theorem dX7_count_62 : decode cX7_count 62 = .ok (.ireturn, 1) := by decide +kernel
theorem dX7_count_63 : decode cX7_count 63 = .ok (.aload_n 0, 1) := by decide +kernel
theorem dX7_count_64 : decode cX7_count 64 = .ok (.getfield 10, 3) := by decide +kernel
theorem dX7_count_67 : decode cX7_count 67 = .ok (.getfield 126, 3) := by decide +kernel
theorem dX7_count_70 : decode cX7_count 70 = .ok (.ireturn, 1) := by decide +kernel
theorem dX7_count_71 : decode cX7_count 71 = .ok (.aload_n 0, 1) := by decide +kernel
theorem dX7_count_72 : decode cX7_count 72 = .ok (.getfield 10, 3) := by decide +kernel
theorem dX7_count_75 : decode cX7_count 75 = .ok (.invokevirtual 165, 3) := by decide +kernel
theorem dX7_count_78 : decode cX7_count 78 = .ok (.ireturn, 1) := by decide +kernel
theorem dX7_count_79 : decode cX7_count 79 = .ok (.aload_n 0, 1) := by decide +kernel
theorem dX7_count_80 : decode cX7_count 80 = .ok (.getfield 10, 3) := by decide +kernel
theorem dX7_count_83 : decode cX7_count 83 = .ok (.invokevirtual 169, 3) := by decide +kernel
theorem dX7_count_86 : decode cX7_count 86 = .ok (.ireturn, 1) := by decide +kernel
theorem dX7_count_87 : decode cX7_count 87 = .ok (.aload_n 0, 1) := by decide +kernel
theorem dX7_count_88 : decode cX7_count 88 = .ok (.getfield 30, 3) := by decide +kernel
theorem dX7_count_91 : decode cX7_count 91 = .ok (.getfield 95, 3) := by decide +kernel
theorem dX7_count_94 : decode cX7_count 94 = .ok (.ireturn, 1) := by decide +kernel
theorem dX7_count_95 : decode cX7_count 95 = .ok (.aload_n 0, 1) := by decide +kernel
theorem dX7_count_96 : decode cX7_count 96 = .ok (.getfield 19, 3) := by decide +kernel
theorem dX7_count_99 : decode cX7_count 99 = .ok (.getfield 172, 3) := by decide +kernel
theorem dX7_count_102 : decode cX7_count 102 = .ok (.ireturn, 1) := by decide +kernel
theorem dX7_count_103 : decode cX7_count 103 = .ok (.bipush (-2), 2) := by decide +kernel
theorem dX7_count_105 : decode cX7_count 105 = .ok (.ireturn, 1) := by decide +kernel
set_option maxRecDepth 20000 in
theorem ggX7_kernel_X7_isBelow : GoodIn wsX7_kernel wsX7_isBelow := goodIn_r _ [6] (by decide +kernel) (by decide +kernel)
set_option maxRecDepth 20000 in
theorem gX7_kernel_X7_isBelow : GoodIn wsX7_kernel (va_wsS RX7 48 yX7_isBelow wsX7_isBelow) := goodIn_app (goodIn_of _ (by decide +kernel)) ggX7_kernel_X7_isBelow
set_option maxRecDepth 20000 in
theorem ggX7_kernel_X7_hasBit : GoodIn wsX7_kernel wsX7_hasBit := goodIn_r _ [9] (by decide +kernel) (by decide +kernel)
set_option maxRecDepth 20000 in
theorem gX7_kernel_X7_hasBit : GoodIn wsX7_kernel (va_wsS RX7 173 yX7_hasBit wsX7_hasBit) := goodIn_app (goodIn_of _ (by decide +kernel)) ggX7_kernel_X7_hasBit
set_option maxRecDepth 20000 in
theorem ggX7_kernel_X1_wayOf : GoodIn wsX7_kernel wsX1_wayOf := goodIn_r _ [14, 15, 16, 17, 18, 19, 13, 20, 21, 4, 5, 6, 22, 23, 24, 25, 26, 27, 28, 29, 30, 31, 32, 33, 34, 35, 36, 37, 38, 39, 40, 41, 8, 9, 42, 43, 44, 45, 46, 47, 48, 49, 50, 51, 52, 53, 54, 55, 56, 57, 58, 59, 60, 61, 62, 72, 73, 74, 75, 76, 77, 78, 79, 80] (by decide +kernel) (by decide +kernel)
set_option maxRecDepth 20000 in
theorem gX7_kernel_X1_wayOf : GoodIn wsX7_kernel (wsV RX7 109 RX1 yX1_wayOf wsX1_wayOf) := goodIn_app (goodIn_of _ (by decide +kernel)) ggX7_kernel_X1_wayOf
set_option maxRecDepth 20000 in
theorem ggX7_kernel_X6_alikePlaces : GoodIn wsX7_kernel wsX6_alikePlaces := goodIn_r _ [65, 62, 39, 40, 41] (by decide +kernel) (by decide +kernel)
set_option maxRecDepth 20000 in
theorem gX7_kernel_X6_alikePlaces : GoodIn wsX7_kernel (va_wsS RX7 149 yX6_alikePlaces wsX6_alikePlaces) := goodIn_app (goodIn_of _ (by decide +kernel)) ggX7_kernel_X6_alikePlaces
theorem dX7_kernel_0 : decode cX7_kernel 0 = .ok (.iload_n 1, 1) := by decide +kernel
theorem dX7_kernel_1 : decode cX7_kernel 1 = .ok (.bipush 64, 2) := by decide +kernel
theorem dX7_kernel_3 : decode cX7_kernel 3 = .ok (.invokestatic 48, 3) := by decide +kernel
theorem dX7_kernel_6 : decode cX7_kernel 6 = .ok (.ifCond .ne 6, 3) := by decide +kernel
theorem dX7_kernel_9 : decode cX7_kernel 9 = .ok (.bipush (-2), 2) := by decide +kernel
theorem dX7_kernel_11 : decode cX7_kernel 11 = .ok (.ireturn, 1) := by decide +kernel
theorem dX7_kernel_12 : decode cX7_kernel 12 = .ok (.sipush 4095, 3) := by decide +kernel
theorem dX7_kernel_15 : decode cX7_kernel 15 = .ok (.istore_n 2, 1) := by decide +kernel
theorem dX7_kernel_16 : decode cX7_kernel 16 = .ok (.iconst 0, 1) := by decide +kernel
theorem dX7_kernel_17 : decode cX7_kernel 17 = .ok (.istore_n 3, 1) := by decide +kernel
theorem dX7_kernel_18 : decode cX7_kernel 18 = .ok (.iload_n 3, 1) := by decide +kernel
theorem dX7_kernel_19 : decode cX7_kernel 19 = .ok (.bipush 6, 2) := by decide +kernel
theorem dX7_kernel_21 : decode cX7_kernel 21 = .ok (.if_icmp .ge 34, 3) := by decide +kernel
theorem dX7_kernel_24 : decode cX7_kernel 24 = .ok (.iload_n 1, 1) := by decide +kernel
theorem dX7_kernel_25 : decode cX7_kernel 25 = .ok (.iload_n 3, 1) := by decide +kernel
theorem dX7_kernel_26 : decode cX7_kernel 26 = .ok (.invokestatic 173, 3) := by decide +kernel
theorem dX7_kernel_29 : decode cX7_kernel 29 = .ok (.ifCond .eq 20, 3) := by decide +kernel
theorem dX7_kernel_32 : decode cX7_kernel 32 = .ok (.iload_n 2, 1) := by decide +kernel
theorem dX7_kernel_33 : decode cX7_kernel 33 = .ok (.aload_n 0, 1) := by decide +kernel
theorem dX7_kernel_34 : decode cX7_kernel 34 = .ok (.getfield 10, 3) := by decide +kernel
theorem dX7_kernel_37 : decode cX7_kernel 37 = .ok (.iload_n 3, 1) := by decide +kernel
theorem dX7_kernel_38 : decode cX7_kernel 38 = .ok (.invokevirtual 109, 3) := by decide +kernel
theorem dX7_kernel_41 : decode cX7_kernel 41 = .ok (.ldc2_w 143, 3) := by decide +kernel
theorem dX7_kernel_44 : decode cX7_kernel 44 = .ok (.invokestatic 149, 3) := by decide +kernel
theorem dX7_kernel_47 : decode cX7_kernel 47 = .ok (.iand, 1) := by decide +kernel
theorem dX7_kernel_48 : decode cX7_kernel 48 = .ok (.istore_n 2, 1) := by decide +kernel
theorem dX7_kernel_49 : decode cX7_kernel 49 = .ok (.iinc 3 1, 3) := by decide +kernel
theorem dX7_kernel_52 : decode cX7_kernel 52 = .ok (.goto (-34), 3) := by decide +kernel
theorem dX7_kernel_55 : decode cX7_kernel 55 = .ok (.iload_n 2, 1) := by decide +kernel
theorem dX7_kernel_56 : decode cX7_kernel 56 = .ok (.ireturn, 1) := by decide +kernel
set_option maxRecDepth 20000 in
theorem ggX7_orbit_X7_isBelow : GoodIn wsX7_orbit wsX7_isBelow := goodIn_r _ [5] (by decide +kernel) (by decide +kernel)
set_option maxRecDepth 20000 in
theorem gX7_orbit_X7_isBelow : GoodIn wsX7_orbit (va_wsS RX7 48 yX7_isBelow wsX7_isBelow) := goodIn_app (goodIn_of _ (by decide +kernel)) ggX7_orbit_X7_isBelow
set_option maxRecDepth 20000 in
theorem ggX7_orbit_X7_gatherWays : GoodIn wsX7_orbit wsX7_gatherWays := goodIn_r _ [9, 1, 10, 11, 12, 13, 4, 14, 15, 16, 17, 18, 19, 20, 21, 22, 23, 24, 25, 26, 3, 5, 27, 28, 29, 30, 31, 32, 33, 34, 35, 36, 37, 38, 39, 40, 41, 42, 43, 44, 45, 46, 47, 48, 49, 50, 51, 52, 53, 54, 55, 56, 57, 58, 59, 60, 61, 62, 63, 64, 65, 66, 67, 68, 69, 70, 71, 72, 73, 74, 83, 84, 85, 86, 87, 88, 89, 90, 91, 92, 93, 94, 95, 96, 97, 98, 99, 100, 101, 102] (by decide +kernel) (by decide +kernel)
set_option maxRecDepth 20000 in
theorem gX7_orbit_X7_gatherWays : GoodIn wsX7_orbit (wsV RX7 176 RX7 yX7_gatherWays wsX7_gatherWays) := goodIn_app (goodIn_of _ (by decide +kernel)) ggX7_orbit_X7_gatherWays
set_option maxRecDepth 20000 in
theorem ggX7_orbit_X5_placesFrom : GoodIn wsX7_orbit wsX5_placesFrom := goodIn_r _ [78, 73, 74, 79, 80, 71, 81, 13, 4, 14, 82, 44, 45, 46, 89, 90, 91, 92, 93] (by decide +kernel) (by decide +kernel)
set_option maxRecDepth 20000 in
theorem gX7_orbit_X5_placesFrom : GoodIn wsX7_orbit (wsV RX7 180 RX5 yX5_placesFrom wsX5_placesFrom) := goodIn_app (goodIn_of _ (by decide +kernel)) ggX7_orbit_X5_placesFrom
theorem dX7_orbit_0 : decode cX7_orbit 0 = .ok (.iload_n 2, 1) := by decide +kernel
theorem dX7_orbit_1 : decode cX7_orbit 1 = .ok (.bipush 12, 2) := by decide +kernel
theorem dX7_orbit_3 : decode cX7_orbit 3 = .ok (.invokestatic 48, 3) := by decide +kernel
theorem dX7_orbit_6 : decode cX7_orbit 6 = .ok (.ifCond .ne 5, 3) := by decide +kernel
theorem dX7_orbit_9 : decode cX7_orbit 9 = .ok (.iconst (-1), 1) := by decide +kernel
theorem dX7_orbit_10 : decode cX7_orbit 10 = .ok (.ireturn, 1) := by decide +kernel
theorem dX7_orbit_11 : decode cX7_orbit 11 = .ok (.iload_n 1, 1) := by decide +kernel
theorem dX7_orbit_12 : decode cX7_orbit 12 = .ok (.bipush 64, 2) := by decide +kernel
theorem dX7_orbit_14 : decode cX7_orbit 14 = .ok (.invokestatic 48, 3) := by decide +kernel
theorem dX7_orbit_17 : decode cX7_orbit 17 = .ok (.ifCond .ne 6, 3) := by decide +kernel
theorem dX7_orbit_20 : decode cX7_orbit 20 = .ok (.bipush (-2), 2) := by decide +kernel
theorem dX7_orbit_22 : decode cX7_orbit 22 = .ok (.ireturn, 1) := by decide +kernel
theorem dX7_orbit_23 : decode cX7_orbit 23 = .ok (.aload_n 0, 1) := by decide +kernel
theorem dX7_orbit_24 : decode cX7_orbit 24 = .ok (.iload_n 1, 1) := by decide +kernel
theorem dX7_orbit_25 : decode cX7_orbit 25 = .ok (.invokevirtual 176, 3) := by decide +kernel
theorem dX7_orbit_28 : decode cX7_orbit 28 = .ok (.aload_n 0, 1) := by decide +kernel
theorem dX7_orbit_29 : decode cX7_orbit 29 = .ok (.getfield 37, 3) := by decide +kernel
theorem dX7_orbit_32 : decode cX7_orbit 32 = .ok (.iload_n 2, 1) := by decide +kernel
theorem dX7_orbit_33 : decode cX7_orbit 33 = .ok (.invokevirtual 180, 3) := by decide +kernel
theorem dX7_orbit_36 : decode cX7_orbit 36 = .ok (.ireturn, 1) := by decide +kernel
set_option maxRecDepth 20000 in
theorem ggX7_pair_X7_isBelow : GoodIn wsX7_pair wsX7_isBelow := goodIn_r _ [6] (by decide +kernel) (by decide +kernel)
set_option maxRecDepth 20000 in
theorem gX7_pair_X7_isBelow : GoodIn wsX7_pair (va_wsS RX7 48 yX7_isBelow wsX7_isBelow) := goodIn_app (goodIn_of _ (by decide +kernel)) ggX7_pair_X7_isBelow
set_option maxRecDepth 20000 in
theorem ggX7_pair_X1_wayOf : GoodIn wsX7_pair wsX1_wayOf := goodIn_r _ [11, 12, 13, 14, 15, 16, 10, 17, 18, 4, 5, 6, 19, 20, 21, 22, 23, 24, 25, 26, 27, 28, 29, 30, 31, 32, 33, 34, 35, 36, 37, 38, 39, 40, 41, 42, 43, 44, 45, 46, 47, 48, 49, 50, 51, 52, 53, 54, 55, 56, 57, 58, 59, 60, 61, 75, 76, 77, 78, 79, 80, 81, 82, 83] (by decide +kernel) (by decide +kernel)
set_option maxRecDepth 20000 in
theorem gX7_pair_X1_wayOf : GoodIn wsX7_pair (wsV RX7 109 RX1 yX1_wayOf wsX1_wayOf) := goodIn_app (goodIn_of _ (by decide +kernel)) ggX7_pair_X1_wayOf
set_option maxRecDepth 20000 in
theorem ggX7_pair_X7_asNumber : GoodIn wsX7_pair wsX7_asNumber := goodIn_r _ [64] (by decide +kernel) (by decide +kernel)
set_option maxRecDepth 20000 in
theorem gX7_pair_X7_asNumber : GoodIn wsX7_pair (va_wsS RX7 183 yX7_asNumber wsX7_asNumber) := goodIn_app (goodIn_of _ (by decide +kernel)) ggX7_pair_X7_asNumber
set_option maxRecDepth 20000 in
theorem ggX7_pair_X6_then : GoodIn wsX7_pair wsX6_then := goodIn_r _ [60, 61, 36, 37, 38] (by decide +kernel) (by decide +kernel)
set_option maxRecDepth 20000 in
theorem gX7_pair_X6_then : GoodIn wsX7_pair (va_wsS RX7 187 yX6_then wsX6_then) := goodIn_app (goodIn_of _ (by decide +kernel)) ggX7_pair_X6_then
set_option maxRecDepth 20000 in
theorem ggX7_pair_X6_alikePlaces : GoodIn wsX7_pair wsX6_alikePlaces := goodIn_r _ [68, 61, 36, 37, 38] (by decide +kernel) (by decide +kernel)
set_option maxRecDepth 20000 in
theorem gX7_pair_X6_alikePlaces : GoodIn wsX7_pair (va_wsS RX7 149 yX6_alikePlaces wsX6_alikePlaces) := goodIn_app (goodIn_of _ (by decide +kernel)) ggX7_pair_X6_alikePlaces
theorem dX7_pair_0 : decode cX7_pair 0 = .ok (.iload_n 1, 1) := by decide +kernel
theorem dX7_pair_1 : decode cX7_pair 1 = .ok (.bipush 6, 2) := by decide +kernel
theorem dX7_pair_3 : decode cX7_pair 3 = .ok (.invokestatic 48, 3) := by decide +kernel
theorem dX7_pair_6 : decode cX7_pair 6 = .ok (.ifCond .eq 12, 3) := by decide +kernel
theorem dX7_pair_9 : decode cX7_pair 9 = .ok (.iload_n 2, 1) := by decide +kernel
theorem dX7_pair_10 : decode cX7_pair 10 = .ok (.bipush 6, 2) := by decide +kernel
theorem dX7_pair_12 : decode cX7_pair 12 = .ok (.invokestatic 48, 3) := by decide +kernel
theorem dX7_pair_15 : decode cX7_pair 15 = .ok (.ifCond .ne 5, 3) := by decide +kernel
theorem dX7_pair_18 : decode cX7_pair 18 = .ok (.iconst (-1), 1) := by decide +kernel
theorem dX7_pair_19 : decode cX7_pair 19 = .ok (.ireturn, 1) := by decide +kernel
theorem dX7_pair_20 : decode cX7_pair 20 = .ok (.aload_n 0, 1) := by decide +kernel
theorem dX7_pair_21 : decode cX7_pair 21 = .ok (.getfield 10, 3) := by decide +kernel
theorem dX7_pair_24 : decode cX7_pair 24 = .ok (.iload_n 1, 1) := by decide +kernel
theorem dX7_pair_25 : decode cX7_pair 25 = .ok (.invokevirtual 109, 3) := by decide +kernel
theorem dX7_pair_28 : decode cX7_pair 28 = .ok (.lstore 4, 2) := by decide +kernel
theorem dX7_pair_30 : decode cX7_pair 30 = .ok (.aload_n 0, 1) := by decide +kernel
theorem dX7_pair_31 : decode cX7_pair 31 = .ok (.getfield 10, 3) := by decide +kernel
theorem dX7_pair_34 : decode cX7_pair 34 = .ok (.iload_n 2, 1) := by decide +kernel
theorem dX7_pair_35 : decode cX7_pair 35 = .ok (.invokevirtual 109, 3) := by decide +kernel
theorem dX7_pair_38 : decode cX7_pair 38 = .ok (.lstore 6, 2) := by decide +kernel
theorem dX7_pair_40 : decode cX7_pair 40 = .ok (.iload_n 3, 1) := by decide +kernel
theorem dX7_pair_41 : decode cX7_pair 41 = .ok (.tableswitch 112 0 3 #[31, 48, 75, 98], 31) := by decide +kernel
theorem dX7_pair_72 : decode cX7_pair 72 = .ok (.lload 4, 2) := by decide +kernel
theorem dX7_pair_74 : decode cX7_pair 74 = .ok (.lload 6, 2) := by decide +kernel
theorem dX7_pair_76 : decode cX7_pair 76 = .ok (.lcmp, 1) := by decide +kernel
theorem dX7_pair_77 : decode cX7_pair 77 = .ok (.ifCond .ne 7, 3) := by decide +kernel
theorem dX7_pair_80 : decode cX7_pair 80 = .ok (.iconst 1, 1) := by decide +kernel
theorem dX7_pair_81 : decode cX7_pair 81 = .ok (.goto 4, 3) := by decide +kernel
theorem dX7_pair_84 : decode cX7_pair 84 = .ok (.iconst 0, 1) := by decide +kernel
theorem dX7_pair_85 : decode cX7_pair 85 = .ok (.invokestatic 183, 3) := by decide +kernel
theorem dX7_pair_88 : decode cX7_pair 88 = .ok (.ireturn, 1) := by decide +kernel
theorem dX7_pair_89 : decode cX7_pair 89 = .ok (.lload 4, 2) := by decide +kernel
theorem dX7_pair_91 : decode cX7_pair 91 = .ok (.lload 6, 2) := by decide +kernel
theorem dX7_pair_93 : decode cX7_pair 93 = .ok (.invokestatic 187, 3) := by decide +kernel
theorem dX7_pair_96 : decode cX7_pair 96 = .ok (.lload 6, 2) := by decide +kernel
theorem dX7_pair_98 : decode cX7_pair 98 = .ok (.lload 4, 2) := by decide +kernel
theorem dX7_pair_100 : decode cX7_pair 100 = .ok (.invokestatic 187, 3) := by decide +kernel
theorem dX7_pair_103 : decode cX7_pair 103 = .ok (.lcmp, 1) := by decide +kernel
theorem dX7_pair_104 : decode cX7_pair 104 = .ok (.ifCond .ne 7, 3) := by decide +kernel
theorem dX7_pair_107 : decode cX7_pair 107 = .ok (.iconst 1, 1) := by decide +kernel
theorem dX7_pair_108 : decode cX7_pair 108 = .ok (.goto 4, 3) := by decide +kernel
theorem dX7_pair_111 : decode cX7_pair 111 = .ok (.iconst 0, 1) := by decide +kernel
theorem dX7_pair_112 : decode cX7_pair 112 = .ok (.invokestatic 183, 3) := by decide +kernel
theorem dX7_pair_115 : decode cX7_pair 115 = .ok (.ireturn, 1) := by decide +kernel
theorem dX7_pair_116 : decode cX7_pair 116 = .ok (.lload 4, 2) := by decide +kernel
theorem dX7_pair_118 : decode cX7_pair 118 = .ok (.lload 6, 2) := by decide +kernel
theorem dX7_pair_120 : decode cX7_pair 120 = .ok (.invokestatic 187, 3) := by decide +kernel
theorem dX7_pair_123 : decode cX7_pair 123 = .ok (.ldc2_w 143, 3) := by decide +kernel
theorem dX7_pair_126 : decode cX7_pair 126 = .ok (.lcmp, 1) := by decide +kernel
theorem dX7_pair_127 : decode cX7_pair 127 = .ok (.ifCond .ne 7, 3) := by decide +kernel
theorem dX7_pair_130 : decode cX7_pair 130 = .ok (.iconst 1, 1) := by decide +kernel
theorem dX7_pair_131 : decode cX7_pair 131 = .ok (.goto 4, 3) := by decide +kernel
theorem dX7_pair_134 : decode cX7_pair 134 = .ok (.iconst 0, 1) := by decide +kernel
theorem dX7_pair_135 : decode cX7_pair 135 = .ok (.invokestatic 183, 3) := by decide +kernel
theorem dX7_pair_138 : decode cX7_pair 138 = .ok (.ireturn, 1) := by decide +kernel
theorem dX7_pair_139 : decode cX7_pair 139 = .ok (.sipush 4095, 3) := by decide +kernel
theorem dX7_pair_142 : decode cX7_pair 142 = .ok (.lload 4, 2) := by decide +kernel
theorem dX7_pair_144 : decode cX7_pair 144 = .ok (.lload 6, 2) := by decide +kernel
theorem dX7_pair_146 : decode cX7_pair 146 = .ok (.invokestatic 149, 3) := by decide +kernel
theorem dX7_pair_149 : decode cX7_pair 149 = .ok (.iconst (-1), 1) := by decide +kernel
theorem dX7_pair_150 : decode cX7_pair 150 = .ok (.ixor, 1) := by decide +kernel
theorem dX7_pair_151 : decode cX7_pair 151 = .ok (.iand, 1) := by decide +kernel
theorem dX7_pair_152 : decode cX7_pair 152 = .ok (.ireturn, 1) := by decide +kernel
theorem dX7_pair_153 : decode cX7_pair 153 = .ok (.bipush (-2), 2) := by decide +kernel
theorem dX7_pair_155 : decode cX7_pair 155 = .ok (.ireturn, 1) := by decide +kernel
set_option maxRecDepth 20000 in
theorem ggX7_untilHome_X7_isBelow : GoodIn wsX7_untilHome wsX7_isBelow := goodIn_r _ [7] (by decide +kernel) (by decide +kernel)
set_option maxRecDepth 20000 in
theorem gX7_untilHome_X7_isBelow : GoodIn wsX7_untilHome (va_wsS RX7 48 yX7_isBelow wsX7_isBelow) := goodIn_app (goodIn_of _ (by decide +kernel)) ggX7_untilHome_X7_isBelow
set_option maxRecDepth 20000 in
theorem ggX7_untilHome_X1_wayOf : GoodIn wsX7_untilHome wsX1_wayOf := goodIn_r _ [12, 13, 14, 15, 16, 17, 11, 18, 19, 5, 6, 7, 20, 21, 22, 23, 24, 25, 26, 27, 28, 29, 30, 31, 32, 33, 34, 35, 36, 37, 38, 39, 40, 41, 42, 43, 44, 45, 46, 47, 48, 49, 50, 51, 52, 53, 54, 55, 56, 57, 58, 59, 60, 61, 62, 77, 78, 70, 71, 72, 73, 74, 75, 76] (by decide +kernel) (by decide +kernel)
set_option maxRecDepth 20000 in
theorem gX7_untilHome_X1_wayOf : GoodIn wsX7_untilHome (wsV RX7 109 RX1 yX1_wayOf wsX1_wayOf) := goodIn_app (goodIn_of _ (by decide +kernel)) ggX7_untilHome_X1_wayOf
set_option maxRecDepth 20000 in
theorem ggX7_untilHome_X4_moved : GoodIn wsX7_untilHome wsX4_moved := goodIn_r _ [57, 58, 37, 38, 39] (by decide +kernel) (by decide +kernel)
set_option maxRecDepth 20000 in
theorem gX7_untilHome_X4_moved : GoodIn wsX7_untilHome (va_wsS RX7 119 yX4_moved wsX4_moved) := goodIn_app (goodIn_of _ (by decide +kernel)) ggX7_untilHome_X4_moved
theorem dX7_untilHome_0 : decode cX7_untilHome 0 = .ok (.iload_n 1, 1) := by decide +kernel
theorem dX7_untilHome_1 : decode cX7_untilHome 1 = .ok (.bipush 6, 2) := by decide +kernel
theorem dX7_untilHome_3 : decode cX7_untilHome 3 = .ok (.invokestatic 48, 3) := by decide +kernel
theorem dX7_untilHome_6 : decode cX7_untilHome 6 = .ok (.ifCond .ne 5, 3) := by decide +kernel
theorem dX7_untilHome_9 : decode cX7_untilHome 9 = .ok (.iconst (-1), 1) := by decide +kernel
theorem dX7_untilHome_10 : decode cX7_untilHome 10 = .ok (.ireturn, 1) := by decide +kernel
theorem dX7_untilHome_11 : decode cX7_untilHome 11 = .ok (.aload_n 0, 1) := by decide +kernel
theorem dX7_untilHome_12 : decode cX7_untilHome 12 = .ok (.getfield 10, 3) := by decide +kernel
theorem dX7_untilHome_15 : decode cX7_untilHome 15 = .ok (.iload_n 1, 1) := by decide +kernel
theorem dX7_untilHome_16 : decode cX7_untilHome 16 = .ok (.invokevirtual 109, 3) := by decide +kernel
theorem dX7_untilHome_19 : decode cX7_untilHome 19 = .ok (.lstore_n 2, 1) := by decide +kernel
theorem dX7_untilHome_20 : decode cX7_untilHome 20 = .ok (.aload_n 0, 1) := by decide +kernel
theorem dX7_untilHome_21 : decode cX7_untilHome 21 = .ok (.getfield 10, 3) := by decide +kernel
theorem dX7_untilHome_24 : decode cX7_untilHome 24 = .ok (.getfield 106, 3) := by decide +kernel
theorem dX7_untilHome_27 : decode cX7_untilHome 27 = .ok (.lstore 4, 2) := by decide +kernel
theorem dX7_untilHome_29 : decode cX7_untilHome 29 = .ok (.iconst 0, 1) := by decide +kernel
theorem dX7_untilHome_30 : decode cX7_untilHome 30 = .ok (.istore 6, 2) := by decide +kernel
theorem dX7_untilHome_32 : decode cX7_untilHome 32 = .ok (.iload 6, 2) := by decide +kernel
theorem dX7_untilHome_34 : decode cX7_untilHome 34 = .ok (.bipush 60, 2) := by decide +kernel
theorem dX7_untilHome_36 : decode cX7_untilHome 36 = .ok (.if_icmp .ge 29, 3) := by decide +kernel
theorem dX7_untilHome_39 : decode cX7_untilHome 39 = .ok (.lload 4, 2) := by decide +kernel
theorem dX7_untilHome_41 : decode cX7_untilHome 41 = .ok (.ldc2_w 143, 3) := by decide +kernel
theorem dX7_untilHome_44 : decode cX7_untilHome 44 = .ok (.lcmp, 1) := by decide +kernel
theorem dX7_untilHome_45 : decode cX7_untilHome 45 = .ok (.ifCond .ne 6, 3) := by decide +kernel
theorem dX7_untilHome_48 : decode cX7_untilHome 48 = .ok (.iload 6, 2) := by decide +kernel
theorem dX7_untilHome_50 : decode cX7_untilHome 50 = .ok (.ireturn, 1) := by decide +kernel
theorem dX7_untilHome_51 : decode cX7_untilHome 51 = .ok (.lload 4, 2) := by decide +kernel
theorem dX7_untilHome_53 : decode cX7_untilHome 53 = .ok (.lload_n 2, 1) := by decide +kernel
theorem dX7_untilHome_54 : decode cX7_untilHome 54 = .ok (.invokestatic 119, 3) := by decide +kernel
theorem dX7_untilHome_57 : decode cX7_untilHome 57 = .ok (.lstore 4, 2) := by decide +kernel
theorem dX7_untilHome_59 : decode cX7_untilHome 59 = .ok (.iinc 6 1, 3) := by decide +kernel
theorem dX7_untilHome_62 : decode cX7_untilHome 62 = .ok (.goto (-30), 3) := by decide +kernel
theorem dX7_untilHome_65 : decode cX7_untilHome 65 = .ok (.bipush (-6), 2) := by decide +kernel
theorem dX7_untilHome_67 : decode cX7_untilHome 67 = .ok (.ireturn, 1) := by decide +kernel
set_option maxRecDepth 20000 in
theorem ggX7_bestDraft_X1_wayOf : GoodIn wsX7_bestDraft wsX1_wayOf := goodIn_r _ [7, 8, 9, 10, 11, 12, 6, 13, 14, 15, 16, 17, 18, 19, 20, 21, 22, 23, 24, 25, 26, 27, 28, 29, 30, 31, 32, 33, 34, 35, 36, 37, 38, 39, 40, 41, 42, 43, 44, 45, 46, 47, 48, 49, 50, 51, 52, 53, 54, 55, 56, 57, 58, 59, 60, 88, 89, 81, 82, 83, 84, 85, 86, 87] (by decide +kernel) (by decide +kernel)
set_option maxRecDepth 20000 in
theorem gX7_bestDraft_X1_wayOf : GoodIn wsX7_bestDraft (wsV RX7 109 RX1 yX1_wayOf wsX1_wayOf) := goodIn_app (goodIn_of _ (by decide +kernel)) ggX7_bestDraft_X1_wayOf
set_option maxRecDepth 20000 in
theorem ggX7_bestDraft_X4_moved : GoodIn wsX7_bestDraft wsX4_moved := goodIn_r _ [55, 56, 35, 36, 37] (by decide +kernel) (by decide +kernel)
set_option maxRecDepth 20000 in
theorem gX7_bestDraft_X4_moved : GoodIn wsX7_bestDraft (va_wsS RX7 119 yX4_moved wsX4_moved) := goodIn_app (goodIn_of _ (by decide +kernel)) ggX7_bestDraft_X4_moved
set_option maxRecDepth 20000 in
theorem ggX7_bestDraft_X6_staying : GoodIn wsX7_bestDraft wsX6_staying := goodIn_r _ [64, 44, 65, 66, 42, 67, 60, 35, 36, 37, 68, 69, 70, 71, 72, 73, 74] (by decide +kernel) (by decide +kernel)
set_option maxRecDepth 20000 in
theorem gX7_bestDraft_X6_staying : GoodIn wsX7_bestDraft (va_wsS RX7 129 yX6_staying wsX6_staying) := goodIn_app (goodIn_of _ (by decide +kernel)) ggX7_bestDraft_X6_staying
theorem dX7_bestDraft_0 : decode cX7_bestDraft 0 = .ok (.iload_n 1, 1) := by decide +kernel
theorem dX7_bestDraft_1 : decode cX7_bestDraft 1 = .ok (.ifCond .eq 11, 3) := by decide +kernel
theorem dX7_bestDraft_4 : decode cX7_bestDraft 4 = .ok (.iload_n 1, 1) := by decide +kernel
theorem dX7_bestDraft_5 : decode cX7_bestDraft 5 = .ok (.iconst 1, 1) := by decide +kernel
theorem dX7_bestDraft_6 : decode cX7_bestDraft 6 = .ok (.if_icmp .eq 6, 3) := by decide +kernel
theorem dX7_bestDraft_9 : decode cX7_bestDraft 9 = .ok (.bipush (-2), 2) := by decide +kernel
theorem dX7_bestDraft_11 : decode cX7_bestDraft 11 = .ok (.ireturn, 1) := by decide +kernel
theorem dX7_bestDraft_12 : decode cX7_bestDraft 12 = .ok (.iconst 0, 1) := by decide +kernel
theorem dX7_bestDraft_13 : decode cX7_bestDraft 13 = .ok (.istore_n 2, 1) := by decide +kernel
theorem dX7_bestDraft_14 : decode cX7_bestDraft 14 = .ok (.iconst (-1), 1) := by decide +kernel
theorem dX7_bestDraft_15 : decode cX7_bestDraft 15 = .ok (.istore_n 3, 1) := by decide +kernel
theorem dX7_bestDraft_16 : decode cX7_bestDraft 16 = .ok (.iconst 0, 1) := by decide +kernel
theorem dX7_bestDraft_17 : decode cX7_bestDraft 17 = .ok (.istore 4, 2) := by decide +kernel
theorem dX7_bestDraft_19 : decode cX7_bestDraft 19 = .ok (.iload 4, 2) := by decide +kernel
theorem dX7_bestDraft_21 : decode cX7_bestDraft 21 = .ok (.bipush 6, 2) := by decide +kernel
theorem dX7_bestDraft_23 : decode cX7_bestDraft 23 = .ok (.if_icmp .ge 45, 3) := by decide +kernel
theorem dX7_bestDraft_26 : decode cX7_bestDraft 26 = .ok (.aload_n 0, 1) := by decide +kernel
theorem dX7_bestDraft_27 : decode cX7_bestDraft 27 = .ok (.getfield 10, 3) := by decide +kernel
theorem dX7_bestDraft_30 : decode cX7_bestDraft 30 = .ok (.getfield 106, 3) := by decide +kernel
theorem dX7_bestDraft_33 : decode cX7_bestDraft 33 = .ok (.aload_n 0, 1) := by decide +kernel
theorem dX7_bestDraft_34 : decode cX7_bestDraft 34 = .ok (.getfield 10, 3) := by decide +kernel
theorem dX7_bestDraft_37 : decode cX7_bestDraft 37 = .ok (.iload 4, 2) := by decide +kernel
theorem dX7_bestDraft_39 : decode cX7_bestDraft 39 = .ok (.invokevirtual 109, 3) := by decide +kernel
theorem dX7_bestDraft_42 : decode cX7_bestDraft 42 = .ok (.invokestatic 119, 3) := by decide +kernel
theorem dX7_bestDraft_45 : decode cX7_bestDraft 45 = .ok (.invokestatic 129, 3) := by decide +kernel
theorem dX7_bestDraft_48 : decode cX7_bestDraft 48 = .ok (.istore 5, 2) := by decide +kernel
theorem dX7_bestDraft_50 : decode cX7_bestDraft 50 = .ok (.iload 5, 2) := by decide +kernel
theorem dX7_bestDraft_52 : decode cX7_bestDraft 52 = .ok (.iload_n 3, 1) := by decide +kernel
theorem dX7_bestDraft_53 : decode cX7_bestDraft 53 = .ok (.if_icmp .le 9, 3) := by decide +kernel
theorem dX7_bestDraft_56 : decode cX7_bestDraft 56 = .ok (.iload 4, 2) := by decide +kernel
theorem dX7_bestDraft_58 : decode cX7_bestDraft 58 = .ok (.istore_n 2, 1) := by decide +kernel
theorem dX7_bestDraft_59 : decode cX7_bestDraft 59 = .ok (.iload 5, 2) := by decide +kernel
theorem dX7_bestDraft_61 : decode cX7_bestDraft 61 = .ok (.istore_n 3, 1) := by decide +kernel
theorem dX7_bestDraft_62 : decode cX7_bestDraft 62 = .ok (.iinc 4 1, 3) := by decide +kernel
theorem dX7_bestDraft_65 : decode cX7_bestDraft 65 = .ok (.goto (-46), 3) := by decide +kernel
theorem dX7_bestDraft_68 : decode cX7_bestDraft 68 = .ok (.iload_n 1, 1) := by decide +kernel
theorem dX7_bestDraft_69 : decode cX7_bestDraft 69 = .ok (.ifCond .ne 7, 3) := by decide +kernel
theorem dX7_bestDraft_72 : decode cX7_bestDraft 72 = .ok (.iload_n 2, 1) := by decide +kernel
theorem dX7_bestDraft_73 : decode cX7_bestDraft 73 = .ok (.goto 4, 3) := by decide +kernel
theorem dX7_bestDraft_76 : decode cX7_bestDraft 76 = .ok (.iload_n 3, 1) := by decide +kernel
theorem dX7_bestDraft_77 : decode cX7_bestDraft 77 = .ok (.ireturn, 1) := by decide +kernel
set_option maxRecDepth 20000 in
theorem ggX7_write_X2_signsIn : GoodIn wsX7_write wsX2_signsIn := goodIn_r _ [6, 7, 8, 9] (by decide +kernel) (by decide +kernel)
set_option maxRecDepth 20000 in
theorem gX7_write_X2_signsIn : GoodIn wsX7_write (va_wsS RX7 193 yX2_signsIn wsX2_signsIn) := goodIn_app (goodIn_of _ (by decide +kernel)) ggX7_write_X2_signsIn
set_option maxRecDepth 20000 in
theorem ggX7_write_X2_append : GoodIn wsX7_write wsX2_append := goodIn_r _ [13, 14, 15, 7, 16, 17, 18, 25, 26] (by decide +kernel) (by decide +kernel)
set_option maxRecDepth 20000 in
theorem gX7_write_X2_append : GoodIn wsX7_write (wsV RX7 196 RX2 yX2_append wsX2_append) := goodIn_app (goodIn_of _ (by decide +kernel)) ggX7_write_X2_append
theorem dX7_write_0 : decode cX7_write 0 = .ok (.lload_n 1, 1) := by decide +kernel
theorem dX7_write_1 : decode cX7_write 1 = .ok (.invokestatic 193, 3) := by decide +kernel
theorem dX7_write_4 : decode cX7_write 4 = .ok (.istore_n 3, 1) := by decide +kernel
theorem dX7_write_5 : decode cX7_write 5 = .ok (.iload_n 3, 1) := by decide +kernel
theorem dX7_write_6 : decode cX7_write 6 = .ok (.ifCond .ne 6, 3) := by decide +kernel
theorem dX7_write_9 : decode cX7_write 9 = .ok (.bipush (-2), 2) := by decide +kernel
theorem dX7_write_11 : decode cX7_write 11 = .ok (.ireturn, 1) := by decide +kernel
theorem dX7_write_12 : decode cX7_write 12 = .ok (.aload_n 0, 1) := by decide +kernel
theorem dX7_write_13 : decode cX7_write 13 = .ok (.getfield 30, 3) := by decide +kernel
theorem dX7_write_16 : decode cX7_write 16 = .ok (.getfield 95, 3) := by decide +kernel
theorem dX7_write_19 : decode cX7_write 19 = .ok (.iload_n 3, 1) := by decide +kernel
theorem dX7_write_20 : decode cX7_write 20 = .ok (.iadd, 1) := by decide +kernel
theorem dX7_write_21 : decode cX7_write 21 = .ok (.bipush 40, 2) := by decide +kernel
theorem dX7_write_23 : decode cX7_write 23 = .ok (.if_icmp .le 6, 3) := by decide +kernel
theorem dX7_write_26 : decode cX7_write 26 = .ok (.bipush (-4), 2) := by decide +kernel
theorem dX7_write_28 : decode cX7_write 28 = .ok (.ireturn, 1) := by decide +kernel
theorem dX7_write_29 : decode cX7_write 29 = .ok (.aload_n 0, 1) := by decide +kernel
theorem dX7_write_30 : decode cX7_write 30 = .ok (.getfield 30, 3) := by decide +kernel
theorem dX7_write_33 : decode cX7_write 33 = .ok (.lload_n 1, 1) := by decide +kernel
theorem dX7_write_34 : decode cX7_write 34 = .ok (.iload_n 3, 1) := by decide +kernel
theorem dX7_write_35 : decode cX7_write 35 = .ok (.invokevirtual 196, 3) := by decide +kernel
theorem dX7_write_38 : decode cX7_write 38 = .ok (.aload_n 0, 1) := by decide +kernel
theorem dX7_write_39 : decode cX7_write 39 = .ok (.getfield 30, 3) := by decide +kernel
theorem dX7_write_42 : decode cX7_write 42 = .ok (.getfield 95, 3) := by decide +kernel
theorem dX7_write_45 : decode cX7_write 45 = .ok (.ireturn, 1) := by decide +kernel
theorem dX7_wipe_0 : decode cX7_wipe 0 = .ok (.aload_n 0, 1) := by decide +kernel
theorem dX7_wipe_1 : decode cX7_wipe 1 = .ok (.getfield 30, 3) := by decide +kernel
theorem dX7_wipe_4 : decode cX7_wipe 4 = .ok (.getfield 95, 3) := by decide +kernel
theorem dX7_wipe_7 : decode cX7_wipe 7 = .ok (.istore_n 1, 1) := by decide +kernel
theorem dX7_wipe_8 : decode cX7_wipe 8 = .ok (.aload_n 0, 1) := by decide +kernel
theorem dX7_wipe_9 : decode cX7_wipe 9 = .ok (.getfield 30, 3) := by decide +kernel
theorem dX7_wipe_12 : decode cX7_wipe 12 = .ok (.iconst 0, 1) := by decide +kernel
theorem dX7_wipe_13 : decode cX7_wipe 13 = .ok (.putfield 95, 3) := by decide +kernel
theorem dX7_wipe_16 : decode cX7_wipe 16 = .ok (.iload_n 1, 1) := by decide +kernel
theorem dX7_wipe_17 : decode cX7_wipe 17 = .ok (.ireturn, 1) := by decide +kernel
set_option maxRecDepth 20000 in
theorem ggX7_undo_X3_giveBack : GoodIn wsX7_undo wsX3_giveBack := goodIn_r _ [8, 9, 10, 11, 12, 13, 14, 15, 16, 17, 18, 19, 20, 21, 22, 23, 24, 25, 26, 27, 28, 29, 30, 31, 32, 33, 34, 35, 36, 37, 44, 45, 46, 47, 48, 49, 50, 51, 52, 53, 54] (by decide +kernel) (by decide +kernel)
set_option maxRecDepth 20000 in
theorem gX7_undo_X3_giveBack : GoodIn wsX7_undo (wsV RX7 199 RX3 yX3_giveBack wsX3_giveBack) := goodIn_app (goodIn_of _ (by decide +kernel)) ggX7_undo_X3_giveBack
theorem dX7_undo_0 : decode cX7_undo 0 = .ok (.aload_n 0, 1) := by decide +kernel
theorem dX7_undo_1 : decode cX7_undo 1 = .ok (.getfield 19, 3) := by decide +kernel
theorem dX7_undo_4 : decode cX7_undo 4 = .ok (.getfield 172, 3) := by decide +kernel
theorem dX7_undo_7 : decode cX7_undo 7 = .ok (.ifCond .ne 6, 3) := by decide +kernel
theorem dX7_undo_10 : decode cX7_undo 10 = .ok (.bipush (-5), 2) := by decide +kernel
theorem dX7_undo_12 : decode cX7_undo 12 = .ok (.ireturn, 1) := by decide +kernel
theorem dX7_undo_13 : decode cX7_undo 13 = .ok (.aload_n 0, 1) := by decide +kernel
theorem dX7_undo_14 : decode cX7_undo 14 = .ok (.getfield 19, 3) := by decide +kernel
theorem dX7_undo_17 : decode cX7_undo 17 = .ok (.aload_n 0, 1) := by decide +kernel
theorem dX7_undo_18 : decode cX7_undo 18 = .ok (.getfield 10, 3) := by decide +kernel
theorem dX7_undo_21 : decode cX7_undo 21 = .ok (.invokevirtual 199, 3) := by decide +kernel
theorem dX7_undo_24 : decode cX7_undo 24 = .ok (.aload_n 0, 1) := by decide +kernel
theorem dX7_undo_25 : decode cX7_undo 25 = .ok (.getfield 19, 3) := by decide +kernel
theorem dX7_undo_28 : decode cX7_undo 28 = .ok (.getfield 172, 3) := by decide +kernel
theorem dX7_undo_31 : decode cX7_undo 31 = .ok (.ireturn, 1) := by decide +kernel
set_option maxRecDepth 20000 in
theorem ggX7_gatherWays_X7_hasBit : GoodIn wsX7_gatherWays wsX7_hasBit := goodIn_r _ [7] (by decide +kernel) (by decide +kernel)
set_option maxRecDepth 20000 in
theorem gX7_gatherWays_X7_hasBit : GoodIn wsX7_gatherWays (va_wsS RX7 173 yX7_hasBit wsX7_hasBit) := goodIn_app (goodIn_of _ (by decide +kernel)) ggX7_gatherWays_X7_hasBit
set_option maxRecDepth 20000 in
theorem ggX7_gatherWays_X1_wayOf : GoodIn wsX7_gatherWays wsX1_wayOf := goodIn_r _ [12, 13, 14, 15, 16, 17, 11, 18, 19, 20, 6, 21, 22, 23, 24, 25, 26, 27, 28, 29, 30, 31, 32, 33, 34, 35, 36, 37, 38, 39, 40, 41, 5, 7, 42, 43, 44, 45, 46, 47, 48, 49, 50, 51, 52, 53, 54, 55, 56, 57, 58, 59, 60, 61, 62, 81, 82, 83, 84, 85, 86, 87, 88, 89] (by decide +kernel) (by decide +kernel)
set_option maxRecDepth 20000 in
theorem gX7_gatherWays_X1_wayOf : GoodIn wsX7_gatherWays (wsV RX7 109 RX1 yX1_wayOf wsX1_wayOf) := goodIn_app (goodIn_of _ (by decide +kernel)) ggX7_gatherWays_X1_wayOf
set_option maxRecDepth 20000 in
theorem ggX7_gatherWays_X5_addMaker : GoodIn wsX7_gatherWays wsX5_addMaker := goodIn_r _ [67, 68, 69, 20, 6, 21, 76, 77, 78, 79, 80] (by decide +kernel) (by decide +kernel)
set_option maxRecDepth 20000 in
theorem gX7_gatherWays_X5_addMaker : GoodIn wsX7_gatherWays (wsV RX7 207 RX5 yX5_addMaker wsX5_addMaker) := goodIn_app (goodIn_of _ (by decide +kernel)) ggX7_gatherWays_X5_addMaker
theorem dX7_gatherWays_0 : decode cX7_gatherWays 0 = .ok (.aload_n 0, 1) := by decide +kernel
theorem dX7_gatherWays_1 : decode cX7_gatherWays 1 = .ok (.getfield 37, 3) := by decide +kernel
theorem dX7_gatherWays_4 : decode cX7_gatherWays 4 = .ok (.iconst 0, 1) := by decide +kernel
theorem dX7_gatherWays_5 : decode cX7_gatherWays 5 = .ok (.putfield 204, 3) := by decide +kernel
theorem dX7_gatherWays_8 : decode cX7_gatherWays 8 = .ok (.iconst 0, 1) := by decide +kernel
theorem dX7_gatherWays_9 : decode cX7_gatherWays 9 = .ok (.istore_n 2, 1) := by decide +kernel
theorem dX7_gatherWays_10 : decode cX7_gatherWays 10 = .ok (.iload_n 2, 1) := by decide +kernel
theorem dX7_gatherWays_11 : decode cX7_gatherWays 11 = .ok (.bipush 6, 2) := by decide +kernel
theorem dX7_gatherWays_13 : decode cX7_gatherWays 13 = .ok (.if_icmp .ge 32, 3) := by decide +kernel
theorem dX7_gatherWays_16 : decode cX7_gatherWays 16 = .ok (.iload_n 1, 1) := by decide +kernel
theorem dX7_gatherWays_17 : decode cX7_gatherWays 17 = .ok (.iload_n 2, 1) := by decide +kernel
theorem dX7_gatherWays_18 : decode cX7_gatherWays 18 = .ok (.invokestatic 173, 3) := by decide +kernel
theorem dX7_gatherWays_21 : decode cX7_gatherWays 21 = .ok (.ifCond .eq 18, 3) := by decide +kernel
theorem dX7_gatherWays_24 : decode cX7_gatherWays 24 = .ok (.aload_n 0, 1) := by decide +kernel
theorem dX7_gatherWays_25 : decode cX7_gatherWays 25 = .ok (.getfield 37, 3) := by decide +kernel
theorem dX7_gatherWays_28 : decode cX7_gatherWays 28 = .ok (.aload_n 0, 1) := by decide +kernel
theorem dX7_gatherWays_29 : decode cX7_gatherWays 29 = .ok (.getfield 10, 3) := by decide +kernel
theorem dX7_gatherWays_32 : decode cX7_gatherWays 32 = .ok (.iload_n 2, 1) := by decide +kernel
theorem dX7_gatherWays_33 : decode cX7_gatherWays 33 = .ok (.invokevirtual 109, 3) := by decide +kernel
theorem dX7_gatherWays_36 : decode cX7_gatherWays 36 = .ok (.invokevirtual 207, 3) := by decide +kernel
theorem dX7_gatherWays_39 : decode cX7_gatherWays 39 = .ok (.iinc 2 1, 3) := by decide +kernel
theorem dX7_gatherWays_42 : decode cX7_gatherWays 42 = .ok (.goto (-32), 3) := by decide +kernel
theorem dX7_gatherWays_45 : decode cX7_gatherWays 45 = .ok (.return_, 1) := by decide +kernel
theorem dX7_isBelow_0 : decode cX7_isBelow 0 = .ok (.iload_n 0, 1) := by decide +kernel
theorem dX7_isBelow_1 : decode cX7_isBelow 1 = .ok (.ifCond .lt 12, 3) := by decide +kernel
theorem dX7_isBelow_4 : decode cX7_isBelow 4 = .ok (.iload_n 0, 1) := by decide +kernel
theorem dX7_isBelow_5 : decode cX7_isBelow 5 = .ok (.iload_n 1, 1) := by decide +kernel
theorem dX7_isBelow_6 : decode cX7_isBelow 6 = .ok (.if_icmp .ge 7, 3) := by decide +kernel
theorem dX7_isBelow_9 : decode cX7_isBelow 9 = .ok (.iconst 1, 1) := by decide +kernel
theorem dX7_isBelow_10 : decode cX7_isBelow 10 = .ok (.goto 4, 3) := by decide +kernel
theorem dX7_isBelow_13 : decode cX7_isBelow 13 = .ok (.iconst 0, 1) := by decide +kernel
theorem dX7_isBelow_14 : decode cX7_isBelow 14 = .ok (.ireturn, 1) := by decide +kernel
theorem dX7_hasBit_0 : decode cX7_hasBit 0 = .ok (.iload_n 0, 1) := by decide +kernel
theorem dX7_hasBit_1 : decode cX7_hasBit 1 = .ok (.iload_n 1, 1) := by decide +kernel
theorem dX7_hasBit_2 : decode cX7_hasBit 2 = .ok (.ishr, 1) := by decide +kernel
theorem dX7_hasBit_3 : decode cX7_hasBit 3 = .ok (.iconst 1, 1) := by decide +kernel
theorem dX7_hasBit_4 : decode cX7_hasBit 4 = .ok (.iand, 1) := by decide +kernel
theorem dX7_hasBit_5 : decode cX7_hasBit 5 = .ok (.iconst 1, 1) := by decide +kernel
theorem dX7_hasBit_6 : decode cX7_hasBit 6 = .ok (.if_icmp .ne 7, 3) := by decide +kernel
theorem dX7_hasBit_9 : decode cX7_hasBit 9 = .ok (.iconst 1, 1) := by decide +kernel
theorem dX7_hasBit_10 : decode cX7_hasBit 10 = .ok (.goto 4, 3) := by decide +kernel
theorem dX7_hasBit_13 : decode cX7_hasBit 13 = .ok (.iconst 0, 1) := by decide +kernel
theorem dX7_hasBit_14 : decode cX7_hasBit 14 = .ok (.ireturn, 1) := by decide +kernel
theorem dX7_asNumber_0 : decode cX7_asNumber 0 = .ok (.iload_n 0, 1) := by decide +kernel
theorem dX7_asNumber_1 : decode cX7_asNumber 1 = .ok (.ifCond .eq 7, 3) := by decide +kernel
theorem dX7_asNumber_4 : decode cX7_asNumber 4 = .ok (.iconst 1, 1) := by decide +kernel
theorem dX7_asNumber_5 : decode cX7_asNumber 5 = .ok (.goto 4, 3) := by decide +kernel
theorem dX7_asNumber_8 : decode cX7_asNumber 8 = .ok (.iconst 0, 1) := by decide +kernel
theorem dX7_asNumber_9 : decode cX7_asNumber 9 = .ok (.ireturn, 1) := by decide +kernel
theorem dJ6_bitCount_0f7a4_0 : decode cJ6_bitCount_0f7a4 0 = .ok (.iload_n 0, 1) := by decide +kernel
theorem dJ6_bitCount_0f7a4_1 : decode cJ6_bitCount_0f7a4 1 = .ok (.iload_n 0, 1) := by decide +kernel
theorem dJ6_bitCount_0f7a4_2 : decode cJ6_bitCount_0f7a4 2 = .ok (.iconst 1, 1) := by decide +kernel
theorem dJ6_bitCount_0f7a4_3 : decode cJ6_bitCount_0f7a4 3 = .ok (.iushr, 1) := by decide +kernel
theorem dJ6_bitCount_0f7a4_4 : decode cJ6_bitCount_0f7a4 4 = .ok (.ldc_w 265, 3) := by decide +kernel
theorem dJ6_bitCount_0f7a4_7 : decode cJ6_bitCount_0f7a4 7 = .ok (.iand, 1) := by decide +kernel
theorem dJ6_bitCount_0f7a4_8 : decode cJ6_bitCount_0f7a4 8 = .ok (.isub, 1) := by decide +kernel
theorem dJ6_bitCount_0f7a4_9 : decode cJ6_bitCount_0f7a4 9 = .ok (.istore_n 0, 1) := by decide +kernel
theorem dJ6_bitCount_0f7a4_10 : decode cJ6_bitCount_0f7a4 10 = .ok (.iload_n 0, 1) := by decide +kernel
theorem dJ6_bitCount_0f7a4_11 : decode cJ6_bitCount_0f7a4 11 = .ok (.ldc_w 266, 3) := by decide +kernel
theorem dJ6_bitCount_0f7a4_14 : decode cJ6_bitCount_0f7a4 14 = .ok (.iand, 1) := by decide +kernel
theorem dJ6_bitCount_0f7a4_15 : decode cJ6_bitCount_0f7a4 15 = .ok (.iload_n 0, 1) := by decide +kernel
theorem dJ6_bitCount_0f7a4_16 : decode cJ6_bitCount_0f7a4 16 = .ok (.iconst 2, 1) := by decide +kernel
theorem dJ6_bitCount_0f7a4_17 : decode cJ6_bitCount_0f7a4 17 = .ok (.iushr, 1) := by decide +kernel
theorem dJ6_bitCount_0f7a4_18 : decode cJ6_bitCount_0f7a4 18 = .ok (.ldc_w 266, 3) := by decide +kernel
theorem dJ6_bitCount_0f7a4_21 : decode cJ6_bitCount_0f7a4 21 = .ok (.iand, 1) := by decide +kernel
theorem dJ6_bitCount_0f7a4_22 : decode cJ6_bitCount_0f7a4 22 = .ok (.iadd, 1) := by decide +kernel
theorem dJ6_bitCount_0f7a4_23 : decode cJ6_bitCount_0f7a4 23 = .ok (.istore_n 0, 1) := by decide +kernel
theorem dJ6_bitCount_0f7a4_24 : decode cJ6_bitCount_0f7a4 24 = .ok (.iload_n 0, 1) := by decide +kernel
theorem dJ6_bitCount_0f7a4_25 : decode cJ6_bitCount_0f7a4 25 = .ok (.iload_n 0, 1) := by decide +kernel
theorem dJ6_bitCount_0f7a4_26 : decode cJ6_bitCount_0f7a4 26 = .ok (.iconst 4, 1) := by decide +kernel
theorem dJ6_bitCount_0f7a4_27 : decode cJ6_bitCount_0f7a4 27 = .ok (.iushr, 1) := by decide +kernel
theorem dJ6_bitCount_0f7a4_28 : decode cJ6_bitCount_0f7a4 28 = .ok (.iadd, 1) := by decide +kernel
theorem dJ6_bitCount_0f7a4_29 : decode cJ6_bitCount_0f7a4 29 = .ok (.ldc_w 267, 3) := by decide +kernel
theorem dJ6_bitCount_0f7a4_32 : decode cJ6_bitCount_0f7a4 32 = .ok (.iand, 1) := by decide +kernel
theorem dJ6_bitCount_0f7a4_33 : decode cJ6_bitCount_0f7a4 33 = .ok (.istore_n 0, 1) := by decide +kernel
theorem dJ6_bitCount_0f7a4_34 : decode cJ6_bitCount_0f7a4 34 = .ok (.iload_n 0, 1) := by decide +kernel
theorem dJ6_bitCount_0f7a4_35 : decode cJ6_bitCount_0f7a4 35 = .ok (.iload_n 0, 1) := by decide +kernel
theorem dJ6_bitCount_0f7a4_36 : decode cJ6_bitCount_0f7a4 36 = .ok (.bipush 8, 2) := by decide +kernel
theorem dJ6_bitCount_0f7a4_38 : decode cJ6_bitCount_0f7a4 38 = .ok (.iushr, 1) := by decide +kernel
theorem dJ6_bitCount_0f7a4_39 : decode cJ6_bitCount_0f7a4 39 = .ok (.iadd, 1) := by decide +kernel
theorem dJ6_bitCount_0f7a4_40 : decode cJ6_bitCount_0f7a4 40 = .ok (.istore_n 0, 1) := by decide +kernel
theorem dJ6_bitCount_0f7a4_41 : decode cJ6_bitCount_0f7a4 41 = .ok (.iload_n 0, 1) := by decide +kernel
theorem dJ6_bitCount_0f7a4_42 : decode cJ6_bitCount_0f7a4 42 = .ok (.iload_n 0, 1) := by decide +kernel
theorem dJ6_bitCount_0f7a4_43 : decode cJ6_bitCount_0f7a4 43 = .ok (.bipush 16, 2) := by decide +kernel
theorem dJ6_bitCount_0f7a4_45 : decode cJ6_bitCount_0f7a4 45 = .ok (.iushr, 1) := by decide +kernel
theorem dJ6_bitCount_0f7a4_46 : decode cJ6_bitCount_0f7a4 46 = .ok (.iadd, 1) := by decide +kernel
theorem dJ6_bitCount_0f7a4_47 : decode cJ6_bitCount_0f7a4 47 = .ok (.istore_n 0, 1) := by decide +kernel
theorem dJ6_bitCount_0f7a4_48 : decode cJ6_bitCount_0f7a4 48 = .ok (.iload_n 0, 1) := by decide +kernel
theorem dJ6_bitCount_0f7a4_49 : decode cJ6_bitCount_0f7a4 49 = .ok (.bipush 63, 2) := by decide +kernel
theorem dJ6_bitCount_0f7a4_51 : decode cJ6_bitCount_0f7a4 51 = .ok (.iand, 1) := by decide +kernel
theorem dJ6_bitCount_0f7a4_52 : decode cJ6_bitCount_0f7a4 52 = .ok (.ireturn, 1) := by decide +kernel
theorem dL_cell_0 : decode cL_cell 0 = .ok (.iload_n 1, 1) := by decide +kernel
theorem dL_cell_1 : decode cL_cell 1 = .ok (.aload_n 0, 1) := by decide +kernel
theorem dL_cell_2 : decode cL_cell 2 = .ok (.arraylength, 1) := by decide +kernel
theorem dL_cell_3 : decode cL_cell 3 = .ok (.if_icmp .ge 9, 3) := by decide +kernel
theorem dL_cell_6 : decode cL_cell 6 = .ok (.aload_n 0, 1) := by decide +kernel
theorem dL_cell_7 : decode cL_cell 7 = .ok (.iload_n 1, 1) := by decide +kernel
theorem dL_cell_8 : decode cL_cell 8 = .ok (.iaload, 1) := by decide +kernel
theorem dL_cell_9 : decode cL_cell 9 = .ok (.goto 12, 3) := by decide +kernel
theorem dL_cell_12 : decode cL_cell 12 = .ok (.ldc 7, 2) := by decide +kernel
theorem dL_cell_14 : decode cL_cell 14 = .ok (.iload_n 1, 1) := by decide +kernel
theorem dL_cell_15 : decode cL_cell 15 = .ok (.iconst 5, 1) := by decide +kernel
theorem dL_cell_16 : decode cL_cell 16 = .ok (.iadd, 1) := by decide +kernel
theorem dL_cell_17 : decode cL_cell 17 = .ok (.imul, 1) := by decide +kernel
theorem dL_cell_18 : decode cL_cell 18 = .ok (.ldc 8, 2) := by decide +kernel
theorem dL_cell_20 : decode cL_cell 20 = .ok (.iadd, 1) := by decide +kernel
theorem dL_cell_21 : decode cL_cell 21 = .ok (.ireturn, 1) := by decide +kernel
theorem dL_low_0 : decode cL_low 0 = .ok (.iload_n 0, 1) := by decide +kernel
theorem dL_low_1 : decode cL_low 1 = .ok (.ldc 9, 2) := by decide +kernel
theorem dL_low_3 : decode cL_low 3 = .ok (.iand, 1) := by decide +kernel
theorem dL_low_4 : decode cL_low 4 = .ok (.iload_n 1, 1) := by decide +kernel
theorem dL_low_5 : decode cL_low 5 = .ok (.irem, 1) := by decide +kernel
theorem dL_low_6 : decode cL_low 6 = .ok (.ireturn, 1) := by decide +kernel
theorem dL_ones_0 : decode cL_ones 0 = .ok (.iconst 0, 1) := by decide +kernel
theorem dL_ones_1 : decode cL_ones 1 = .ok (.istore_n 1, 1) := by decide +kernel
theorem dL_ones_2 : decode cL_ones 2 = .ok (.iload_n 0, 1) := by decide +kernel
theorem dL_ones_3 : decode cL_ones 3 = .ok (.istore_n 2, 1) := by decide +kernel
theorem dL_ones_4 : decode cL_ones 4 = .ok (.iload_n 2, 1) := by decide +kernel
theorem dL_ones_5 : decode cL_ones 5 = .ok (.ifCond .eq 15, 3) := by decide +kernel
theorem dL_ones_8 : decode cL_ones 8 = .ok (.iinc 1 1, 3) := by decide +kernel
theorem dL_ones_11 : decode cL_ones 11 = .ok (.iload_n 2, 1) := by decide +kernel
theorem dL_ones_12 : decode cL_ones 12 = .ok (.iload_n 2, 1) := by decide +kernel
theorem dL_ones_13 : decode cL_ones 13 = .ok (.iconst 1, 1) := by decide +kernel
theorem dL_ones_14 : decode cL_ones 14 = .ok (.isub, 1) := by decide +kernel
theorem dL_ones_15 : decode cL_ones 15 = .ok (.iand, 1) := by decide +kernel
theorem dL_ones_16 : decode cL_ones 16 = .ok (.istore_n 2, 1) := by decide +kernel
theorem dL_ones_17 : decode cL_ones 17 = .ok (.goto (-13), 3) := by decide +kernel
theorem dL_ones_20 : decode cL_ones 20 = .ok (.iload_n 1, 1) := by decide +kernel
theorem dL_ones_21 : decode cL_ones 21 = .ok (.ireturn, 1) := by decide +kernel
theorem dL_pressAt_0 : decode cL_pressAt 0 = .ok (.aload_n 2, 1) := by decide +kernel
theorem dL_pressAt_1 : decode cL_pressAt 1 = .ok (.iconst 3, 1) := by decide +kernel
theorem dL_pressAt_2 : decode cL_pressAt 2 = .ok (.iload_n 0, 1) := by decide +kernel
theorem dL_pressAt_3 : decode cL_pressAt 3 = .ok (.imul, 1) := by decide +kernel
theorem dL_pressAt_4 : decode cL_pressAt 4 = .ok (.iload_n 1, 1) := by decide +kernel
theorem dL_pressAt_5 : decode cL_pressAt 5 = .ok (.bipush 8, 2) := by decide +kernel
theorem dL_pressAt_7 : decode cL_pressAt 7 = .ok (.idiv, 1) := by decide +kernel
theorem dL_pressAt_8 : decode cL_pressAt 8 = .ok (.iadd, 1) := by decide +kernel
theorem dL_pressAt_9 : decode cL_pressAt 9 = .ok (.iaload, 1) := by decide +kernel
theorem dL_pressAt_10 : decode cL_pressAt 10 = .ok (.iconst 4, 1) := by decide +kernel
theorem dL_pressAt_11 : decode cL_pressAt 11 = .ok (.iload_n 1, 1) := by decide +kernel
theorem dL_pressAt_12 : decode cL_pressAt 12 = .ok (.bipush 8, 2) := by decide +kernel
theorem dL_pressAt_14 : decode cL_pressAt 14 = .ok (.irem, 1) := by decide +kernel
theorem dL_pressAt_15 : decode cL_pressAt 15 = .ok (.imul, 1) := by decide +kernel
theorem dL_pressAt_16 : decode cL_pressAt 16 = .ok (.ishr, 1) := by decide +kernel
theorem dL_pressAt_17 : decode cL_pressAt 17 = .ok (.bipush 15, 2) := by decide +kernel
theorem dL_pressAt_19 : decode cL_pressAt 19 = .ok (.iand, 1) := by decide +kernel
theorem dL_pressAt_20 : decode cL_pressAt 20 = .ok (.ireturn, 1) := by decide +kernel
theorem dL_raised_0 : decode cL_raised 0 = .ok (.iconst 0, 1) := by decide +kernel
theorem dL_raised_1 : decode cL_raised 1 = .ok (.istore_n 3, 1) := by decide +kernel
theorem dL_raised_2 : decode cL_raised 2 = .ok (.iconst 0, 1) := by decide +kernel
theorem dL_raised_3 : decode cL_raised 3 = .ok (.istore 4, 2) := by decide +kernel
theorem dL_raised_5 : decode cL_raised 5 = .ok (.iload 4, 2) := by decide +kernel
theorem dL_raised_7 : decode cL_raised 7 = .ok (.bipush 12, 2) := by decide +kernel
theorem dL_raised_9 : decode cL_raised 9 = .ok (.if_icmp .ge 25, 3) := by decide +kernel
theorem dL_raised_12 : decode cL_raised 12 = .ok (.iload_n 3, 1) := by decide +kernel
theorem dL_raised_13 : decode cL_raised 13 = .ok (.aload_n 2, 1) := by decide +kernel
theorem dL_raised_14 : decode cL_raised 14 = .ok (.iload_n 0, 1) := by decide +kernel
theorem dL_raised_15 : decode cL_raised 15 = .ok (.iaload, 1) := by decide +kernel
theorem dL_raised_16 : decode cL_raised 16 = .ok (.aload_n 1, 1) := by decide +kernel
theorem dL_raised_17 : decode cL_raised 17 = .ok (.iload 4, 2) := by decide +kernel
theorem dL_raised_19 : decode cL_raised 19 = .ok (.iaload, 1) := by decide +kernel
theorem dL_raised_20 : decode cL_raised 20 = .ok (.ishr, 1) := by decide +kernel
theorem dL_raised_21 : decode cL_raised 21 = .ok (.iconst 1, 1) := by decide +kernel
theorem dL_raised_22 : decode cL_raised 22 = .ok (.iand, 1) := by decide +kernel
theorem dL_raised_23 : decode cL_raised 23 = .ok (.iload 4, 2) := by decide +kernel
theorem dL_raised_25 : decode cL_raised 25 = .ok (.ishl, 1) := by decide +kernel
theorem dL_raised_26 : decode cL_raised 26 = .ok (.ior, 1) := by decide +kernel
theorem dL_raised_27 : decode cL_raised 27 = .ok (.istore_n 3, 1) := by decide +kernel
theorem dL_raised_28 : decode cL_raised 28 = .ok (.iinc 4 1, 3) := by decide +kernel
theorem dL_raised_31 : decode cL_raised 31 = .ok (.goto (-26), 3) := by decide +kernel
theorem dL_raised_34 : decode cL_raised 34 = .ok (.iload_n 3, 1) := by decide +kernel
theorem dL_raised_35 : decode cL_raised 35 = .ok (.ireturn, 1) := by decide +kernel
set_option maxRecDepth 20000 in
theorem ggL_presses_L_raised : GoodIn wsL_presses wsL_raised := goodIn_r _ [4] (by decide +kernel) (by decide +kernel)
set_option maxRecDepth 20000 in
theorem gL_presses_L_raised : GoodIn wsL_presses (va_wsS RL 10 yL_raised wsL_raised) := goodIn_app (goodIn_of _ (by decide +kernel)) ggL_presses_L_raised
theorem dL_presses_0 : decode cL_presses 0 = .ok (.iload_n 0, 1) := by decide +kernel
theorem dL_presses_1 : decode cL_presses 1 = .ok (.bipush 6, 2) := by decide +kernel
theorem dL_presses_3 : decode cL_presses 3 = .ok (.irem, 1) := by decide +kernel
theorem dL_presses_4 : decode cL_presses 4 = .ok (.aload_n 1, 1) := by decide +kernel
theorem dL_presses_5 : decode cL_presses 5 = .ok (.aload_n 2, 1) := by decide +kernel
theorem dL_presses_6 : decode cL_presses 6 = .ok (.invokestatic 10, 3) := by decide +kernel
theorem dL_presses_9 : decode cL_presses 9 = .ok (.istore 4, 2) := by decide +kernel
theorem dL_presses_11 : decode cL_presses 11 = .ok (.iconst (-1), 1) := by decide +kernel
theorem dL_presses_12 : decode cL_presses 12 = .ok (.istore 5, 2) := by decide +kernel
theorem dL_presses_14 : decode cL_presses 14 = .ok (.iconst (-1), 1) := by decide +kernel
theorem dL_presses_15 : decode cL_presses 15 = .ok (.istore 6, 2) := by decide +kernel
theorem dL_presses_17 : decode cL_presses 17 = .ok (.iconst 0, 1) := by decide +kernel
theorem dL_presses_18 : decode cL_presses 18 = .ok (.istore 7, 2) := by decide +kernel
theorem dL_presses_20 : decode cL_presses 20 = .ok (.iload 7, 2) := by decide +kernel
theorem dL_presses_22 : decode cL_presses 22 = .ok (.bipush 12, 2) := by decide +kernel
theorem dL_presses_24 : decode cL_presses 24 = .ok (.if_icmp .ge 54, 3) := by decide +kernel
theorem dL_presses_27 : decode cL_presses 27 = .ok (.iload 4, 2) := by decide +kernel
theorem dL_presses_29 : decode cL_presses 29 = .ok (.iload 7, 2) := by decide +kernel
theorem dL_presses_31 : decode cL_presses 31 = .ok (.ishr, 1) := by decide +kernel
theorem dL_presses_32 : decode cL_presses 32 = .ok (.iconst 1, 1) := by decide +kernel
theorem dL_presses_33 : decode cL_presses 33 = .ok (.iand, 1) := by decide +kernel
theorem dL_presses_34 : decode cL_presses 34 = .ok (.iconst 1, 1) := by decide +kernel
theorem dL_presses_35 : decode cL_presses 35 = .ok (.if_icmp .ne 13, 3) := by decide +kernel
theorem dL_presses_38 : decode cL_presses 38 = .ok (.iload 5, 2) := by decide +kernel
theorem dL_presses_40 : decode cL_presses 40 = .ok (.ifCond .ge 8, 3) := by decide +kernel
theorem dL_presses_43 : decode cL_presses 43 = .ok (.iload 7, 2) := by decide +kernel
theorem dL_presses_45 : decode cL_presses 45 = .ok (.goto 5, 3) := by decide +kernel
theorem dL_presses_48 : decode cL_presses 48 = .ok (.iload 5, 2) := by decide +kernel
theorem dL_presses_50 : decode cL_presses 50 = .ok (.istore 5, 2) := by decide +kernel
theorem dL_presses_52 : decode cL_presses 52 = .ok (.iload 4, 2) := by decide +kernel
theorem dL_presses_54 : decode cL_presses 54 = .ok (.iload 7, 2) := by decide +kernel
theorem dL_presses_56 : decode cL_presses 56 = .ok (.ishr, 1) := by decide +kernel
theorem dL_presses_57 : decode cL_presses 57 = .ok (.iconst 1, 1) := by decide +kernel
theorem dL_presses_58 : decode cL_presses 58 = .ok (.iand, 1) := by decide +kernel
theorem dL_presses_59 : decode cL_presses 59 = .ok (.iconst 1, 1) := by decide +kernel
theorem dL_presses_60 : decode cL_presses 60 = .ok (.if_icmp .ne 8, 3) := by decide +kernel
theorem dL_presses_63 : decode cL_presses 63 = .ok (.iload 7, 2) := by decide +kernel
theorem dL_presses_65 : decode cL_presses 65 = .ok (.goto 5, 3) := by decide +kernel
theorem dL_presses_68 : decode cL_presses 68 = .ok (.iload 6, 2) := by decide +kernel
theorem dL_presses_70 : decode cL_presses 70 = .ok (.istore 6, 2) := by decide +kernel
theorem dL_presses_72 : decode cL_presses 72 = .ok (.iinc 7 1, 3) := by decide +kernel
theorem dL_presses_75 : decode cL_presses 75 = .ok (.goto (-55), 3) := by decide +kernel
theorem dL_presses_78 : decode cL_presses 78 = .ok (.iload 5, 2) := by decide +kernel
theorem dL_presses_80 : decode cL_presses 80 = .ok (.ifCond .ge 4, 3) := by decide +kernel
theorem dL_presses_83 : decode cL_presses 83 = .ok (.return_, 1) := by decide +kernel
theorem dL_presses_84 : decode cL_presses 84 = .ok (.iload_n 0, 1) := by decide +kernel
theorem dL_presses_85 : decode cL_presses 85 = .ok (.bipush 6, 2) := by decide +kernel
theorem dL_presses_87 : decode cL_presses 87 = .ok (.if_icmp .ge 10, 3) := by decide +kernel
theorem dL_presses_90 : decode cL_presses 90 = .ok (.aload_n 3, 1) := by decide +kernel
theorem dL_presses_91 : decode cL_presses 91 = .ok (.iload 6, 2) := by decide +kernel
theorem dL_presses_93 : decode cL_presses 93 = .ok (.iaload, 1) := by decide +kernel
theorem dL_presses_94 : decode cL_presses 94 = .ok (.goto 7, 3) := by decide +kernel
theorem dL_presses_97 : decode cL_presses 97 = .ok (.aload_n 3, 1) := by decide +kernel
theorem dL_presses_98 : decode cL_presses 98 = .ok (.iload 5, 2) := by decide +kernel
theorem dL_presses_100 : decode cL_presses 100 = .ok (.iaload, 1) := by decide +kernel
theorem dL_presses_101 : decode cL_presses 101 = .ok (.istore 7, 2) := by decide +kernel
theorem dL_presses_103 : decode cL_presses 103 = .ok (.iload_n 0, 1) := by decide +kernel
theorem dL_presses_104 : decode cL_presses 104 = .ok (.bipush 6, 2) := by decide +kernel
theorem dL_presses_106 : decode cL_presses 106 = .ok (.if_icmp .ge 50, 3) := by decide +kernel
theorem dL_presses_109 : decode cL_presses 109 = .ok (.iload 5, 2) := by decide +kernel
theorem dL_presses_111 : decode cL_presses 111 = .ok (.istore 8, 2) := by decide +kernel
theorem dL_presses_113 : decode cL_presses 113 = .ok (.iload 8, 2) := by decide +kernel
theorem dL_presses_115 : decode cL_presses 115 = .ok (.iload 6, 2) := by decide +kernel
theorem dL_presses_117 : decode cL_presses 117 = .ok (.if_icmp .gt 36, 3) := by decide +kernel
theorem dL_presses_120 : decode cL_presses 120 = .ok (.iload 4, 2) := by decide +kernel
theorem dL_presses_122 : decode cL_presses 122 = .ok (.iload 8, 2) := by decide +kernel
theorem dL_presses_124 : decode cL_presses 124 = .ok (.ishr, 1) := by decide +kernel
theorem dL_presses_125 : decode cL_presses 125 = .ok (.iconst 1, 1) := by decide +kernel
theorem dL_presses_126 : decode cL_presses 126 = .ok (.iand, 1) := by decide +kernel
theorem dL_presses_127 : decode cL_presses 127 = .ok (.iconst 1, 1) := by decide +kernel
theorem dL_presses_128 : decode cL_presses 128 = .ok (.if_icmp .ne 19, 3) := by decide +kernel
theorem dL_presses_131 : decode cL_presses 131 = .ok (.aload_n 3, 1) := by decide +kernel
theorem dL_presses_132 : decode cL_presses 132 = .ok (.iload 8, 2) := by decide +kernel
theorem dL_presses_134 : decode cL_presses 134 = .ok (.iaload, 1) := by decide +kernel
theorem dL_presses_135 : decode cL_presses 135 = .ok (.istore 9, 2) := by decide +kernel
theorem dL_presses_137 : decode cL_presses 137 = .ok (.aload_n 3, 1) := by decide +kernel
theorem dL_presses_138 : decode cL_presses 138 = .ok (.iload 8, 2) := by decide +kernel
theorem dL_presses_140 : decode cL_presses 140 = .ok (.iload 7, 2) := by decide +kernel
theorem dL_presses_142 : decode cL_presses 142 = .ok (.iastore, 1) := by decide +kernel
theorem dL_presses_143 : decode cL_presses 143 = .ok (.iload 9, 2) := by decide +kernel
theorem dL_presses_145 : decode cL_presses 145 = .ok (.istore 7, 2) := by decide +kernel
theorem dL_presses_147 : decode cL_presses 147 = .ok (.iinc 8 1, 3) := by decide +kernel
theorem dL_presses_150 : decode cL_presses 150 = .ok (.goto (-37), 3) := by decide +kernel
theorem dL_presses_153 : decode cL_presses 153 = .ok (.goto 47, 3) := by decide +kernel
theorem dL_presses_156 : decode cL_presses 156 = .ok (.iload 6, 2) := by decide +kernel
theorem dL_presses_158 : decode cL_presses 158 = .ok (.istore 8, 2) := by decide +kernel
theorem dL_presses_160 : decode cL_presses 160 = .ok (.iload 8, 2) := by decide +kernel
theorem dL_presses_162 : decode cL_presses 162 = .ok (.iload 5, 2) := by decide +kernel
theorem dL_presses_164 : decode cL_presses 164 = .ok (.if_icmp .lt 36, 3) := by decide +kernel
theorem dL_presses_167 : decode cL_presses 167 = .ok (.iload 4, 2) := by decide +kernel
theorem dL_presses_169 : decode cL_presses 169 = .ok (.iload 8, 2) := by decide +kernel
