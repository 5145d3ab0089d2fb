theorem dX7_repeat_60 : decode cX7_repeat 60 = .ok (.aload_n 0, 1) := by decide +kernel
theorem dX7_repeat_61 : decode cX7_repeat 61 = .ok (.getfield 19, 3) := by decide +kernel
theorem dX7_repeat_64 : decode cX7_repeat 64 = .ok (.aload_n 0, 1) := by decide +kernel
theorem dX7_repeat_65 : decode cX7_repeat 65 = .ok (.getfield 10, 3) := by decide +kernel
theorem dX7_repeat_68 : decode cX7_repeat 68 = .ok (.invokevirtual 52, 3) := by decide +kernel
theorem dX7_repeat_71 : decode cX7_repeat 71 = .ok (.aload_n 0, 1) := by decide +kernel
theorem dX7_repeat_72 : decode cX7_repeat 72 = .ok (.getfield 44, 3) := by decide +kernel
theorem dX7_repeat_75 : decode cX7_repeat 75 = .ok (.iconst 0, 1) := by decide +kernel
theorem dX7_repeat_76 : decode cX7_repeat 76 = .ok (.putfield 99, 3) := by decide +kernel
theorem dX7_repeat_79 : decode cX7_repeat 79 = .ok (.iconst 0, 1) := by decide +kernel
theorem dX7_repeat_80 : decode cX7_repeat 80 = .ok (.istore 6, 2) := by decide +kernel
theorem dX7_repeat_82 : decode cX7_repeat 82 = .ok (.iload 6, 2) := by decide +kernel
theorem dX7_repeat_84 : decode cX7_repeat 84 = .ok (.iload_n 3, 1) := by decide +kernel
theorem dX7_repeat_85 : decode cX7_repeat 85 = .ok (.if_icmp .ge 18, 3) := by decide +kernel
theorem dX7_repeat_88 : decode cX7_repeat 88 = .ok (.aload_n 0, 1) := by decide +kernel
theorem dX7_repeat_89 : decode cX7_repeat 89 = .ok (.getfield 44, 3) := by decide +kernel
theorem dX7_repeat_92 : decode cX7_repeat 92 = .ok (.aload 5, 2) := by decide +kernel
theorem dX7_repeat_94 : decode cX7_repeat 94 = .ok (.invokevirtual 100, 3) := by decide +kernel
theorem dX7_repeat_97 : decode cX7_repeat 97 = .ok (.iinc 6 1, 3) := by decide +kernel
theorem dX7_repeat_100 : decode cX7_repeat 100 = .ok (.goto (-18), 3) := by decide +kernel
theorem dX7_repeat_103 : decode cX7_repeat 103 = .ok (.aload 4, 2) := by decide +kernel
theorem dX7_repeat_105 : decode cX7_repeat 105 = .ok (.aload_n 0, 1) := by decide +kernel
theorem dX7_repeat_106 : decode cX7_repeat 106 = .ok (.getfield 44, 3) := by decide +kernel
theorem dX7_repeat_109 : decode cX7_repeat 109 = .ok (.invokevirtual 91, 3) := by decide +kernel
theorem dX7_repeat_112 : decode cX7_repeat 112 = .ok (.aload 4, 2) := by decide +kernel
theorem dX7_repeat_114 : decode cX7_repeat 114 = .ok (.getfield 99, 3) := by decide +kernel
theorem dX7_repeat_117 : decode cX7_repeat 117 = .ok (.ireturn, 1) := by decide +kernel
set_option maxRecDepth 20000 in
theorem ggX7_weave_X1_draftAt : GoodIn wsX7_weave wsX1_draftAt := goodIn_r _ [11, 12, 13, 14, 15, 134, 135, 136, 137, 138, 139, 140] (by decide +kernel) (by decide +kernel)
set_option maxRecDepth 20000 in
theorem gX7_weave_X1_draftAt : GoodIn wsX7_weave (wsV RX7 83 RX1 yX1_draftAt wsX1_draftAt) := goodIn_app (goodIn_of _ (by decide +kernel)) ggX7_weave_X1_draftAt
set_option maxRecDepth 20000 in
theorem ggX7_weave_X3_keep : GoodIn wsX7_weave wsX3_keep := goodIn_r _ [20, 21, 22, 23, 24, 10, 25, 26, 27, 19, 28, 13, 14, 15, 29, 30, 31, 32, 33, 34, 35, 36, 37, 38, 39, 40, 41, 42, 12, 43, 44, 45, 46, 47, 48, 49, 50, 51, 52, 53, 54, 55, 56, 57, 58, 59, 60, 61, 62, 63, 64, 143, 144, 134, 135, 136, 137, 138, 139, 140, 141, 142] (by decide +kernel) (by decide +kernel)
set_option maxRecDepth 20000 in
theorem gX7_weave_X3_keep : GoodIn wsX7_weave (wsV RX7 52 RX3 yX3_keep wsX3_keep) := goodIn_app (goodIn_of _ (by decide +kernel)) ggX7_weave_X3_keep
set_option maxRecDepth 20000 in
theorem ggX7_weave_X1_wayOf : GoodIn wsX7_weave wsX1_wayOf := goodIn_r _ [68, 37, 69, 70, 8, 9, 10, 11, 12, 13, 14, 15, 71, 72, 73, 46, 74, 50, 75, 76, 77, 78, 79, 80, 81, 82, 41, 36, 83, 84, 85, 86, 87, 88, 89, 90, 91, 92, 93, 94, 95, 96, 97, 98, 99, 100, 101, 102, 103, 104, 105, 106, 107, 108, 109, 141, 142, 134, 135, 136, 137, 138, 139, 140] (by decide +kernel) (by decide +kernel)
set_option maxRecDepth 20000 in
theorem gX7_weave_X1_wayOf : GoodIn wsX7_weave (wsV RX7 109 RX1 yX1_wayOf wsX1_wayOf) := goodIn_app (goodIn_of _ (by decide +kernel)) ggX7_weave_X1_wayOf
set_option maxRecDepth 20000 in
theorem ggX7_weave_X6_power : GoodIn wsX7_weave wsX6_power := goodIn_r _ [112, 93, 113, 107, 91, 108, 109, 84, 85, 86] (by decide +kernel) (by decide +kernel)
set_option maxRecDepth 20000 in
theorem gX7_weave_X6_power : GoodIn wsX7_weave (va_wsS RX7 113 yX6_power wsX6_power) := goodIn_app (goodIn_of _ (by decide +kernel)) ggX7_weave_X6_power
set_option maxRecDepth 20000 in
theorem ggX7_weave_X4_moved : GoodIn wsX7_weave wsX4_moved := goodIn_r _ [104, 105, 84, 85, 86] (by decide +kernel) (by decide +kernel)
set_option maxRecDepth 20000 in
theorem gX7_weave_X4_moved : GoodIn wsX7_weave (va_wsS RX7 119 yX4_moved wsX4_moved) := goodIn_app (goodIn_of _ (by decide +kernel)) ggX7_weave_X4_moved
set_option maxRecDepth 20000 in
theorem ggX7_weave_X6_staying : GoodIn wsX7_weave wsX6_staying := goodIn_r _ [117, 93, 118, 119, 91, 120, 109, 84, 85, 86, 121, 122, 123, 124, 125, 126, 127] (by decide +kernel) (by decide +kernel)
set_option maxRecDepth 20000 in
theorem gX7_weave_X6_staying : GoodIn wsX7_weave (va_wsS RX7 129 yX6_staying wsX6_staying) := goodIn_app (goodIn_of _ (by decide +kernel)) ggX7_weave_X6_staying
theorem dX7_weave_0 : decode cX7_weave 0 = .ok (.aload_n 0, 1) := by decide +kernel
theorem dX7_weave_1 : decode cX7_weave 1 = .ok (.getfield 10, 3) := by decide +kernel
theorem dX7_weave_4 : decode cX7_weave 4 = .ok (.iload_n 1, 1) := by decide +kernel
theorem dX7_weave_5 : decode cX7_weave 5 = .ok (.invokevirtual 83, 3) := by decide +kernel
theorem dX7_weave_8 : decode cX7_weave 8 = .ok (.astore_n 3, 1) := by decide +kernel
theorem dX7_weave_9 : decode cX7_weave 9 = .ok (.aload_n 3, 1) := by decide +kernel
theorem dX7_weave_10 : decode cX7_weave 10 = .ok (.ifnonnull 5, 3) := by decide +kernel
theorem dX7_weave_13 : decode cX7_weave 13 = .ok (.iconst (-1), 1) := by decide +kernel
theorem dX7_weave_14 : decode cX7_weave 14 = .ok (.ireturn, 1) := by decide +kernel
theorem dX7_weave_15 : decode cX7_weave 15 = .ok (.iload_n 2, 1) := by decide +kernel
theorem dX7_weave_16 : decode cX7_weave 16 = .ok (.iconst 1, 1) := by decide +kernel
theorem dX7_weave_17 : decode cX7_weave 17 = .ok (.if_icmp .lt 10, 3) := by decide +kernel
theorem dX7_weave_20 : decode cX7_weave 20 = .ok (.iload_n 2, 1) := by decide +kernel
theorem dX7_weave_21 : decode cX7_weave 21 = .ok (.sipush 1000, 3) := by decide +kernel
theorem dX7_weave_24 : decode cX7_weave 24 = .ok (.if_icmp .le 6, 3) := by decide +kernel
theorem dX7_weave_27 : decode cX7_weave 27 = .ok (.bipush (-2), 2) := by decide +kernel
theorem dX7_weave_29 : decode cX7_weave 29 = .ok (.ireturn, 1) := by decide +kernel
theorem dX7_weave_30 : decode cX7_weave 30 = .ok (.aload_n 0, 1) := by decide +kernel
theorem dX7_weave_31 : decode cX7_weave 31 = .ok (.getfield 19, 3) := by decide +kernel
theorem dX7_weave_34 : decode cX7_weave 34 = .ok (.aload_n 0, 1) := by decide +kernel
theorem dX7_weave_35 : decode cX7_weave 35 = .ok (.getfield 10, 3) := by decide +kernel
theorem dX7_weave_38 : decode cX7_weave 38 = .ok (.invokevirtual 52, 3) := by decide +kernel
theorem dX7_weave_41 : decode cX7_weave 41 = .ok (.aload_n 0, 1) := by decide +kernel
theorem dX7_weave_42 : decode cX7_weave 42 = .ok (.getfield 10, 3) := by decide +kernel
theorem dX7_weave_45 : decode cX7_weave 45 = .ok (.aload_n 0, 1) := by decide +kernel
theorem dX7_weave_46 : decode cX7_weave 46 = .ok (.getfield 10, 3) := by decide +kernel
theorem dX7_weave_49 : decode cX7_weave 49 = .ok (.getfield 106, 3) := by decide +kernel
theorem dX7_weave_52 : decode cX7_weave 52 = .ok (.aload_n 0, 1) := by decide +kernel
theorem dX7_weave_53 : decode cX7_weave 53 = .ok (.getfield 10, 3) := by decide +kernel
theorem dX7_weave_56 : decode cX7_weave 56 = .ok (.iload_n 1, 1) := by decide +kernel
theorem dX7_weave_57 : decode cX7_weave 57 = .ok (.invokevirtual 109, 3) := by decide +kernel
theorem dX7_weave_60 : decode cX7_weave 60 = .ok (.iload_n 2, 1) := by decide +kernel
theorem dX7_weave_61 : decode cX7_weave 61 = .ok (.invokestatic 113, 3) := by decide +kernel
theorem dX7_weave_64 : decode cX7_weave 64 = .ok (.invokestatic 119, 3) := by decide +kernel
theorem dX7_weave_67 : decode cX7_weave 67 = .ok (.putfield 106, 3) := by decide +kernel
theorem dX7_weave_70 : decode cX7_weave 70 = .ok (.aload_n 0, 1) := by decide +kernel
theorem dX7_weave_71 : decode cX7_weave 71 = .ok (.getfield 10, 3) := by decide +kernel
theorem dX7_weave_74 : decode cX7_weave 74 = .ok (.dup, 1) := by decide +kernel
theorem dX7_weave_75 : decode cX7_weave 75 = .ok (.getfield 123, 3) := by decide +kernel
theorem dX7_weave_78 : decode cX7_weave 78 = .ok (.aload_n 3, 1) := by decide +kernel
theorem dX7_weave_79 : decode cX7_weave 79 = .ok (.getfield 99, 3) := by decide +kernel
theorem dX7_weave_82 : decode cX7_weave 82 = .ok (.iload_n 2, 1) := by decide +kernel
theorem dX7_weave_83 : decode cX7_weave 83 = .ok (.imul, 1) := by decide +kernel
theorem dX7_weave_84 : decode cX7_weave 84 = .ok (.iadd, 1) := by decide +kernel
theorem dX7_weave_85 : decode cX7_weave 85 = .ok (.putfield 123, 3) := by decide +kernel
theorem dX7_weave_88 : decode cX7_weave 88 = .ok (.aload_n 0, 1) := by decide +kernel
theorem dX7_weave_89 : decode cX7_weave 89 = .ok (.getfield 10, 3) := by decide +kernel
theorem dX7_weave_92 : decode cX7_weave 92 = .ok (.dup, 1) := by decide +kernel
theorem dX7_weave_93 : decode cX7_weave 93 = .ok (.getfield 126, 3) := by decide +kernel
theorem dX7_weave_96 : decode cX7_weave 96 = .ok (.iload_n 2, 1) := by decide +kernel
theorem dX7_weave_97 : decode cX7_weave 97 = .ok (.iadd, 1) := by decide +kernel
theorem dX7_weave_98 : decode cX7_weave 98 = .ok (.putfield 126, 3) := by decide +kernel
theorem dX7_weave_101 : decode cX7_weave 101 = .ok (.aload_n 0, 1) := by decide +kernel
theorem dX7_weave_102 : decode cX7_weave 102 = .ok (.getfield 10, 3) := by decide +kernel
theorem dX7_weave_105 : decode cX7_weave 105 = .ok (.getfield 106, 3) := by decide +kernel
theorem dX7_weave_108 : decode cX7_weave 108 = .ok (.invokestatic 129, 3) := by decide +kernel
theorem dX7_weave_111 : decode cX7_weave 111 = .ok (.ireturn, 1) := by decide +kernel
set_option maxRecDepth 20000 in
theorem ggX7_dye_X7_isBelow : GoodIn wsX7_dye wsX7_isBelow := goodIn_r _ [7] (by decide +kernel) (by decide +kernel)
set_option maxRecDepth 20000 in
theorem gX7_dye_X7_isBelow : GoodIn wsX7_dye (va_wsS RX7 48 yX7_isBelow wsX7_isBelow) := goodIn_app (goodIn_of _ (by decide +kernel)) ggX7_dye_X7_isBelow
set_option maxRecDepth 20000 in
theorem ggX7_dye_X3_keep : GoodIn wsX7_dye wsX3_keep := goodIn_r _ [12, 13, 14, 15, 16, 17, 18, 19, 20, 11, 21, 5, 6, 7, 22, 23, 24, 25, 26, 27, 28, 29, 30, 31, 32, 33, 34, 35, 36, 37, 38, 39, 40, 41, 42, 43, 44, 45, 46, 47, 48, 49, 50, 51, 52, 53, 54, 55, 56, 57, 58, 81, 82, 74, 75, 76, 77, 78, 79, 80, 83, 84] (by decide +kernel) (by decide +kernel)
set_option maxRecDepth 20000 in
theorem gX7_dye_X3_keep : GoodIn wsX7_dye (wsV RX7 52 RX3 yX3_keep wsX3_keep) := goodIn_app (goodIn_of _ (by decide +kernel)) ggX7_dye_X3_keep
set_option maxRecDepth 20000 in
theorem ggX7_dye_X4_at : GoodIn wsX7_dye wsX4_at := goodIn_r _ [62] (by decide +kernel) (by decide +kernel)
set_option maxRecDepth 20000 in
theorem gX7_dye_X4_at : GoodIn wsX7_dye (va_wsS RX7 60 yX4_at wsX4_at) := goodIn_app (goodIn_of _ (by decide +kernel)) ggX7_dye_X4_at
set_option maxRecDepth 20000 in
theorem ggX7_dye_X4_with : GoodIn wsX7_dye wsX4_with := goodIn_r _ [65, 66, 67] (by decide +kernel) (by decide +kernel)
set_option maxRecDepth 20000 in
theorem gX7_dye_X4_with : GoodIn wsX7_dye (va_wsS RX7 66 yX4_with wsX4_with) := goodIn_app (goodIn_of _ (by decide +kernel)) ggX7_dye_X4_with
theorem dX7_dye_0 : decode cX7_dye 0 = .ok (.iload_n 1, 1) := by decide +kernel
theorem dX7_dye_1 : decode cX7_dye 1 = .ok (.bipush 12, 2) := by decide +kernel
theorem dX7_dye_3 : decode cX7_dye 3 = .ok (.invokestatic 48, 3) := by decide +kernel
theorem dX7_dye_6 : decode cX7_dye 6 = .ok (.ifCond .ne 5, 3) := by decide +kernel
theorem dX7_dye_9 : decode cX7_dye 9 = .ok (.iconst (-1), 1) := by decide +kernel
theorem dX7_dye_10 : decode cX7_dye 10 = .ok (.ireturn, 1) := by decide +kernel
theorem dX7_dye_11 : decode cX7_dye 11 = .ok (.iload_n 2, 1) := by decide +kernel
theorem dX7_dye_12 : decode cX7_dye 12 = .ok (.iconst 4, 1) := by decide +kernel
theorem dX7_dye_13 : decode cX7_dye 13 = .ok (.invokestatic 48, 3) := by decide +kernel
theorem dX7_dye_16 : decode cX7_dye 16 = .ok (.ifCond .ne 6, 3) := by decide +kernel
theorem dX7_dye_19 : decode cX7_dye 19 = .ok (.bipush (-2), 2) := by decide +kernel
theorem dX7_dye_21 : decode cX7_dye 21 = .ok (.ireturn, 1) := by decide +kernel
theorem dX7_dye_22 : decode cX7_dye 22 = .ok (.aload_n 0, 1) := by decide +kernel
theorem dX7_dye_23 : decode cX7_dye 23 = .ok (.getfield 19, 3) := by decide +kernel
theorem dX7_dye_26 : decode cX7_dye 26 = .ok (.aload_n 0, 1) := by decide +kernel
theorem dX7_dye_27 : decode cX7_dye 27 = .ok (.getfield 10, 3) := by decide +kernel
theorem dX7_dye_30 : decode cX7_dye 30 = .ok (.invokevirtual 52, 3) := by decide +kernel
theorem dX7_dye_33 : decode cX7_dye 33 = .ok (.aload_n 0, 1) := by decide +kernel
theorem dX7_dye_34 : decode cX7_dye 34 = .ok (.getfield 10, 3) := by decide +kernel
theorem dX7_dye_37 : decode cX7_dye 37 = .ok (.getfield 133, 3) := by decide +kernel
theorem dX7_dye_40 : decode cX7_dye 40 = .ok (.iload_n 1, 1) := by decide +kernel
theorem dX7_dye_41 : decode cX7_dye 41 = .ok (.invokestatic 60, 3) := by decide +kernel
theorem dX7_dye_44 : decode cX7_dye 44 = .ok (.istore_n 3, 1) := by decide +kernel
theorem dX7_dye_45 : decode cX7_dye 45 = .ok (.aload_n 0, 1) := by decide +kernel
theorem dX7_dye_46 : decode cX7_dye 46 = .ok (.getfield 10, 3) := by decide +kernel
theorem dX7_dye_49 : decode cX7_dye 49 = .ok (.aload_n 0, 1) := by decide +kernel
theorem dX7_dye_50 : decode cX7_dye 50 = .ok (.getfield 10, 3) := by decide +kernel
theorem dX7_dye_53 : decode cX7_dye 53 = .ok (.getfield 133, 3) := by decide +kernel
theorem dX7_dye_56 : decode cX7_dye 56 = .ok (.iload_n 1, 1) := by decide +kernel
theorem dX7_dye_57 : decode cX7_dye 57 = .ok (.iload_n 2, 1) := by decide +kernel
theorem dX7_dye_58 : decode cX7_dye 58 = .ok (.invokestatic 66, 3) := by decide +kernel
theorem dX7_dye_61 : decode cX7_dye 61 = .ok (.putfield 133, 3) := by decide +kernel
theorem dX7_dye_64 : decode cX7_dye 64 = .ok (.iload_n 3, 1) := by decide +kernel
theorem dX7_dye_65 : decode cX7_dye 65 = .ok (.ireturn, 1) := by decide +kernel
set_option maxRecDepth 20000 in
theorem ggX7_place_X7_isBelow : GoodIn wsX7_place wsX7_isBelow := goodIn_r _ [7] (by decide +kernel) (by decide +kernel)
set_option maxRecDepth 20000 in
theorem gX7_place_X7_isBelow : GoodIn wsX7_place (va_wsS RX7 48 yX7_isBelow wsX7_isBelow) := goodIn_app (goodIn_of _ (by decide +kernel)) ggX7_place_X7_isBelow
set_option maxRecDepth 20000 in
theorem ggX7_place_X4_at : GoodIn wsX7_place wsX4_at := goodIn_r _ [11] (by decide +kernel) (by decide +kernel)
set_option maxRecDepth 20000 in
theorem gX7_place_X4_at : GoodIn wsX7_place (va_wsS RX7 60 yX4_at wsX4_at) := goodIn_app (goodIn_of _ (by decide +kernel)) ggX7_place_X4_at
set_option maxRecDepth 20000 in
theorem ggX7_place_X1_coloursByPlace : GoodIn wsX7_place wsX1_coloursByPlace := goodIn_r _ [16, 17, 18, 19, 20, 21, 22, 23, 9, 10, 11, 39, 40, 41, 42, 43, 44, 45] (by decide +kernel) (by decide +kernel)
set_option maxRecDepth 20000 in
theorem gX7_place_X1_coloursByPlace : GoodIn wsX7_place (wsV RX7 136 RX1 yX1_coloursByPlace wsX1_coloursByPlace) := goodIn_app (goodIn_of _ (by decide +kernel)) ggX7_place_X1_coloursByPlace
set_option maxRecDepth 20000 in
theorem ggX7_place_X1_treadlesRaising : GoodIn wsX7_place wsX1_treadlesRaising := goodIn_r _ [27, 28, 29, 30, 9, 10, 11, 31, 6, 32, 39, 40, 41, 42, 43, 44, 45] (by decide +kernel) (by decide +kernel)
set_option maxRecDepth 20000 in
theorem gX7_place_X1_treadlesRaising : GoodIn wsX7_place (wsV RX7 140 RX1 yX1_treadlesRaising wsX1_treadlesRaising) := goodIn_app (goodIn_of _ (by decide +kernel)) ggX7_place_X1_treadlesRaising
theorem dX7_place_0 : decode cX7_place 0 = .ok (.iload_n 1, 1) := by decide +kernel
theorem dX7_place_1 : decode cX7_place 1 = .ok (.bipush 12, 2) := by decide +kernel
theorem dX7_place_3 : decode cX7_place 3 = .ok (.invokestatic 48, 3) := by decide +kernel
theorem dX7_place_6 : decode cX7_place 6 = .ok (.ifCond .ne 5, 3) := by decide +kernel
theorem dX7_place_9 : decode cX7_place 9 = .ok (.iconst (-1), 1) := by decide +kernel
theorem dX7_place_10 : decode cX7_place 10 = .ok (.ireturn, 1) := by decide +kernel
theorem dX7_place_11 : decode cX7_place 11 = .ok (.iload_n 2, 1) := by decide +kernel
theorem dX7_place_12 : decode cX7_place 12 = .ok (.tableswitch 77 0 3 #[32, 44, 56, 68], 32) := by decide +kernel
theorem dX7_place_44 : decode cX7_place 44 = .ok (.aload_n 0, 1) := by decide +kernel
theorem dX7_place_45 : decode cX7_place 45 = .ok (.getfield 10, 3) := by decide +kernel
theorem dX7_place_48 : decode cX7_place 48 = .ok (.getfield 56, 3) := by decide +kernel
theorem dX7_place_51 : decode cX7_place 51 = .ok (.iload_n 1, 1) := by decide +kernel
theorem dX7_place_52 : decode cX7_place 52 = .ok (.invokestatic 60, 3) := by decide +kernel
theorem dX7_place_55 : decode cX7_place 55 = .ok (.ireturn, 1) := by decide +kernel
theorem dX7_place_56 : decode cX7_place 56 = .ok (.aload_n 0, 1) := by decide +kernel
theorem dX7_place_57 : decode cX7_place 57 = .ok (.getfield 10, 3) := by decide +kernel
theorem dX7_place_60 : decode cX7_place 60 = .ok (.getfield 106, 3) := by decide +kernel
theorem dX7_place_63 : decode cX7_place 63 = .ok (.iload_n 1, 1) := by decide +kernel
theorem dX7_place_64 : decode cX7_place 64 = .ok (.invokestatic 60, 3) := by decide +kernel
theorem dX7_place_67 : decode cX7_place 67 = .ok (.ireturn, 1) := by decide +kernel
theorem dX7_place_68 : decode cX7_place 68 = .ok (.aload_n 0, 1) := by decide +kernel
theorem dX7_place_69 : decode cX7_place 69 = .ok (.getfield 10, 3) := by decide +kernel
theorem dX7_place_72 : decode cX7_place 72 = .ok (.invokevirtual 136, 3) := by decide +kernel
theorem dX7_place_75 : decode cX7_place 75 = .ok (.iload_n 1, 1) := by decide +kernel
theorem dX7_place_76 : decode cX7_place 76 = .ok (.invokestatic 60, 3) := by decide +kernel
theorem dX7_place_79 : decode cX7_place 79 = .ok (.ireturn, 1) := by decide +kernel
theorem dX7_place_80 : decode cX7_place 80 = .ok (.aload_n 0, 1) := by decide +kernel
theorem dX7_place_81 : decode cX7_place 81 = .ok (.getfield 10, 3) := by decide +kernel
theorem dX7_place_84 : decode cX7_place 84 = .ok (.iload_n 1, 1) := by decide +kernel
theorem dX7_place_85 : decode cX7_place 85 = .ok (.invokevirtual 140, 3) := by decide +kernel
theorem dX7_place_88 : decode cX7_place 88 = .ok (.ireturn, 1) := by decide +kernel
theorem dX7_place_89 : decode cX7_place 89 = .ok (.bipush (-2), 2) := by decide +kernel
theorem dX7_place_91 : decode cX7_place 91 = .ok (.ireturn, 1) := by decide +kernel
set_option maxRecDepth 20000 in
theorem ggX7_treadle_X7_isBelow : GoodIn wsX7_treadle wsX7_isBelow := goodIn_r _ [6] (by decide +kernel) (by decide +kernel)
set_option maxRecDepth 20000 in
theorem gX7_treadle_X7_isBelow : GoodIn wsX7_treadle (va_wsS RX7 48 yX7_isBelow wsX7_isBelow) := goodIn_app (goodIn_of _ (by decide +kernel)) ggX7_treadle_X7_isBelow
set_option maxRecDepth 20000 in
theorem ggX7_treadle_X1_raisedBy : GoodIn wsX7_treadle wsX1_raisedBy := goodIn_r _ [11, 12, 13, 4, 5, 6, 14, 15, 16, 17, 18, 19, 26, 27, 28, 29, 30, 31, 32] (by decide +kernel) (by decide +kernel)
set_option maxRecDepth 20000 in
theorem gX7_treadle_X1_raisedBy : GoodIn wsX7_treadle (wsV RX7 74 RX1 yX1_raisedBy wsX1_raisedBy) := goodIn_app (goodIn_of _ (by decide +kernel)) ggX7_treadle_X1_raisedBy
theorem dX7_treadle_0 : decode cX7_treadle 0 = .ok (.iload_n 1, 1) := by decide +kernel
theorem dX7_treadle_1 : decode cX7_treadle 1 = .ok (.bipush 6, 2) := by decide +kernel
theorem dX7_treadle_3 : decode cX7_treadle 3 = .ok (.invokestatic 48, 3) := by decide +kernel
theorem dX7_treadle_6 : decode cX7_treadle 6 = .ok (.ifCond .ne 5, 3) := by decide +kernel
theorem dX7_treadle_9 : decode cX7_treadle 9 = .ok (.iconst (-1), 1) := by decide +kernel
theorem dX7_treadle_10 : decode cX7_treadle 10 = .ok (.ireturn, 1) := by decide +kernel
theorem dX7_treadle_11 : decode cX7_treadle 11 = .ok (.iload_n 2, 1) := by decide +kernel
theorem dX7_treadle_12 : decode cX7_treadle 12 = .ok (.lookupswitch 47 #[(0, 28), (1, 38)], 28) := by decide +kernel
theorem dX7_treadle_40 : decode cX7_treadle 40 = .ok (.aload_n 0, 1) := by decide +kernel
theorem dX7_treadle_41 : decode cX7_treadle 41 = .ok (.getfield 10, 3) := by decide +kernel
theorem dX7_treadle_44 : decode cX7_treadle 44 = .ok (.getfield 70, 3) := by decide +kernel
theorem dX7_treadle_47 : decode cX7_treadle 47 = .ok (.iload_n 1, 1) := by decide +kernel
theorem dX7_treadle_48 : decode cX7_treadle 48 = .ok (.iaload, 1) := by decide +kernel
theorem dX7_treadle_49 : decode cX7_treadle 49 = .ok (.ireturn, 1) := by decide +kernel
theorem dX7_treadle_50 : decode cX7_treadle 50 = .ok (.aload_n 0, 1) := by decide +kernel
theorem dX7_treadle_51 : decode cX7_treadle 51 = .ok (.getfield 10, 3) := by decide +kernel
theorem dX7_treadle_54 : decode cX7_treadle 54 = .ok (.iload_n 1, 1) := by decide +kernel
theorem dX7_treadle_55 : decode cX7_treadle 55 = .ok (.invokevirtual 74, 3) := by decide +kernel
theorem dX7_treadle_58 : decode cX7_treadle 58 = .ok (.ireturn, 1) := by decide +kernel
theorem dX7_treadle_59 : decode cX7_treadle 59 = .ok (.bipush (-2), 2) := by decide +kernel
theorem dX7_treadle_61 : decode cX7_treadle 61 = .ok (.ireturn, 1) := by decide +kernel
set_option maxRecDepth 20000 in
theorem ggX7_draft_X1_draftAt : GoodIn wsX7_draft wsX1_draftAt := goodIn_r _ [8, 9, 10, 11, 12, 102, 103, 104, 105, 106, 107, 108] (by decide +kernel) (by decide +kernel)
set_option maxRecDepth 20000 in
theorem gX7_draft_X1_draftAt : GoodIn wsX7_draft (wsV RX7 83 RX1 yX1_draftAt wsX1_draftAt) := goodIn_app (goodIn_of _ (by decide +kernel)) ggX7_draft_X1_draftAt
set_option maxRecDepth 20000 in
theorem ggX7_draft_X1_wayOf : GoodIn wsX7_draft wsX1_wayOf := goodIn_r _ [16, 17, 18, 19, 5, 6, 7, 8, 9, 10, 11, 12, 20, 21, 22, 23, 24, 25, 26, 27, 28, 29, 30, 31, 32, 33, 34, 35, 36, 37, 38, 39, 40, 41, 42, 43, 44, 45, 46, 47, 48, 49, 50, 51, 52, 53, 54, 55, 56, 57, 58, 59, 60, 61, 62, 100, 101, 102, 103, 104, 105, 106, 107, 108] (by decide +kernel) (by decide +kernel)
set_option maxRecDepth 20000 in
theorem gX7_draft_X1_wayOf : GoodIn wsX7_draft (wsV RX7 109 RX1 yX1_wayOf wsX1_wayOf) := goodIn_app (goodIn_of _ (by decide +kernel)) ggX7_draft_X1_wayOf
set_option maxRecDepth 20000 in
theorem ggX7_draft_X6_timesUntilAgain : GoodIn wsX7_draft wsX6_timesUntilAgain := goodIn_r _ [65, 55, 56, 38, 57, 58, 37, 39] (by decide +kernel) (by decide +kernel)
set_option maxRecDepth 20000 in
theorem gX7_draft_X6_timesUntilAgain : GoodIn wsX7_draft (va_wsS RX7 145 yX6_timesUntilAgain wsX6_timesUntilAgain) := goodIn_app (goodIn_of _ (by decide +kernel)) ggX7_draft_X6_timesUntilAgain
set_option maxRecDepth 20000 in
theorem ggX7_draft_X6_alikePlaces : GoodIn wsX7_draft wsX6_alikePlaces := goodIn_r _ [68, 62, 37, 38, 39] (by decide +kernel) (by decide +kernel)
set_option maxRecDepth 20000 in
theorem gX7_draft_X6_alikePlaces : GoodIn wsX7_draft (va_wsS RX7 149 yX6_alikePlaces wsX6_alikePlaces) := goodIn_app (goodIn_of _ (by decide +kernel)) ggX7_draft_X6_alikePlaces
set_option maxRecDepth 20000 in
theorem ggX7_draft_X6_cycles : GoodIn wsX7_draft wsX6_cycles := goodIn_r _ [71, 72, 73, 44, 74, 62, 37, 38, 39] (by decide +kernel) (by decide +kernel)
set_option maxRecDepth 20000 in
theorem gX7_draft_X6_cycles : GoodIn wsX7_draft (va_wsS RX7 152 yX6_cycles wsX6_cycles) := goodIn_app (goodIn_of _ (by decide +kernel)) ggX7_draft_X6_cycles
set_option maxRecDepth 20000 in
theorem ggX7_draft_X6_longestCycle : GoodIn wsX7_draft wsX6_longestCycle := goodIn_r _ [77, 72, 73, 44, 74, 62, 37, 38, 39, 78, 79, 80, 81, 82, 83, 84] (by decide +kernel) (by decide +kernel)
set_option maxRecDepth 20000 in
theorem gX7_draft_X6_longestCycle : GoodIn wsX7_draft (va_wsS RX7 155 yX6_longestCycle wsX6_longestCycle) := goodIn_app (goodIn_of _ (by decide +kernel)) ggX7_draft_X6_longestCycle
set_option maxRecDepth 20000 in
theorem ggX7_draft_X6_crossings : GoodIn wsX7_draft wsX6_crossings := goodIn_r _ [87, 62, 37, 38, 39] (by decide +kernel) (by decide +kernel)
set_option maxRecDepth 20000 in
theorem gX7_draft_X6_crossings : GoodIn wsX7_draft (va_wsS RX7 158 yX6_crossings wsX6_crossings) := goodIn_app (goodIn_of _ (by decide +kernel)) ggX7_draft_X6_crossings
set_option maxRecDepth 20000 in
theorem ggX7_draft_X1_coloursByPlace : GoodIn wsX7_draft wsX1_coloursByPlace := goodIn_r _ [91, 92, 93, 59, 60, 44, 61, 62, 37, 38, 39, 102, 103, 104, 105, 106, 107, 108] (by decide +kernel) (by decide +kernel)
set_option maxRecDepth 20000 in
theorem gX7_draft_X1_coloursByPlace : GoodIn wsX7_draft (wsV RX7 136 RX1 yX1_coloursByPlace wsX1_coloursByPlace) := goodIn_app (goodIn_of _ (by decide +kernel)) ggX7_draft_X1_coloursByPlace
theorem dX7_draft_0 : decode cX7_draft 0 = .ok (.aload_n 0, 1) := by decide +kernel
theorem dX7_draft_1 : decode cX7_draft 1 = .ok (.getfield 10, 3) := by decide +kernel
theorem dX7_draft_4 : decode cX7_draft 4 = .ok (.iload_n 1, 1) := by decide +kernel
theorem dX7_draft_5 : decode cX7_draft 5 = .ok (.invokevirtual 83, 3) := by decide +kernel
theorem dX7_draft_8 : decode cX7_draft 8 = .ok (.astore_n 3, 1) := by decide +kernel
theorem dX7_draft_9 : decode cX7_draft 9 = .ok (.aload_n 3, 1) := by decide +kernel
theorem dX7_draft_10 : decode cX7_draft 10 = .ok (.ifnonnull 5, 3) := by decide +kernel
theorem dX7_draft_13 : decode cX7_draft 13 = .ok (.iconst (-1), 1) := by decide +kernel
theorem dX7_draft_14 : decode cX7_draft 14 = .ok (.ireturn, 1) := by decide +kernel
theorem dX7_draft_15 : decode cX7_draft 15 = .ok (.aload_n 0, 1) := by decide +kernel
theorem dX7_draft_16 : decode cX7_draft 16 = .ok (.getfield 10, 3) := by decide +kernel
theorem dX7_draft_19 : decode cX7_draft 19 = .ok (.iload_n 1, 1) := by decide +kernel
theorem dX7_draft_20 : decode cX7_draft 20 = .ok (.invokevirtual 109, 3) := by decide +kernel
theorem dX7_draft_23 : decode cX7_draft 23 = .ok (.lstore 4, 2) := by decide +kernel
theorem dX7_draft_25 : decode cX7_draft 25 = .ok (.iload_n 2, 1) := by decide +kernel
theorem dX7_draft_26 : decode cX7_draft 26 = .ok (.tableswitch 96 0 6 #[42, 47, 56, 65, 71, 77, 83], 42) := by decide +kernel
theorem dX7_draft_68 : decode cX7_draft 68 = .ok (.aload_n 3, 1) := by decide +kernel
theorem dX7_draft_69 : decode cX7_draft 69 = .ok (.getfield 99, 3) := by decide +kernel
theorem dX7_draft_72 : decode cX7_draft 72 = .ok (.ireturn, 1) := by decide +kernel
theorem dX7_draft_73 : decode cX7_draft 73 = .ok (.lload 4, 2) := by decide +kernel
theorem dX7_draft_75 : decode cX7_draft 75 = .ok (.ldc2_w 143, 3) := by decide +kernel
theorem dX7_draft_78 : decode cX7_draft 78 = .ok (.invokestatic 145, 3) := by decide +kernel
theorem dX7_draft_81 : decode cX7_draft 81 = .ok (.ireturn, 1) := by decide +kernel
theorem dX7_draft_82 : decode cX7_draft 82 = .ok (.lload 4, 2) := by decide +kernel
theorem dX7_draft_84 : decode cX7_draft 84 = .ok (.ldc2_w 143, 3) := by decide +kernel
theorem dX7_draft_87 : decode cX7_draft 87 = .ok (.invokestatic 149, 3) := by decide +kernel
theorem dX7_draft_90 : decode cX7_draft 90 = .ok (.ireturn, 1) := by decide +kernel
theorem dX7_draft_91 : decode cX7_draft 91 = .ok (.lload 4, 2) := by decide +kernel
theorem dX7_draft_93 : decode cX7_draft 93 = .ok (.invokestatic 152, 3) := by decide +kernel
theorem dX7_draft_96 : decode cX7_draft 96 = .ok (.ireturn, 1) := by decide +kernel
theorem dX7_draft_97 : decode cX7_draft 97 = .ok (.lload 4, 2) := by decide +kernel
theorem dX7_draft_99 : decode cX7_draft 99 = .ok (.invokestatic 155, 3) := by decide +kernel
theorem dX7_draft_102 : decode cX7_draft 102 = .ok (.ireturn, 1) := by decide +kernel
theorem dX7_draft_103 : decode cX7_draft 103 = .ok (.lload 4, 2) := by decide +kernel
theorem dX7_draft_105 : decode cX7_draft 105 = .ok (.invokestatic 158, 3) := by decide +kernel
theorem dX7_draft_108 : decode cX7_draft 108 = .ok (.ireturn, 1) := by decide +kernel
theorem dX7_draft_109 : decode cX7_draft 109 = .ok (.lload 4, 2) := by decide +kernel
theorem dX7_draft_111 : decode cX7_draft 111 = .ok (.aload_n 0, 1) := by decide +kernel
theorem dX7_draft_112 : decode cX7_draft 112 = .ok (.getfield 10, 3) := by decide +kernel
theorem dX7_draft_115 : decode cX7_draft 115 = .ok (.invokevirtual 136, 3) := by decide +kernel
theorem dX7_draft_118 : decode cX7_draft 118 = .ok (.invokestatic 145, 3) := by decide +kernel
theorem dX7_draft_121 : decode cX7_draft 121 = .ok (.ireturn, 1) := by decide +kernel
theorem dX7_draft_122 : decode cX7_draft 122 = .ok (.bipush (-2), 2) := by decide +kernel
theorem dX7_draft_124 : decode cX7_draft 124 = .ok (.ireturn, 1) := by decide +kernel
set_option maxRecDepth 20000 in
theorem ggX7_press_X1_draftAt : GoodIn wsX7_press wsX1_draftAt := goodIn_r _ [7, 8, 9, 10, 11, 27, 28, 29, 30, 31, 32, 33] (by decide +kernel) (by decide +kernel)
set_option maxRecDepth 20000 in
theorem gX7_press_X1_draftAt : GoodIn wsX7_press (wsV RX7 83 RX1 yX1_draftAt wsX1_draftAt) := goodIn_app (goodIn_of _ (by decide +kernel)) ggX7_press_X1_draftAt
set_option maxRecDepth 20000 in
theorem ggX7_press_X7_isBelow : GoodIn wsX7_press wsX7_isBelow := goodIn_r _ [11] (by decide +kernel) (by decide +kernel)
set_option maxRecDepth 20000 in
theorem gX7_press_X7_isBelow : GoodIn wsX7_press (va_wsS RX7 48 yX7_isBelow wsX7_isBelow) := goodIn_app (goodIn_of _ (by decide +kernel)) ggX7_press_X7_isBelow
set_option maxRecDepth 20000 in
theorem ggX7_press_X0_pressAt : GoodIn wsX7_press wsX0_pressAt := goodIn_r _ [17, 18, 9, 10, 11, 25, 26] (by decide +kernel) (by decide +kernel)
set_option maxRecDepth 20000 in
theorem gX7_press_X0_pressAt : GoodIn wsX7_press (wsV RX7 161 RX0 yX0_pressAt wsX0_pressAt) := goodIn_app (goodIn_of _ (by decide +kernel)) ggX7_press_X0_pressAt
theorem dX7_press_0 : decode cX7_press 0 = .ok (.aload_n 0, 1) := by decide +kernel
theorem dX7_press_1 : decode cX7_press 1 = .ok (.getfield 10, 3) := by decide +kernel
theorem dX7_press_4 : decode cX7_press 4 = .ok (.iload_n 1, 1) := by decide +kernel
theorem dX7_press_5 : decode cX7_press 5 = .ok (.invokevirtual 83, 3) := by decide +kernel
theorem dX7_press_8 : decode cX7_press 8 = .ok (.astore_n 3, 1) := by decide +kernel
theorem dX7_press_9 : decode cX7_press 9 = .ok (.aload_n 3, 1) := by decide +kernel
theorem dX7_press_10 : decode cX7_press 10 = .ok (.ifnull 14, 3) := by decide +kernel
theorem dX7_press_13 : decode cX7_press 13 = .ok (.iload_n 2, 1) := by decide +kernel
theorem dX7_press_14 : decode cX7_press 14 = .ok (.aload_n 3, 1) := by decide +kernel
theorem dX7_press_15 : decode cX7_press 15 = .ok (.getfield 99, 3) := by decide +kernel
theorem dX7_press_18 : decode cX7_press 18 = .ok (.invokestatic 48, 3) := by decide +kernel
theorem dX7_press_21 : decode cX7_press 21 = .ok (.ifCond .ne 5, 3) := by decide +kernel
theorem dX7_press_24 : decode cX7_press 24 = .ok (.iconst (-1), 1) := by decide +kernel
theorem dX7_press_25 : decode cX7_press 25 = .ok (.ireturn, 1) := by decide +kernel
theorem dX7_press_26 : decode cX7_press 26 = .ok (.aload_n 3, 1) := by decide +kernel
theorem dX7_press_27 : decode cX7_press 27 = .ok (.iload_n 2, 1) := by decide +kernel
theorem dX7_press_28 : decode cX7_press 28 = .ok (.invokevirtual 161, 3) := by decide +kernel
theorem dX7_press_31 : decode cX7_press 31 = .ok (.ireturn, 1) := by decide +kernel
set_option maxRecDepth 20000 in
theorem ggX7_comesTo_X7_isBelow : GoodIn wsX7_comesTo wsX7_isBelow := goodIn_r _ [6] (by decide +kernel) (by decide +kernel)
set_option maxRecDepth 20000 in
theorem gX7_comesTo_X7_isBelow : GoodIn wsX7_comesTo (va_wsS RX7 48 yX7_isBelow wsX7_isBelow) := goodIn_app (goodIn_of _ (by decide +kernel)) ggX7_comesTo_X7_isBelow
set_option maxRecDepth 20000 in
theorem ggX7_comesTo_X1_wayOf : GoodIn wsX7_comesTo wsX1_wayOf := goodIn_r _ [11, 12, 13, 14, 15, 16, 10, 17, 18, 4, 5, 6, 19, 20, 21, 22, 23, 24, 25, 26, 27, 28, 29, 30, 31, 32, 33, 34, 35, 36, 37, 38, 39, 40, 41, 42, 43, 44, 45, 46, 47, 48, 49, 50, 51, 52, 53, 54, 55, 56, 57, 58, 59, 60, 61, 73, 74, 75, 76, 77, 78, 79, 80, 81] (by decide +kernel) (by decide +kernel)
set_option maxRecDepth 20000 in
theorem gX7_comesTo_X1_wayOf : GoodIn wsX7_comesTo (wsV RX7 109 RX1 yX1_wayOf wsX1_wayOf) := goodIn_app (goodIn_of _ (by decide +kernel)) ggX7_comesTo_X1_wayOf
set_option maxRecDepth 20000 in
theorem ggX7_comesTo_X6_power : GoodIn wsX7_comesTo wsX6_power := goodIn_r _ [64, 45, 65, 59, 43, 60, 61, 36, 37, 38] (by decide +kernel) (by decide +kernel)
set_option maxRecDepth 20000 in
theorem gX7_comesTo_X6_power : GoodIn wsX7_comesTo (va_wsS RX7 113 yX6_power wsX6_power) := goodIn_app (goodIn_of _ (by decide +kernel)) ggX7_comesTo_X6_power
set_option maxRecDepth 20000 in
theorem ggX7_comesTo_X4_at : GoodIn wsX7_comesTo wsX4_at := goodIn_r _ [38] (by decide +kernel) (by decide +kernel)
set_option maxRecDepth 20000 in
theorem gX7_comesTo_X4_at : GoodIn wsX7_comesTo (va_wsS RX7 60 yX4_at wsX4_at) := goodIn_app (goodIn_of _ (by decide +kernel)) ggX7_comesTo_X4_at
theorem dX7_comesTo_0 : decode cX7_comesTo 0 = .ok (.iload_n 1, 1) := by decide +kernel
theorem dX7_comesTo_1 : decode cX7_comesTo 1 = .ok (.bipush 6, 2) := by decide +kernel
theorem dX7_comesTo_3 : decode cX7_comesTo 3 = .ok (.invokestatic 48, 3) := by decide +kernel
theorem dX7_comesTo_6 : decode cX7_comesTo 6 = .ok (.ifCond .eq 12, 3) := by decide +kernel
theorem dX7_comesTo_9 : decode cX7_comesTo 9 = .ok (.iload_n 2, 1) := by decide +kernel
theorem dX7_comesTo_10 : decode cX7_comesTo 10 = .ok (.bipush 12, 2) := by decide +kernel
theorem dX7_comesTo_12 : decode cX7_comesTo 12 = .ok (.invokestatic 48, 3) := by decide +kernel
theorem dX7_comesTo_15 : decode cX7_comesTo 15 = .ok (.ifCond .ne 5, 3) := by decide +kernel
theorem dX7_comesTo_18 : decode cX7_comesTo 18 = .ok (.iconst (-1), 1) := by decide +kernel
theorem dX7_comesTo_19 : decode cX7_comesTo 19 = .ok (.ireturn, 1) := by decide +kernel
theorem dX7_comesTo_20 : decode cX7_comesTo 20 = .ok (.iload_n 3, 1) := by decide +kernel
theorem dX7_comesTo_21 : decode cX7_comesTo 21 = .ok (.ifCond .lt 9, 3) := by decide +kernel
theorem dX7_comesTo_24 : decode cX7_comesTo 24 = .ok (.iload_n 3, 1) := by decide +kernel
theorem dX7_comesTo_25 : decode cX7_comesTo 25 = .ok (.ldc 164, 2) := by decide +kernel
theorem dX7_comesTo_27 : decode cX7_comesTo 27 = .ok (.if_icmp .le 6, 3) := by decide +kernel
theorem dX7_comesTo_30 : decode cX7_comesTo 30 = .ok (.bipush (-2), 2) := by decide +kernel
theorem dX7_comesTo_32 : decode cX7_comesTo 32 = .ok (.ireturn, 1) := by decide +kernel
theorem dX7_comesTo_33 : decode cX7_comesTo 33 = .ok (.aload_n 0, 1) := by decide +kernel
theorem dX7_comesTo_34 : decode cX7_comesTo 34 = .ok (.getfield 10, 3) := by decide +kernel
theorem dX7_comesTo_37 : decode cX7_comesTo 37 = .ok (.iload_n 1, 1) := by decide +kernel
theorem dX7_comesTo_38 : decode cX7_comesTo 38 = .ok (.invokevirtual 109, 3) := by decide +kernel
theorem dX7_comesTo_41 : decode cX7_comesTo 41 = .ok (.iload_n 3, 1) := by decide +kernel
theorem dX7_comesTo_42 : decode cX7_comesTo 42 = .ok (.invokestatic 113, 3) := by decide +kernel
theorem dX7_comesTo_45 : decode cX7_comesTo 45 = .ok (.iload_n 2, 1) := by decide +kernel
theorem dX7_comesTo_46 : decode cX7_comesTo 46 = .ok (.invokestatic 60, 3) := by decide +kernel
theorem dX7_comesTo_49 : decode cX7_comesTo 49 = .ok (.ireturn, 1) := by decide +kernel
set_option maxRecDepth 20000 in
theorem ggX7_count_X6_staying : GoodIn wsX7_count wsX6_staying := goodIn_r _ [12, 13, 14, 15, 11, 16, 17, 18, 19, 20, 21, 22, 23, 24, 25, 26, 27] (by decide +kernel) (by decide +kernel)
set_option maxRecDepth 20000 in
theorem gX7_count_X6_staying : GoodIn wsX7_count (va_wsS RX7 129 yX6_staying wsX6_staying) := goodIn_app (goodIn_of _ (by decide +kernel)) ggX7_count_X6_staying
set_option maxRecDepth 20000 in
theorem ggX7_count_X1_neverRaised : GoodIn wsX7_count wsX1_neverRaised := goodIn_r _ [32, 33, 34, 35, 31, 36, 37, 38, 39, 40, 41, 42, 18, 19, 20, 43, 44, 57, 58, 59, 60, 61, 62, 63] (by decide +kernel) (by decide +kernel)
set_option maxRecDepth 20000 in
theorem gX7_count_X1_neverRaised : GoodIn wsX7_count (wsV RX7 165 RX1 yX1_neverRaised wsX1_neverRaised) := goodIn_app (goodIn_of _ (by decide +kernel)) ggX7_count_X1_neverRaised
set_option maxRecDepth 20000 in
theorem ggX7_count_X1_draftsWithPresses : GoodIn wsX7_count wsX1_draftsWithPresses := goodIn_r _ [48, 49, 50, 57, 58, 59, 60, 61, 62, 63, 68, 69] (by decide +kernel) (by decide +kernel)
set_option maxRecDepth 20000 in
theorem gX7_count_X1_draftsWithPresses : GoodIn wsX7_count (wsV RX7 169 RX1 yX1_draftsWithPresses wsX1_draftsWithPresses) := goodIn_app (goodIn_of _ (by decide +kernel)) ggX7_count_X1_draftsWithPresses
theorem dX7_count_0 : decode cX7_count 0 = .ok (.iload_n 1, 1) := by decide +kernel
theorem dX7_count_1 : decode cX7_count 1 = .ok (.tableswitch 102 0 6 #[43, 54, 62, 70, 78, 86, 94], 43) := by decide +kernel
theorem dX7_count_44 : decode cX7_count 44 = .ok (.aload_n 0, 1) := by decide +kernel
theorem dX7_count_45 : decode cX7_count 45 = .ok (.getfield 10, 3) := by decide +kernel
theorem dX7_count_48 : decode cX7_count 48 = .ok (.getfield 106, 3) := by decide +kernel
theorem dX7_count_51 : decode cX7_count 51 = .ok (.invokestatic 129, 3) := by decide +kernel
theorem dX7_count_54 : decode cX7_count 54 = .ok (.ireturn, 1) := by decide +kernel
theorem dX7_count_55 : decode cX7_count 55 = .ok (.aload_n 0, 1) := by decide +kernel
theorem dX7_count_56 : decode cX7_count 56 = .ok (.getfield 10, 3) := by decide +kernel
theorem dX7_count_59 : decode cX7_count 59 = .ok (.getfield 123, 3) := by decide +kernel
theorem dX7_count_62 : decode cX7_count 62 = .ok (.ireturn, 1) := by decide +kernel
theorem dX7_count_63 : decode cX7_count 63 = .ok (.aload_n 0, 1) := by decide +kernel
theorem dX7_count_64 : decode cX7_count 64 = .ok (.getfield 10, 3) := by decide +kernel
theorem dX7_count_67 : decode cX7_count 67 = .ok (.getfield 126, 3) := by decide +kernel
theorem dX7_count_70 : decode cX7_count 70 = .ok (.ireturn, 1) := by decide +kernel
theorem dX7_count_71 : decode cX7_count 71 = .ok (.aload_n 0, 1) := by decide +kernel
theorem dX7_count_72 : decode cX7_count 72 = .ok (.getfield 10, 3) := by decide +kernel
theorem dX7_count_75 : decode cX7_count 75 = .ok (.invokevirtual 165, 3) := by decide +kernel
theorem dX7_count_78 : decode cX7_count 78 = .ok (.ireturn, 1) := by decide +kernel
theorem dX7_count_79 : decode cX7_count 79 = .ok (.aload_n 0, 1) := by decide +kernel
theorem dX7_count_80 : decode cX7_count 80 = .ok (.getfield 10, 3) := by decide +kernel
theorem dX7_count_83 : decode cX7_count 83 = .ok (.invokevirtual 169, 3) := by decide +kernel
theorem dX7_count_86 : decode cX7_count 86 = .ok (.ireturn, 1) := by decide +kernel
theorem dX7_count_87 : decode cX7_count 87 = .ok (.aload_n 0, 1) := by decide +kernel
theorem dX7_count_88 : decode cX7_count 88 = .ok (.getfield 30, 3) := by decide +kernel
theorem dX7_count_91 : decode cX7_count 91 = .ok (.getfield 95, 3) := by decide +kernel
theorem dX7_count_94 : decode cX7_count 94 = .ok (.ireturn, 1) := by decide +kernel
theorem dX7_count_95 : decode cX7_count 95 = .ok (.aload_n 0, 1) := by decide +kernel
theorem dX7_count_96 : decode cX7_count 96 = .ok (.getfield 19, 3) := by decide +kernel
theorem dX7_count_99 : decode cX7_count 99 = .ok (.getfield 172, 3) := by decide +kernel
theorem dX7_count_102 : decode cX7_count 102 = .ok (.ireturn, 1) := by decide +kernel
theorem dX7_count_103 : decode cX7_count 103 = .ok (.bipush (-2), 2) := by decide +kernel
theorem dX7_count_105 : decode cX7_count 105 = .ok (.ireturn, 1) := by decide +kernel
set_option maxRecDepth 20000 in
theorem ggX7_kernel_X7_isBelow : GoodIn wsX7_kernel wsX7_isBelow := goodIn_r _ [6] (by decide +kernel) (by decide +kernel)
set_option maxRecDepth 20000 in
theorem gX7_kernel_X7_isBelow : GoodIn wsX7_kernel (va_wsS RX7 48 yX7_isBelow wsX7_isBelow) := goodIn_app (goodIn_of _ (by decide +kernel)) ggX7_kernel_X7_isBelow
set_option maxRecDepth 20000 in
theorem ggX7_kernel_X7_hasBit : GoodIn wsX7_kernel wsX7_hasBit := goodIn_r _ [9] (by decide +kernel) (by decide +kernel)
set_option maxRecDepth 20000 in
theorem gX7_kernel_X7_hasBit : GoodIn wsX7_kernel (va_wsS RX7 173 yX7_hasBit wsX7_hasBit) := goodIn_app (goodIn_of _ (by decide +kernel)) ggX7_kernel_X7_hasBit
set_option maxRecDepth 20000 in
theorem ggX7_kernel_X1_wayOf : GoodIn wsX7_kernel wsX1_wayOf := goodIn_r _ [14, 15, 16, 17, 18, 19, 13, 20, 21, 4, 5, 6, 22, 23, 24, 25, 26, 27, 28, 29, 30, 31, 32, 33, 34, 35, 36, 37, 38, 39, 40, 41, 8, 9, 42, 43, 44, 45, 46, 47, 48, 49, 50, 51, 52, 53, 54, 55, 56, 57, 58, 59, 60, 61, 62, 72, 73, 74, 75, 76, 77, 78, 79, 80] (by decide +kernel) (by decide +kernel)
set_option maxRecDepth 20000 in
theorem gX7_kernel_X1_wayOf : GoodIn wsX7_kernel (wsV RX7 109 RX1 yX1_wayOf wsX1_wayOf) := goodIn_app (goodIn_of _ (by decide +kernel)) ggX7_kernel_X1_wayOf
set_option maxRecDepth 20000 in
theorem ggX7_kernel_X6_alikePlaces : GoodIn wsX7_kernel wsX6_alikePlaces := goodIn_r _ [65, 62, 39, 40, 41] (by decide +kernel) (by decide +kernel)
set_option maxRecDepth 20000 in
theorem gX7_kernel_X6_alikePlaces : GoodIn wsX7_kernel (va_wsS RX7 149 yX6_alikePlaces wsX6_alikePlaces) := goodIn_app (goodIn_of _ (by decide +kernel)) ggX7_kernel_X6_alikePlaces
theorem dX7_kernel_0 : decode cX7_kernel 0 = .ok (.iload_n 1, 1) := by decide +kernel
theorem dX7_kernel_1 : decode cX7_kernel 1 = .ok (.bipush 64, 2) := by decide +kernel
theorem dX7_kernel_3 : decode cX7_kernel 3 = .ok (.invokestatic 48, 3) := by decide +kernel
theorem dX7_kernel_6 : decode cX7_kernel 6 = .ok (.ifCond .ne 6, 3) := by decide +kernel
theorem dX7_kernel_9 : decode cX7_kernel 9 = .ok (.bipush (-2), 2) := by decide +kernel
theorem dX7_kernel_11 : decode cX7_kernel 11 = .ok (.ireturn, 1) := by decide +kernel
theorem dX7_kernel_12 : decode cX7_kernel 12 = .ok (.sipush 4095, 3) := by decide +kernel
theorem dX7_kernel_15 : decode cX7_kernel 15 = .ok (.istore_n 2, 1) := by decide +kernel
theorem dX7_kernel_16 : decode cX7_kernel 16 = .ok (.iconst 0, 1) := by decide +kernel
theorem dX7_kernel_17 : decode cX7_kernel 17 = .ok (.istore_n 3, 1) := by decide +kernel
theorem dX7_kernel_18 : decode cX7_kernel 18 = .ok (.iload_n 3, 1) := by decide +kernel
theorem dX7_kernel_19 : decode cX7_kernel 19 = .ok (.bipush 6, 2) := by decide +kernel
theorem dX7_kernel_21 : decode cX7_kernel 21 = .ok (.if_icmp .ge 34, 3) := by decide +kernel
theorem dX7_kernel_24 : decode cX7_kernel 24 = .ok (.iload_n 1, 1) := by decide +kernel
theorem dX7_kernel_25 : decode cX7_kernel 25 = .ok (.iload_n 3, 1) := by decide +kernel
theorem dX7_kernel_26 : decode cX7_kernel 26 = .ok (.invokestatic 173, 3) := by decide +kernel
theorem dX7_kernel_29 : decode cX7_kernel 29 = .ok (.ifCond .eq 20, 3) := by decide +kernel
theorem dX7_kernel_32 : decode cX7_kernel 32 = .ok (.iload_n 2, 1) := by decide +kernel
theorem dX7_kernel_33 : decode cX7_kernel 33 = .ok (.aload_n 0, 1) := by decide +kernel
theorem dX7_kernel_34 : decode cX7_kernel 34 = .ok (.getfield 10, 3) := by decide +kernel
theorem dX7_kernel_37 : decode cX7_kernel 37 = .ok (.iload_n 3, 1) := by decide +kernel
theorem dX7_kernel_38 : decode cX7_kernel 38 = .ok (.invokevirtual 109, 3) := by decide +kernel
theorem dX7_kernel_41 : decode cX7_kernel 41 = .ok (.ldc2_w 143, 3) := by decide +kernel
theorem dX7_kernel_44 : decode cX7_kernel 44 = .ok (.invokestatic 149, 3) := by decide +kernel
theorem dX7_kernel_47 : decode cX7_kernel 47 = .ok (.iand, 1) := by decide +kernel
theorem dX7_kernel_48 : decode cX7_kernel 48 = .ok (.istore_n 2, 1) := by decide +kernel
theorem dX7_kernel_49 : decode cX7_kernel 49 = .ok (.iinc 3 1, 3) := by decide +kernel
theorem dX7_kernel_52 : decode cX7_kernel 52 = .ok (.goto (-34), 3) := by decide +kernel
theorem dX7_kernel_55 : decode cX7_kernel 55 = .ok (.iload_n 2, 1) := by decide +kernel
theorem dX7_kernel_56 : decode cX7_kernel 56 = .ok (.ireturn, 1) := by decide +kernel
set_option maxRecDepth 20000 in
theorem ggX7_orbit_X7_isBelow : GoodIn wsX7_orbit wsX7_isBelow := goodIn_r _ [5] (by decide +kernel) (by decide +kernel)
set_option maxRecDepth 20000 in
theorem gX7_orbit_X7_isBelow : GoodIn wsX7_orbit (va_wsS RX7 48 yX7_isBelow wsX7_isBelow) := goodIn_app (goodIn_of _ (by decide +kernel)) ggX7_orbit_X7_isBelow
set_option maxRecDepth 20000 in
theorem ggX7_orbit_X7_gatherWays : GoodIn wsX7_orbit wsX7_gatherWays := goodIn_r _ [9, 1, 10, 11, 12, 13, 4, 14, 15, 16, 17, 18, 19, 20, 21, 22, 23, 24, 25, 26, 3, 5, 27, 28, 29, 30, 31, 32, 33, 34, 35, 36, 37, 38, 39, 40, 41, 42, 43, 44, 45, 46, 47, 48, 49, 50, 51, 52, 53, 54, 55, 56, 57, 58, 59, 60, 61, 62, 63, 64, 65, 66, 67, 68, 69, 70, 71, 72, 73, 74, 83, 84, 85, 86, 87, 88, 89, 90, 91, 92, 93, 94, 95, 96, 97, 98, 99, 100, 101, 102] (by decide +kernel) (by decide +kernel)
set_option maxRecDepth 20000 in
theorem gX7_orbit_X7_gatherWays : GoodIn wsX7_orbit (wsV RX7 176 RX7 yX7_gatherWays wsX7_gatherWays) := goodIn_app (goodIn_of _ (by decide +kernel)) ggX7_orbit_X7_gatherWays
set_option maxRecDepth 20000 in
theorem ggX7_orbit_X5_placesFrom : GoodIn wsX7_orbit wsX5_placesFrom := goodIn_r _ [78, 73, 74, 79, 80, 71, 81, 13, 4, 14, 82, 44, 45, 46, 89, 90, 91, 92, 93] (by decide +kernel) (by decide +kernel)
set_option maxRecDepth 20000 in
theorem gX7_orbit_X5_placesFrom : GoodIn wsX7_orbit (wsV RX7 180 RX5 yX5_placesFrom wsX5_placesFrom) := goodIn_app (goodIn_of _ (by decide +kernel)) ggX7_orbit_X5_placesFrom
theorem dX7_orbit_0 : decode cX7_orbit 0 = .ok (.iload_n 2, 1) := by decide +kernel
theorem dX7_orbit_1 : decode cX7_orbit 1 = .ok (.bipush 12, 2) := by decide +kernel
theorem dX7_orbit_3 : decode cX7_orbit 3 = .ok (.invokestatic 48, 3) := by decide +kernel
theorem dX7_orbit_6 : decode cX7_orbit 6 = .ok (.ifCond .ne 5, 3) := by decide +kernel
theorem dX7_orbit_9 : decode cX7_orbit 9 = .ok (.iconst (-1), 1) := by decide +kernel
theorem dX7_orbit_10 : decode cX7_orbit 10 = .ok (.ireturn, 1) := by decide +kernel
theorem dX7_orbit_11 : decode cX7_orbit 11 = .ok (.iload_n 1, 1) := by decide +kernel
theorem dX7_orbit_12 : decode cX7_orbit 12 = .ok (.bipush 64, 2) := by decide +kernel
theorem dX7_orbit_14 : decode cX7_orbit 14 = .ok (.invokestatic 48, 3) := by decide +kernel
theorem dX7_orbit_17 : decode cX7_orbit 17 = .ok (.ifCond .ne 6, 3) := by decide +kernel
theorem dX7_orbit_20 : decode cX7_orbit 20 = .ok (.bipush (-2), 2) := by decide +kernel
theorem dX7_orbit_22 : decode cX7_orbit 22 = .ok (.ireturn, 1) := by decide +kernel
theorem dX7_orbit_23 : decode cX7_orbit 23 = .ok (.aload_n 0, 1) := by decide +kernel
theorem dX7_orbit_24 : decode cX7_orbit 24 = .ok (.iload_n 1, 1) := by decide +kernel
theorem dX7_orbit_25 : decode cX7_orbit 25 = .ok (.invokevirtual 176, 3) := by decide +kernel
theorem dX7_orbit_28 : decode cX7_orbit 28 = .ok (.aload_n 0, 1) := by decide +kernel
theorem dX7_orbit_29 : decode cX7_orbit 29 = .ok (.getfield 37, 3) := by decide +kernel
theorem dX7_orbit_32 : decode cX7_orbit 32 = .ok (.iload_n 2, 1) := by decide +kernel
theorem dX7_orbit_33 : decode cX7_orbit 33 = .ok (.invokevirtual 180, 3) := by decide +kernel
theorem dX7_orbit_36 : decode cX7_orbit 36 = .ok (.ireturn, 1) := by decide +kernel
set_option maxRecDepth 20000 in
theorem ggX7_pair_X7_isBelow : GoodIn wsX7_pair wsX7_isBelow := goodIn_r _ [6] (by decide +kernel) (by decide +kernel)
set_option maxRecDepth 20000 in
theorem gX7_pair_X7_isBelow : GoodIn wsX7_pair (va_wsS RX7 48 yX7_isBelow wsX7_isBelow) := goodIn_app (goodIn_of _ (by decide +kernel)) ggX7_pair_X7_isBelow
set_option maxRecDepth 20000 in
theorem ggX7_pair_X1_wayOf : GoodIn wsX7_pair wsX1_wayOf := goodIn_r _ [11, 12, 13, 14, 15, 16, 10, 17, 18, 4, 5, 6, 19, 20, 21, 22, 23, 24, 25, 26, 27, 28, 29, 30, 31, 32, 33, 34, 35, 36, 37, 38, 39, 40, 41, 42, 43, 44, 45, 46, 47, 48, 49, 50, 51, 52, 53, 54, 55, 56, 57, 58, 59, 60, 61, 75, 76, 77, 78, 79, 80, 81, 82, 83] (by decide +kernel) (by decide +kernel)
set_option maxRecDepth 20000 in
theorem gX7_pair_X1_wayOf : GoodIn wsX7_pair (wsV RX7 109 RX1 yX1_wayOf wsX1_wayOf) := goodIn_app (goodIn_of _ (by decide +kernel)) ggX7_pair_X1_wayOf
set_option maxRecDepth 20000 in
theorem ggX7_pair_X7_asNumber : GoodIn wsX7_pair wsX7_asNumber := goodIn_r _ [64] (by decide +kernel) (by decide +kernel)
set_option maxRecDepth 20000 in
theorem gX7_pair_X7_asNumber : GoodIn wsX7_pair (va_wsS RX7 183 yX7_asNumber wsX7_asNumber) := goodIn_app (goodIn_of _ (by decide +kernel)) ggX7_pair_X7_asNumber
set_option maxRecDepth 20000 in
theorem ggX7_pair_X6_then : GoodIn wsX7_pair wsX6_then := goodIn_r _ [60, 61, 36, 37, 38] (by decide +kernel) (by decide +kernel)
set_option maxRecDepth 20000 in
theorem gX7_pair_X6_then : GoodIn wsX7_pair (va_wsS RX7 187 yX6_then wsX6_then) := goodIn_app (goodIn_of _ (by decide +kernel)) ggX7_pair_X6_then
set_option maxRecDepth 20000 in
theorem ggX7_pair_X6_alikePlaces : GoodIn wsX7_pair wsX6_alikePlaces := goodIn_r _ [68, 61, 36, 37, 38] (by decide +kernel) (by decide +kernel)
set_option maxRecDepth 20000 in
theorem gX7_pair_X6_alikePlaces : GoodIn wsX7_pair (va_wsS RX7 149 yX6_alikePlaces wsX6_alikePlaces) := goodIn_app (goodIn_of _ (by decide +kernel)) ggX7_pair_X6_alikePlaces
theorem dX7_pair_0 : decode cX7_pair 0 = .ok (.iload_n 1, 1) := by decide +kernel
theorem dX7_pair_1 : decode cX7_pair 1 = .ok (.bipush 6, 2) := by decide +kernel
theorem dX7_pair_3 : decode cX7_pair 3 = .ok (.invokestatic 48, 3) := by decide +kernel
theorem dX7_pair_6 : decode cX7_pair 6 = .ok (.ifCond .eq 12, 3) := by decide +kernel
theorem dX7_pair_9 : decode cX7_pair 9 = .ok (.iload_n 2, 1) := by decide +kernel
theorem dX7_pair_10 : decode cX7_pair 10 = .ok (.bipush 6, 2) := by decide +kernel
theorem dX7_pair_12 : decode cX7_pair 12 = .ok (.invokestatic 48, 3) := by decide +kernel
theorem dX7_pair_15 : decode cX7_pair 15 = .ok (.ifCond .ne 5, 3) := by decide +kernel
theorem dX7_pair_18 : decode cX7_pair 18 = .ok (.iconst (-1), 1) := by decide +kernel
theorem dX7_pair_19 : decode cX7_pair 19 = .ok (.ireturn, 1) := by decide +kernel
theorem dX7_pair_20 : decode cX7_pair 20 = .ok (.aload_n 0, 1) := by decide +kernel
theorem dX7_pair_21 : decode cX7_pair 21 = .ok (.getfield 10, 3) := by decide +kernel
theorem dX7_pair_24 : decode cX7_pair 24 = .ok (.iload_n 1, 1) := by decide +kernel
theorem dX7_pair_25 : decode cX7_pair 25 = .ok (.invokevirtual 109, 3) := by decide +kernel
theorem dX7_pair_28 : decode cX7_pair 28 = .ok (.lstore 4, 2) := by decide +kernel
theorem dX7_pair_30 : decode cX7_pair 30 = .ok (.aload_n 0, 1) := by decide +kernel
theorem dX7_pair_31 : decode cX7_pair 31 = .ok (.getfield 10, 3) := by decide +kernel
theorem dX7_pair_34 : decode cX7_pair 34 = .ok (.iload_n 2, 1) := by decide +kernel
theorem dX7_pair_35 : decode cX7_pair 35 = .ok (.invokevirtual 109, 3) := by decide +kernel
theorem dX7_pair_38 : decode cX7_pair 38 = .ok (.lstore 6, 2) := by decide +kernel
theorem dX7_pair_40 : decode cX7_pair 40 = .ok (.iload_n 3, 1) := by decide +kernel
theorem dX7_pair_41 : decode cX7_pair 41 = .ok (.tableswitch 112 0 3 #[31, 48, 75, 98], 31) := by decide +kernel
theorem dX7_pair_72 : decode cX7_pair 72 = .ok (.lload 4, 2) := by decide +kernel
theorem dX7_pair_74 : decode cX7_pair 74 = .ok (.lload 6, 2) := by decide +kernel
theorem dX7_pair_76 : decode cX7_pair 76 = .ok (.lcmp, 1) := by decide +kernel
theorem dX7_pair_77 : decode cX7_pair 77 = .ok (.ifCond .ne 7, 3) := by decide +kernel
theorem dX7_pair_80 : decode cX7_pair 80 = .ok (.iconst 1, 1) := by decide +kernel
theorem dX7_pair_81 : decode cX7_pair 81 = .ok (.goto 4, 3) := by decide +kernel
theorem dX7_pair_84 : decode cX7_pair 84 = .ok (.iconst 0, 1) := by decide +kernel
theorem dX7_pair_85 : decode cX7_pair 85 = .ok (.invokestatic 183, 3) := by decide +kernel
theorem dX7_pair_88 : decode cX7_pair 88 = .ok (.ireturn, 1) := by decide +kernel
theorem dX7_pair_89 : decode cX7_pair 89 = .ok (.lload 4, 2) := by decide +kernel
theorem dX7_pair_91 : decode cX7_pair 91 = .ok (.lload 6, 2) := by decide +kernel
theorem dX7_pair_93 : decode cX7_pair 93 = .ok (.invokestatic 187, 3) := by decide +kernel
theorem dX7_pair_96 : decode cX7_pair 96 = .ok (.lload 6, 2) := by decide +kernel
theorem dX7_pair_98 : decode cX7_pair 98 = .ok (.lload 4, 2) := by decide +kernel
theorem dX7_pair_100 : decode cX7_pair 100 = .ok (.invokestatic 187, 3) := by decide +kernel
theorem dX7_pair_103 : decode cX7_pair 103 = .ok (.lcmp, 1) := by decide +kernel
theorem dX7_pair_104 : decode cX7_pair 104 = .ok (.ifCond .ne 7, 3) := by decide +kernel
theorem dX7_pair_107 : decode cX7_pair 107 = .ok (.iconst 1, 1) := by decide +kernel
theorem dX7_pair_108 : decode cX7_pair 108 = .ok (.goto 4, 3) := by decide +kernel
theorem dX7_pair_111 : decode cX7_pair 111 = .ok (.iconst 0, 1) := by decide +kernel
theorem dX7_pair_112 : decode cX7_pair 112 = .ok (.invokestatic 183, 3) := by decide +kernel
theorem dX7_pair_115 : decode cX7_pair 115 = .ok (.ireturn, 1) := by decide +kernel
theorem dX7_pair_116 : decode cX7_pair 116 = .ok (.lload 4, 2) := by decide +kernel
theorem dX7_pair_118 : decode cX7_pair 118 = .ok (.lload 6, 2) := by decide +kernel
theorem dX7_pair_120 : decode cX7_pair 120 = .ok (.invokestatic 187, 3) := by decide +kernel
theorem dX7_pair_123 : decode cX7_pair 123 = .ok (.ldc2_w 143, 3) := by decide +kernel
theorem dX7_pair_126 : decode cX7_pair 126 = .ok (.lcmp, 1) := by decide +kernel
theorem dX7_pair_127 : decode cX7_pair 127 = .ok (.ifCond .ne 7, 3) := by decide +kernel
theorem dX7_pair_130 : decode cX7_pair 130 = .ok (.iconst 1, 1) := by decide +kernel
theorem dX7_pair_131 : decode cX7_pair 131 = .ok (.goto 4, 3) := by decide +kernel
theorem dX7_pair_134 : decode cX7_pair 134 = .ok (.iconst 0, 1) := by decide +kernel
theorem dX7_pair_135 : decode cX7_pair 135 = .ok (.invokestatic 183, 3) := by decide +kernel
theorem dX7_pair_138 : decode cX7_pair 138 = .ok (.ireturn, 1) := by decide +kernel
theorem dX7_pair_139 : decode cX7_pair 139 = .ok (.sipush 4095, 3) := by decide +kernel
theorem dX7_pair_142 : decode cX7_pair 142 = .ok (.lload 4, 2) := by decide +kernel
theorem dX7_pair_144 : decode cX7_pair 144 = .ok (.lload 6, 2) := by decide +kernel
theorem dX7_pair_146 : decode cX7_pair 146 = .ok (.invokestatic 149, 3) := by decide +kernel
theorem dX7_pair_149 : decode cX7_pair 149 = .ok (.iconst (-1), 1) := by decide +kernel
theorem dX7_pair_150 : decode cX7_pair 150 = .ok (.ixor, 1) := by decide +kernel
theorem dX7_pair_151 : decode cX7_pair 151 = .ok (.iand, 1) := by decide +kernel
theorem dX7_pair_152 : decode cX7_pair 152 = .ok (.ireturn, 1) := by decide +kernel
theorem dX7_pair_153 : decode cX7_pair 153 = .ok (.bipush (-2), 2) := by decide +kernel
theorem dX7_pair_155 : decode cX7_pair 155 = .ok (.ireturn, 1) := by decide +kernel
set_option maxRecDepth 20000 in
theorem ggX7_ways_X7_isBelow : GoodIn wsX7_ways wsX7_isBelow := goodIn_r _ [5] (by decide +kernel) (by decide +kernel)
set_option maxRecDepth 20000 in
theorem gX7_ways_X7_isBelow : GoodIn wsX7_ways (va_wsS RX7 48 yX7_isBelow wsX7_isBelow) := goodIn_app (goodIn_of _ (by decide +kernel)) ggX7_ways_X7_isBelow
set_option maxRecDepth 20000 in
theorem ggX7_ways_X7_gatherWays : GoodIn wsX7_ways wsX7_gatherWays := goodIn_r _ [9, 1, 10, 11, 12, 13, 4, 14, 15, 16, 17, 18, 19, 20, 21, 22, 23, 24, 25, 26, 3, 5, 27, 28, 29, 30, 31, 32, 33, 34, 35, 36, 37, 38, 39, 40, 41, 42, 43, 44, 45, 46, 47, 48, 49, 50, 51, 52, 53, 54, 55, 56, 57, 58, 59, 60, 61, 62, 63, 64, 65, 66, 67, 68, 69, 70, 71, 72, 73, 74, 89, 90, 91, 92, 93, 94, 95, 96, 97, 98, 99, 100, 101, 102, 103, 104, 105, 106, 107, 108] (by decide +kernel) (by decide +kernel)
set_option maxRecDepth 20000 in
theorem gX7_ways_X7_gatherWays : GoodIn wsX7_ways (wsV RX7 176 RX7 yX7_gatherWays wsX7_gatherWays) := goodIn_app (goodIn_of _ (by decide +kernel)) ggX7_ways_X7_gatherWays
set_option maxRecDepth 20000 in
theorem ggX7_ways_X5_allWays : GoodIn wsX7_ways wsX5_allWays := goodIn_r _ [78, 79, 80, 81, 73, 82, 74, 83, 84, 85, 71, 86, 87, 3, 4, 5, 88, 65, 49, 66, 67, 44, 45, 46, 95, 96, 97, 98, 99] (by decide +kernel) (by decide +kernel)
set_option maxRecDepth 20000 in
theorem gX7_ways_X5_allWays : GoodIn wsX7_ways (wsV RX7 190 RX5 yX5_allWays wsX5_allWays) := goodIn_app (goodIn_of _ (by decide +kernel)) ggX7_ways_X5_allWays
theorem dX7_ways_0 : decode cX7_ways 0 = .ok (.iload_n 1, 1) := by decide +kernel
theorem dX7_ways_1 : decode cX7_ways 1 = .ok (.bipush 64, 2) := by decide +kernel
theorem dX7_ways_3 : decode cX7_ways 3 = .ok (.invokestatic 48, 3) := by decide +kernel
theorem dX7_ways_6 : decode cX7_ways 6 = .ok (.ifCond .ne 6, 3) := by decide +kernel
theorem dX7_ways_9 : decode cX7_ways 9 = .ok (.bipush (-2), 2) := by decide +kernel
theorem dX7_ways_11 : decode cX7_ways 11 = .ok (.ireturn, 1) := by decide +kernel
theorem dX7_ways_12 : decode cX7_ways 12 = .ok (.aload_n 0, 1) := by decide +kernel
theorem dX7_ways_13 : decode cX7_ways 13 = .ok (.iload_n 1, 1) := by decide +kernel
theorem dX7_ways_14 : decode cX7_ways 14 = .ok (.invokevirtual 176, 3) := by decide +kernel
theorem dX7_ways_17 : decode cX7_ways 17 = .ok (.aload_n 0, 1) := by decide +kernel
theorem dX7_ways_18 : decode cX7_ways 18 = .ok (.getfield 37, 3) := by decide +kernel
theorem dX7_ways_21 : decode cX7_ways 21 = .ok (.invokevirtual 190, 3) := by decide +kernel
theorem dX7_ways_24 : decode cX7_ways 24 = .ok (.ireturn, 1) := by decide +kernel
set_option maxRecDepth 20000 in
theorem ggX7_untilHome_X7_isBelow : GoodIn wsX7_untilHome wsX7_isBelow := goodIn_r _ [7] (by decide +kernel) (by decide +kernel)
set_option maxRecDepth 20000 in
theorem gX7_untilHome_X7_isBelow : GoodIn wsX7_untilHome (va_wsS RX7 48 yX7_isBelow wsX7_isBelow) := goodIn_app (goodIn_of _ (by decide +kernel)) ggX7_untilHome_X7_isBelow
set_option maxRecDepth 20000 in
theorem ggX7_untilHome_X1_wayOf : GoodIn wsX7_untilHome wsX1_wayOf := goodIn_r _ [12, 13, 14, 15, 16, 17, 11, 18, 19, 5, 6, 7, 20, 21, 22, 23, 24, 25, 26, 27, 28, 29, 30, 31, 32, 33, 34, 35, 36, 37, 38, 39, 40, 41, 42, 43, 44, 45, 46, 47, 48, 49, 50, 51, 52, 53, 54, 55, 56, 57, 58, 59, 60, 61, 62, 77, 78, 70, 71, 72, 73, 74, 75, 76] (by decide +kernel) (by decide +kernel)
set_option maxRecDepth 20000 in
theorem gX7_untilHome_X1_wayOf : GoodIn wsX7_untilHome (wsV RX7 109 RX1 yX1_wayOf wsX1_wayOf) := goodIn_app (goodIn_of _ (by decide +kernel)) ggX7_untilHome_X1_wayOf
set_option maxRecDepth 20000 in
theorem ggX7_untilHome_X4_moved : GoodIn wsX7_untilHome wsX4_moved := goodIn_r _ [57, 58, 37, 38, 39] (by decide +kernel) (by decide +kernel)
set_option maxRecDepth 20000 in
theorem gX7_untilHome_X4_moved : GoodIn wsX7_untilHome (va_wsS RX7 119 yX4_moved wsX4_moved) := goodIn_app (goodIn_of _ (by decide +kernel)) ggX7_untilHome_X4_moved
theorem dX7_untilHome_0 : decode cX7_untilHome 0 = .ok (.iload_n 1, 1) := by decide +kernel
theorem dX7_untilHome_1 : decode cX7_untilHome 1 = .ok (.bipush 6, 2) := by decide +kernel
theorem dX7_untilHome_3 : decode cX7_untilHome 3 = .ok (.invokestatic 48, 3) := by decide +kernel
theorem dX7_untilHome_6 : decode cX7_untilHome 6 = .ok (.ifCond .ne 5, 3) := by decide +kernel
theorem dX7_untilHome_9 : decode cX7_untilHome 9 = .ok (.iconst (-1), 1) := by decide +kernel
theorem dX7_untilHome_10 : decode cX7_untilHome 10 = .ok (.ireturn, 1) := by decide +kernel
theorem dX7_untilHome_11 : decode cX7_untilHome 11 = .ok (.aload_n 0, 1) := by decide +kernel
theorem dX7_untilHome_12 : decode cX7_untilHome 12 = .ok (.getfield 10, 3) := by decide +kernel
theorem dX7_untilHome_15 : decode cX7_untilHome 15 = .ok (.iload_n 1, 1) := by decide +kernel
theorem dX7_untilHome_16 : decode cX7_untilHome 16 = .ok (.invokevirtual 109, 3) := by decide +kernel
theorem dX7_untilHome_19 : decode cX7_untilHome 19 = .ok (.lstore_n 2, 1) := by decide +kernel
theorem dX7_untilHome_20 : decode cX7_untilHome 20 = .ok (.aload_n 0, 1) := by decide +kernel
theorem dX7_untilHome_21 : decode cX7_untilHome 21 = .ok (.getfield 10, 3) := by decide +kernel
theorem dX7_untilHome_24 : decode cX7_untilHome 24 = .ok (.getfield 106, 3) := by decide +kernel
theorem dX7_untilHome_27 : decode cX7_untilHome 27 = .ok (.lstore 4, 2) := by decide +kernel
theorem dX7_untilHome_29 : decode cX7_untilHome 29 = .ok (.iconst 0, 1) := by decide +kernel
theorem dX7_untilHome_30 : decode cX7_untilHome 30 = .ok (.istore 6, 2) := by decide +kernel
theorem dX7_untilHome_32 : decode cX7_untilHome 32 = .ok (.iload 6, 2) := by decide +kernel
theorem dX7_untilHome_34 : decode cX7_untilHome 34 = .ok (.bipush 60, 2) := by decide +kernel
theorem dX7_untilHome_36 : decode cX7_untilHome 36 = .ok (.if_icmp .ge 29, 3) := by decide +kernel
theorem dX7_untilHome_39 : decode cX7_untilHome 39 = .ok (.lload 4, 2) := by decide +kernel
theorem dX7_untilHome_41 : decode cX7_untilHome 41 = .ok (.ldc2_w 143, 3) := by decide +kernel
theorem dX7_untilHome_44 : decode cX7_untilHome 44 = .ok (.lcmp, 1) := by decide +kernel
theorem dX7_untilHome_45 : decode cX7_untilHome 45 = .ok (.ifCond .ne 6, 3) := by decide +kernel
theorem dX7_untilHome_48 : decode cX7_untilHome 48 = .ok (.iload 6, 2) := by decide +kernel
theorem dX7_untilHome_50 : decode cX7_untilHome 50 = .ok (.ireturn, 1) := by decide +kernel
theorem dX7_untilHome_51 : decode cX7_untilHome 51 = .ok (.lload 4, 2) := by decide +kernel
theorem dX7_untilHome_53 : decode cX7_untilHome 53 = .ok (.lload_n 2, 1) := by decide +kernel
theorem dX7_untilHome_54 : decode cX7_untilHome 54 = .ok (.invokestatic 119, 3) := by decide +kernel
theorem dX7_untilHome_57 : decode cX7_untilHome 57 = .ok (.lstore 4, 2) := by decide +kernel
theorem dX7_untilHome_59 : decode cX7_untilHome 59 = .ok (.iinc 6 1, 3) := by decide +kernel
theorem dX7_untilHome_62 : decode cX7_untilHome 62 = .ok (.goto (-30), 3) := by decide +kernel
theorem dX7_untilHome_65 : decode cX7_untilHome 65 = .ok (.bipush (-6), 2) := by decide +kernel
theorem dX7_untilHome_67 : decode cX7_untilHome 67 = .ok (.ireturn, 1) := by decide +kernel
set_option maxRecDepth 20000 in
theorem ggX7_bestDraft_X1_wayOf : GoodIn wsX7_bestDraft wsX1_wayOf := goodIn_r _ [7, 8, 9, 10, 11, 12, 6, 13, 14, 15, 16, 17, 18, 19, 20, 21, 22, 23, 24, 25, 26, 27, 28, 29, 30, 31, 32, 33, 34, 35, 36, 37, 38, 39, 40, 41, 42, 43, 44, 45, 46, 47, 48, 49, 50, 51, 52, 53, 54, 55, 56, 57, 58, 59, 60, 88, 89, 81, 82, 83, 84, 85, 86, 87] (by decide +kernel) (by decide +kernel)
set_option maxRecDepth 20000 in
theorem gX7_bestDraft_X1_wayOf : GoodIn wsX7_bestDraft (wsV RX7 109 RX1 yX1_wayOf wsX1_wayOf) := goodIn_app (goodIn_of _ (by decide +kernel)) ggX7_bestDraft_X1_wayOf
set_option maxRecDepth 20000 in
theorem ggX7_bestDraft_X4_moved : GoodIn wsX7_bestDraft wsX4_moved := goodIn_r _ [55, 56, 35, 36, 37] (by decide +kernel) (by decide +kernel)
set_option maxRecDepth 20000 in
theorem gX7_bestDraft_X4_moved : GoodIn wsX7_bestDraft (va_wsS RX7 119 yX4_moved wsX4_moved) := goodIn_app (goodIn_of _ (by decide +kernel)) ggX7_bestDraft_X4_moved
set_option maxRecDepth 20000 in
theorem ggX7_bestDraft_X6_staying : GoodIn wsX7_bestDraft wsX6_staying := goodIn_r _ [64, 44, 65, 66, 42, 67, 60, 35, 36, 37, 68, 69, 70, 71, 72, 73, 74] (by decide +kernel) (by decide +kernel)
set_option maxRecDepth 20000 in
theorem gX7_bestDraft_X6_staying : GoodIn wsX7_bestDraft (va_wsS RX7 129 yX6_staying wsX6_staying) := goodIn_app (goodIn_of _ (by decide +kernel)) ggX7_bestDraft_X6_staying
theorem dX7_bestDraft_0 : decode cX7_bestDraft 0 = .ok (.iload_n 1, 1) := by decide +kernel
theorem dX7_bestDraft_1 : decode cX7_bestDraft 1 = .ok (.ifCond .eq 11, 3) := by decide +kernel
theorem dX7_bestDraft_4 : decode cX7_bestDraft 4 = .ok (.iload_n 1, 1) := by decide +kernel
theorem dX7_bestDraft_5 : decode cX7_bestDraft 5 = .ok (.iconst 1, 1) := by decide +kernel
theorem dX7_bestDraft_6 : decode cX7_bestDraft 6 = .ok (.if_icmp .eq 6, 3) := by decide +kernel
theorem dX7_bestDraft_9 : decode cX7_bestDraft 9 = .ok (.bipush (-2), 2) := by decide +kernel
theorem dX7_bestDraft_11 : decode cX7_bestDraft 11 = .ok (.ireturn, 1) := by decide +kernel
theorem dX7_bestDraft_12 : decode cX7_bestDraft 12 = .ok (.iconst 0, 1) := by decide +kernel
theorem dX7_bestDraft_13 : decode cX7_bestDraft 13 = .ok (.istore_n 2, 1) := by decide +kernel
theorem dX7_bestDraft_14 : decode cX7_bestDraft 14 = .ok (.iconst (-1), 1) := by decide +kernel
theorem dX7_bestDraft_15 : decode cX7_bestDraft 15 = .ok (.istore_n 3, 1) := by decide +kernel
theorem dX7_bestDraft_16 : decode cX7_bestDraft 16 = .ok (.iconst 0, 1) := by decide +kernel
theorem dX7_bestDraft_17 : decode cX7_bestDraft 17 = .ok (.istore 4, 2) := by decide +kernel
theorem dX7_bestDraft_19 : decode cX7_bestDraft 19 = .ok (.iload 4, 2) := by decide +kernel
theorem dX7_bestDraft_21 : decode cX7_bestDraft 21 = .ok (.bipush 6, 2) := by decide +kernel
theorem dX7_bestDraft_23 : decode cX7_bestDraft 23 = .ok (.if_icmp .ge 45, 3) := by decide +kernel
theorem dX7_bestDraft_26 : decode cX7_bestDraft 26 = .ok (.aload_n 0, 1) := by decide +kernel
theorem dX7_bestDraft_27 : decode cX7_bestDraft 27 = .ok (.getfield 10, 3) := by decide +kernel
theorem dX7_bestDraft_30 : decode cX7_bestDraft 30 = .ok (.getfield 106, 3) := by decide +kernel
theorem dX7_bestDraft_33 : decode cX7_bestDraft 33 = .ok (.aload_n 0, 1) := by decide +kernel
theorem dX7_bestDraft_34 : decode cX7_bestDraft 34 = .ok (.getfield 10, 3) := by decide +kernel
theorem dX7_bestDraft_37 : decode cX7_bestDraft 37 = .ok (.iload 4, 2) := by decide +kernel
theorem dX7_bestDraft_39 : decode cX7_bestDraft 39 = .ok (.invokevirtual 109, 3) := by decide +kernel
theorem dX7_bestDraft_42 : decode cX7_bestDraft 42 = .ok (.invokestatic 119, 3) := by decide +kernel
theorem dX7_bestDraft_45 : decode cX7_bestDraft 45 = .ok (.invokestatic 129, 3) := by decide +kernel
theorem dX7_bestDraft_48 : decode cX7_bestDraft 48 = .ok (.istore 5, 2) := by decide +kernel
theorem dX7_bestDraft_50 : decode cX7_bestDraft 50 = .ok (.iload 5, 2) := by decide +kernel
theorem dX7_bestDraft_52 : decode cX7_bestDraft 52 = .ok (.iload_n 3, 1) := by decide +kernel
theorem dX7_bestDraft_53 : decode cX7_bestDraft 53 = .ok (.if_icmp .le 9, 3) := by decide +kernel
theorem dX7_bestDraft_56 : decode cX7_bestDraft 56 = .ok (.iload 4, 2) := by decide +kernel
theorem dX7_bestDraft_58 : decode cX7_bestDraft 58 = .ok (.istore_n 2, 1) := by decide +kernel
theorem dX7_bestDraft_59 : decode cX7_bestDraft 59 = .ok (.iload 5, 2) := by decide +kernel
theorem dX7_bestDraft_61 : decode cX7_bestDraft 61 = .ok (.istore_n 3, 1) := by decide +kernel
theorem dX7_bestDraft_62 : decode cX7_bestDraft 62 = .ok (.iinc 4 1, 3) := by decide +kernel
theorem dX7_bestDraft_65 : decode cX7_bestDraft 65 = .ok (.goto (-46), 3) := by decide +kernel
theorem dX7_bestDraft_68 : decode cX7_bestDraft 68 = .ok (.iload_n 1, 1) := by decide +kernel
theorem dX7_bestDraft_69 : decode cX7_bestDraft 69 = .ok (.ifCond .ne 7, 3) := by decide +kernel
theorem dX7_bestDraft_72 : decode cX7_bestDraft 72 = .ok (.iload_n 2, 1) := by decide +kernel
theorem dX7_bestDraft_73 : decode cX7_bestDraft 73 = .ok (.goto 4, 3) := by decide +kernel
theorem dX7_bestDraft_76 : decode cX7_bestDraft 76 = .ok (.iload_n 3, 1) := by decide +kernel
theorem dX7_bestDraft_77 : decode cX7_bestDraft 77 = .ok (.ireturn, 1) := by decide +kernel
set_option maxRecDepth 20000 in
theorem ggX7_write_X2_signsIn : GoodIn wsX7_write wsX2_signsIn := goodIn_r _ [6, 7, 8, 9] (by decide +kernel) (by decide +kernel)
set_option maxRecDepth 20000 in
theorem gX7_write_X2_signsIn : GoodIn wsX7_write (va_wsS RX7 193 yX2_signsIn wsX2_signsIn) := goodIn_app (goodIn_of _ (by decide +kernel)) ggX7_write_X2_signsIn
set_option maxRecDepth 20000 in
theorem ggX7_write_X2_append : GoodIn wsX7_write wsX2_append := goodIn_r _ [13, 14, 15, 7, 16, 17, 18, 25, 26] (by decide +kernel) (by decide +kernel)
set_option maxRecDepth 20000 in
theorem gX7_write_X2_append : GoodIn wsX7_write (wsV RX7 196 RX2 yX2_append wsX2_append) := goodIn_app (goodIn_of _ (by decide +kernel)) ggX7_write_X2_append
theorem dX7_write_0 : decode cX7_write 0 = .ok (.lload_n 1, 1) := by decide +kernel
theorem dX7_write_1 : decode cX7_write 1 = .ok (.invokestatic 193, 3) := by decide +kernel
theorem dX7_write_4 : decode cX7_write 4 = .ok (.istore_n 3, 1) := by decide +kernel
theorem dX7_write_5 : decode cX7_write 5 = .ok (.iload_n 3, 1) := by decide +kernel
theorem dX7_write_6 : decode cX7_write 6 = .ok (.ifCond .ne 6, 3) := by decide +kernel
theorem dX7_write_9 : decode cX7_write 9 = .ok (.bipush (-2), 2) := by decide +kernel
theorem dX7_write_11 : decode cX7_write 11 = .ok (.ireturn, 1) := by decide +kernel
theorem dX7_write_12 : decode cX7_write 12 = .ok (.aload_n 0, 1) := by decide +kernel
theorem dX7_write_13 : decode cX7_write 13 = .ok (.getfield 30, 3) := by decide +kernel
theorem dX7_write_16 : decode cX7_write 16 = .ok (.getfield 95, 3) := by decide +kernel
theorem dX7_write_19 : decode cX7_write 19 = .ok (.iload_n 3, 1) := by decide +kernel
theorem dX7_write_20 : decode cX7_write 20 = .ok (.iadd, 1) := by decide +kernel
theorem dX7_write_21 : decode cX7_write 21 = .ok (.bipush 40, 2) := by decide +kernel
theorem dX7_write_23 : decode cX7_write 23 = .ok (.if_icmp .le 6, 3) := by decide +kernel
theorem dX7_write_26 : decode cX7_write 26 = .ok (.bipush (-4), 2) := by decide +kernel
theorem dX7_write_28 : decode cX7_write 28 = .ok (.ireturn, 1) := by decide +kernel
theorem dX7_write_29 : decode cX7_write 29 = .ok (.aload_n 0, 1) := by decide +kernel
theorem dX7_write_30 : decode cX7_write 30 = .ok (.getfield 30, 3) := by decide +kernel
theorem dX7_write_33 : decode cX7_write 33 = .ok (.lload_n 1, 1) := by decide +kernel
theorem dX7_write_34 : decode cX7_write 34 = .ok (.iload_n 3, 1) := by decide +kernel
theorem dX7_write_35 : decode cX7_write 35 = .ok (.invokevirtual 196, 3) := by decide +kernel
theorem dX7_write_38 : decode cX7_write 38 = .ok (.aload_n 0, 1) := by decide +kernel
theorem dX7_write_39 : decode cX7_write 39 = .ok (.getfield 30, 3) := by decide +kernel
theorem dX7_write_42 : decode cX7_write 42 = .ok (.getfield 95, 3) := by decide +kernel
theorem dX7_write_45 : decode cX7_write 45 = .ok (.ireturn, 1) := by decide +kernel
theorem dX7_wipe_0 : decode cX7_wipe 0 = .ok (.aload_n 0, 1) := by decide +kernel
theorem dX7_wipe_1 : decode cX7_wipe 1 = .ok (.getfield 30, 3) := by decide +kernel
theorem dX7_wipe_4 : decode cX7_wipe 4 = .ok (.getfield 95, 3) := by decide +kernel
theorem dX7_wipe_7 : decode cX7_wipe 7 = .ok (.istore_n 1, 1) := by decide +kernel
theorem dX7_wipe_8 : decode cX7_wipe 8 = .ok (.aload_n 0, 1) := by decide +kernel
theorem dX7_wipe_9 : decode cX7_wipe 9 = .ok (.getfield 30, 3) := by decide +kernel
theorem dX7_wipe_12 : decode cX7_wipe 12 = .ok (.iconst 0, 1) := by decide +kernel
theorem dX7_wipe_13 : decode cX7_wipe 13 = .ok (.putfield 95, 3) := by decide +kernel
theorem dX7_wipe_16 : decode cX7_wipe 16 = .ok (.iload_n 1, 1) := by decide +kernel
theorem dX7_wipe_17 : decode cX7_wipe 17 = .ok (.ireturn, 1) := by decide +kernel
set_option maxRecDepth 20000 in
theorem ggX7_fault_X2_layOut : GoodIn wsX7_fault wsX2_layOut := goodIn_r _ [7, 8, 9, 10, 11, 12, 6, 13, 14, 15, 16, 17, 18, 19, 20, 21, 22, 23, 24, 25, 26, 33, 34, 35, 36] (by decide +kernel) (by decide +kernel)
set_option maxRecDepth 20000 in
theorem gX7_fault_X2_layOut : GoodIn wsX7_fault (wsV RX7 87 RX2 yX2_layOut wsX2_layOut) := goodIn_app (goodIn_of _ (by decide +kernel)) ggX7_fault_X2_layOut
theorem dX7_fault_0 : decode cX7_fault 0 = .ok (.aload_n 0, 1) := by decide +kernel
theorem dX7_fault_1 : decode cX7_fault 1 = .ok (.getfield 30, 3) := by decide +kernel
theorem dX7_fault_4 : decode cX7_fault 4 = .ok (.aload_n 0, 1) := by decide +kernel
theorem dX7_fault_5 : decode cX7_fault 5 = .ok (.getfield 44, 3) := by decide +kernel
theorem dX7_fault_8 : decode cX7_fault 8 = .ok (.invokevirtual 87, 3) := by decide +kernel
theorem dX7_fault_11 : decode cX7_fault 11 = .ok (.ireturn, 1) := by decide +kernel
set_option maxRecDepth 20000 in
theorem ggX7_undo_X3_giveBack : GoodIn wsX7_undo wsX3_giveBack := goodIn_r _ [8, 9, 10, 11, 12, 13, 14, 15, 16, 17, 18, 19, 20, 21, 22, 23, 24, 25, 26, 27, 28, 29, 30, 31, 32, 33, 34, 35, 36, 37, 44, 45, 46, 47, 48, 49, 50, 51, 52, 53, 54] (by decide +kernel) (by decide +kernel)
set_option maxRecDepth 20000 in
theorem gX7_undo_X3_giveBack : GoodIn wsX7_undo (wsV RX7 199 RX3 yX3_giveBack wsX3_giveBack) := goodIn_app (goodIn_of _ (by decide +kernel)) ggX7_undo_X3_giveBack
theorem dX7_undo_0 : decode cX7_undo 0 = .ok (.aload_n 0, 1) := by decide +kernel
theorem dX7_undo_1 : decode cX7_undo 1 = .ok (.getfield 19, 3) := by decide +kernel
theorem dX7_undo_4 : decode cX7_undo 4 = .ok (.getfield 172, 3) := by decide +kernel
theorem dX7_undo_7 : decode cX7_undo 7 = .ok (.ifCond .ne 6, 3) := by decide +kernel
theorem dX7_undo_10 : decode cX7_undo 10 = .ok (.bipush (-5), 2) := by decide +kernel
theorem dX7_undo_12 : decode cX7_undo 12 = .ok (.ireturn, 1) := by decide +kernel
theorem dX7_undo_13 : decode cX7_undo 13 = .ok (.aload_n 0, 1) := by decide +kernel
theorem dX7_undo_14 : decode cX7_undo 14 = .ok (.getfield 19, 3) := by decide +kernel
theorem dX7_undo_17 : decode cX7_undo 17 = .ok (.aload_n 0, 1) := by decide +kernel
theorem dX7_undo_18 : decode cX7_undo 18 = .ok (.getfield 10, 3) := by decide +kernel
theorem dX7_undo_21 : decode cX7_undo 21 = .ok (.invokevirtual 199, 3) := by decide +kernel
theorem dX7_undo_24 : decode cX7_undo 24 = .ok (.aload_n 0, 1) := by decide +kernel
theorem dX7_undo_25 : decode cX7_undo 25 = .ok (.getfield 19, 3) := by decide +kernel
theorem dX7_undo_28 : decode cX7_undo 28 = .ok (.getfield 172, 3) := by decide +kernel
theorem dX7_undo_31 : decode cX7_undo 31 = .ok (.ireturn, 1) := by decide +kernel
set_option maxRecDepth 20000 in
theorem ggX7_save_X7_isBelow : GoodIn wsX7_save wsX7_isBelow := goodIn_r _ [10] (by decide +kernel) (by decide +kernel)
set_option maxRecDepth 20000 in
theorem gX7_save_X7_isBelow : GoodIn wsX7_save (va_wsS RX7 48 yX7_isBelow wsX7_isBelow) := goodIn_app (goodIn_of _ (by decide +kernel)) ggX7_save_X7_isBelow
set_option maxRecDepth 20000 in
theorem ggX7_save_X1_init : GoodIn wsX7_save wsX1_init := goodIn_r _ [13, 14, 15, 16, 17, 18, 19, 20, 21, 22, 23, 24, 25, 26, 27, 28, 29, 30, 31, 32, 33, 34, 73, 74, 75, 76, 77, 78, 79, 80, 81] (by decide +kernel) (by decide +kernel)
set_option maxRecDepth 20000 in
theorem gX7_save_X1_init : GoodIn wsX7_save (wsX1_init) := ggX7_save_X1_init
set_option maxRecDepth 20000 in
theorem ggX7_save_X1_copyFrom : GoodIn wsX7_save wsX1_copyFrom := goodIn_r _ [38, 18, 20, 21, 23, 39, 40, 41, 42, 25, 26, 27, 43, 44, 45, 29, 46, 33, 47, 34, 73, 74, 75, 76, 77, 78, 79, 80, 81] (by decide +kernel) (by decide +kernel)
set_option maxRecDepth 20000 in
theorem gX7_save_X1_copyFrom : GoodIn wsX7_save (wsV RX7 202 RX1 yX1_copyFrom wsX1_copyFrom) := goodIn_app (goodIn_of _ (by decide +kernel)) ggX7_save_X1_copyFrom
set_option maxRecDepth 20000 in
theorem ggX7_save_X6_staying : GoodIn wsX7_save wsX6_staying := goodIn_r _ [51, 52, 53, 54, 50, 55, 56, 57, 58, 59, 60, 61, 62, 63, 64, 65, 66] (by decide +kernel) (by decide +kernel)
set_option maxRecDepth 20000 in
theorem gX7_save_X6_staying : GoodIn wsX7_save (va_wsS RX7 129 yX6_staying wsX6_staying) := goodIn_app (goodIn_of _ (by decide +kernel)) ggX7_save_X6_staying
theorem dX7_save_0 : decode cX7_save 0 = .ok (.iload_n 1, 1) := by decide +kernel
theorem dX7_save_1 : decode cX7_save 1 = .ok (.iconst 2, 1) := by decide +kernel
theorem dX7_save_2 : decode cX7_save 2 = .ok (.invokestatic 48, 3) := by decide +kernel
theorem dX7_save_5 : decode cX7_save 5 = .ok (.ifCond .ne 6, 3) := by decide +kernel
theorem dX7_save_8 : decode cX7_save 8 = .ok (.bipush (-2), 2) := by decide +kernel
theorem dX7_save_10 : decode cX7_save 10 = .ok (.ireturn, 1) := by decide +kernel
theorem dX7_save_11 : decode cX7_save 11 = .ok (.aload_n 0, 1) := by decide +kernel
theorem dX7_save_12 : decode cX7_save 12 = .ok (.getfield 23, 3) := by decide +kernel
theorem dX7_save_15 : decode cX7_save 15 = .ok (.iload_n 1, 1) := by decide +kernel
theorem dX7_save_16 : decode cX7_save 16 = .ok (.aaload, 1) := by decide +kernel
theorem dX7_save_17 : decode cX7_save 17 = .ok (.astore_n 2, 1) := by decide +kernel
theorem dX7_save_18 : decode cX7_save 18 = .ok (.aload_n 2, 1) := by decide +kernel
theorem dX7_save_19 : decode cX7_save 19 = .ok (.ifnonnull 11, 3) := by decide +kernel
theorem dX7_save_22 : decode cX7_save 22 = .ok (.new 7, 3) := by decide +kernel
theorem dX7_save_25 : decode cX7_save 25 = .ok (.dup, 1) := by decide +kernel
theorem dX7_save_26 : decode cX7_save 26 = .ok (.invokespecial 9, 3) := by decide +kernel
theorem dX7_save_29 : decode cX7_save 29 = .ok (.astore_n 2, 1) := by decide +kernel
theorem dX7_save_30 : decode cX7_save 30 = .ok (.aload_n 2, 1) := by decide +kernel
theorem dX7_save_31 : decode cX7_save 31 = .ok (.aload_n 0, 1) := by decide +kernel
theorem dX7_save_32 : decode cX7_save 32 = .ok (.getfield 10, 3) := by decide +kernel
theorem dX7_save_35 : decode cX7_save 35 = .ok (.invokevirtual 202, 3) := by decide +kernel
theorem dX7_save_38 : decode cX7_save 38 = .ok (.aload_n 0, 1) := by decide +kernel
theorem dX7_save_39 : decode cX7_save 39 = .ok (.getfield 23, 3) := by decide +kernel
theorem dX7_save_42 : decode cX7_save 42 = .ok (.iload_n 1, 1) := by decide +kernel
theorem dX7_save_43 : decode cX7_save 43 = .ok (.aload_n 2, 1) := by decide +kernel
theorem dX7_save_44 : decode cX7_save 44 = .ok (.aastore, 1) := by decide +kernel
theorem dX7_save_45 : decode cX7_save 45 = .ok (.aload_n 0, 1) := by decide +kernel
theorem dX7_save_46 : decode cX7_save 46 = .ok (.getfield 10, 3) := by decide +kernel
theorem dX7_save_49 : decode cX7_save 49 = .ok (.getfield 106, 3) := by decide +kernel
theorem dX7_save_52 : decode cX7_save 52 = .ok (.invokestatic 129, 3) := by decide +kernel
theorem dX7_save_55 : decode cX7_save 55 = .ok (.ireturn, 1) := by decide +kernel
set_option maxRecDepth 20000 in
theorem ggX7_restore_X7_isBelow : GoodIn wsX7_restore wsX7_isBelow := goodIn_r _ [8] (by decide +kernel) (by decide +kernel)
set_option maxRecDepth 20000 in
theorem gX7_restore_X7_isBelow : GoodIn wsX7_restore (va_wsS RX7 48 yX7_isBelow wsX7_isBelow) := goodIn_app (goodIn_of _ (by decide +kernel)) ggX7_restore_X7_isBelow
set_option maxRecDepth 20000 in
theorem ggX7_restore_X3_keep : GoodIn wsX7_restore wsX3_keep := goodIn_r _ [13, 14, 15, 16, 17, 18, 19, 20, 21, 12, 22, 6, 7, 8, 23, 24, 25, 26, 27, 28, 29, 30, 31, 32, 33, 34, 35, 36, 37, 38, 39, 40, 41, 42, 43, 44, 45, 46, 47, 48, 49, 50, 51, 52, 53, 54, 55, 56, 57, 58, 59, 93, 94, 86, 87, 88, 89, 90, 91, 92, 95, 96] (by decide +kernel) (by decide +kernel)
set_option maxRecDepth 20000 in
theorem gX7_restore_X3_keep : GoodIn wsX7_restore (wsV RX7 52 RX3 yX3_keep wsX3_keep) := goodIn_app (goodIn_of _ (by decide +kernel)) ggX7_restore_X3_keep
set_option maxRecDepth 20000 in
theorem ggX7_restore_X1_copyFrom : GoodIn wsX7_restore wsX1_copyFrom := goodIn_r _ [50, 30, 32, 33, 35, 51, 52, 53, 54, 37, 38, 39, 55, 56, 57, 41, 58, 45, 59, 46, 86, 87, 88, 89, 90, 91, 92, 95, 96] (by decide +kernel) (by decide +kernel)
set_option maxRecDepth 20000 in
theorem gX7_restore_X1_copyFrom : GoodIn wsX7_restore (wsV RX7 202 RX1 yX1_copyFrom wsX1_copyFrom) := goodIn_app (goodIn_of _ (by decide +kernel)) ggX7_restore_X1_copyFrom
set_option maxRecDepth 20000 in
theorem ggX7_restore_X6_staying : GoodIn wsX7_restore wsX6_staying := goodIn_r _ [64, 65, 66, 67, 63, 68, 69, 70, 71, 72, 73, 74, 75, 76, 77, 78, 79] (by decide +kernel) (by decide +kernel)
set_option maxRecDepth 20000 in
theorem gX7_restore_X6_staying : GoodIn wsX7_restore (va_wsS RX7 129 yX6_staying wsX6_staying) := goodIn_app (goodIn_of _ (by decide +kernel)) ggX7_restore_X6_staying
theorem dX7_restore_0 : decode cX7_restore 0 = .ok (.iload_n 1, 1) := by decide +kernel
theorem dX7_restore_1 : decode cX7_restore 1 = .ok (.iconst 2, 1) := by decide +kernel
theorem dX7_restore_2 : decode cX7_restore 2 = .ok (.invokestatic 48, 3) := by decide +kernel
theorem dX7_restore_5 : decode cX7_restore 5 = .ok (.ifCond .ne 6, 3) := by decide +kernel
theorem dX7_restore_8 : decode cX7_restore 8 = .ok (.bipush (-2), 2) := by decide +kernel
theorem dX7_restore_10 : decode cX7_restore 10 = .ok (.ireturn, 1) := by decide +kernel
theorem dX7_restore_11 : decode cX7_restore 11 = .ok (.aload_n 0, 1) := by decide +kernel
theorem dX7_restore_12 : decode cX7_restore 12 = .ok (.getfield 23, 3) := by decide +kernel
theorem dX7_restore_15 : decode cX7_restore 15 = .ok (.iload_n 1, 1) := by decide +kernel
theorem dX7_restore_16 : decode cX7_restore 16 = .ok (.aaload, 1) := by decide +kernel
theorem dX7_restore_17 : decode cX7_restore 17 = .ok (.astore_n 2, 1) := by decide +kernel
theorem dX7_restore_18 : decode cX7_restore 18 = .ok (.aload_n 2, 1) := by decide +kernel
theorem dX7_restore_19 : decode cX7_restore 19 = .ok (.ifnonnull 6, 3) := by decide +kernel
theorem dX7_restore_22 : decode cX7_restore 22 = .ok (.bipush (-5), 2) := by decide +kernel
theorem dX7_restore_24 : decode cX7_restore 24 = .ok (.ireturn, 1) := by decide +kernel
theorem dX7_restore_25 : decode cX7_restore 25 = .ok (.aload_n 0, 1) := by decide +kernel
theorem dX7_restore_26 : decode cX7_restore 26 = .ok (.getfield 19, 3) := by decide +kernel
theorem dX7_restore_29 : decode cX7_restore 29 = .ok (.aload_n 0, 1) := by decide +kernel
theorem dX7_restore_30 : decode cX7_restore 30 = .ok (.getfield 10, 3) := by decide +kernel
theorem dX7_restore_33 : decode cX7_restore 33 = .ok (.invokevirtual 52, 3) := by decide +kernel
theorem dX7_restore_36 : decode cX7_restore 36 = .ok (.aload_n 0, 1) := by decide +kernel
theorem dX7_restore_37 : decode cX7_restore 37 = .ok (.getfield 10, 3) := by decide +kernel
theorem dX7_restore_40 : decode cX7_restore 40 = .ok (.aload_n 2, 1) := by decide +kernel
theorem dX7_restore_41 : decode cX7_restore 41 = .ok (.invokevirtual 202, 3) := by decide +kernel
theorem dX7_restore_44 : decode cX7_restore 44 = .ok (.aload_n 0, 1) := by decide +kernel
theorem dX7_restore_45 : decode cX7_restore 45 = .ok (.getfield 10, 3) := by decide +kernel
theorem dX7_restore_48 : decode cX7_restore 48 = .ok (.getfield 106, 3) := by decide +kernel
theorem dX7_restore_51 : decode cX7_restore 51 = .ok (.invokestatic 129, 3) := by decide +kernel
theorem dX7_restore_54 : decode cX7_restore 54 = .ok (.ireturn, 1) := by decide +kernel
set_option maxRecDepth 20000 in
theorem ggX7_gatherWays_X7_hasBit : GoodIn wsX7_gatherWays wsX7_hasBit := goodIn_r _ [7] (by decide +kernel) (by decide +kernel)
set_option maxRecDepth 20000 in
theorem gX7_gatherWays_X7_hasBit : GoodIn wsX7_gatherWays (va_wsS RX7 173 yX7_hasBit wsX7_hasBit) := goodIn_app (goodIn_of _ (by decide +kernel)) ggX7_gatherWays_X7_hasBit
set_option maxRecDepth 20000 in
theorem ggX7_gatherWays_X1_wayOf : GoodIn wsX7_gatherWays wsX1_wayOf := goodIn_r _ [12, 13, 14, 15, 16, 17, 11, 18, 19, 20, 6, 21, 22, 23, 24, 25, 26, 27, 28, 29, 30, 31, 32, 33, 34, 35, 36, 37, 38, 39, 40, 41, 5, 7, 42, 43, 44, 45, 46, 47, 48, 49, 50, 51, 52, 53, 54, 55, 56, 57, 58, 59, 60, 61, 62, 81, 82, 83, 84, 85, 86, 87, 88, 89] (by decide +kernel) (by decide +kernel)
set_option maxRecDepth 20000 in
theorem gX7_gatherWays_X1_wayOf : GoodIn wsX7_gatherWays (wsV RX7 109 RX1 yX1_wayOf wsX1_wayOf) := goodIn_app (goodIn_of _ (by decide +kernel)) ggX7_gatherWays_X1_wayOf
set_option maxRecDepth 20000 in
theorem ggX7_gatherWays_X5_addMaker : GoodIn wsX7_gatherWays wsX5_addMaker := goodIn_r _ [67, 68, 69, 20, 6, 21, 76, 77, 78, 79, 80] (by decide +kernel) (by decide +kernel)
set_option maxRecDepth 20000 in
theorem gX7_gatherWays_X5_addMaker : GoodIn wsX7_gatherWays (wsV RX7 207 RX5 yX5_addMaker wsX5_addMaker) := goodIn_app (goodIn_of _ (by decide +kernel)) ggX7_gatherWays_X5_addMaker
theorem dX7_gatherWays_0 : decode cX7_gatherWays 0 = .ok (.aload_n 0, 1) := by decide +kernel
theorem dX7_gatherWays_1 : decode cX7_gatherWays 1 = .ok (.getfield 37, 3) := by decide +kernel
theorem dX7_gatherWays_4 : decode cX7_gatherWays 4 = .ok (.iconst 0, 1) := by decide +kernel
theorem dX7_gatherWays_5 : decode cX7_gatherWays 5 = .ok (.putfield 204, 3) := by decide +kernel
theorem dX7_gatherWays_8 : decode cX7_gatherWays 8 = .ok (.iconst 0, 1) := by decide +kernel
theorem dX7_gatherWays_9 : decode cX7_gatherWays 9 = .ok (.istore_n 2, 1) := by decide +kernel
theorem dX7_gatherWays_10 : decode cX7_gatherWays 10 = .ok (.iload_n 2, 1) := by decide +kernel
theorem dX7_gatherWays_11 : decode cX7_gatherWays 11 = .ok (.bipush 6, 2) := by decide +kernel
theorem dX7_gatherWays_13 : decode cX7_gatherWays 13 = .ok (.if_icmp .ge 32, 3) := by decide +kernel
