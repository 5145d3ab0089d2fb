theorem dL_presses_171 : decode cL_presses 171 = .ok (.ishr, 1) := by decide +kernel
theorem dL_presses_172 : decode cL_presses 172 = .ok (.iconst 1, 1) := by decide +kernel
theorem dL_presses_173 : decode cL_presses 173 = .ok (.iand, 1) := by decide +kernel
theorem dL_presses_174 : decode cL_presses 174 = .ok (.iconst 1, 1) := by decide +kernel
theorem dL_presses_175 : decode cL_presses 175 = .ok (.if_icmp .ne 19, 3) := by decide +kernel
theorem dL_presses_178 : decode cL_presses 178 = .ok (.aload_n 3, 1) := by decide +kernel
theorem dL_presses_179 : decode cL_presses 179 = .ok (.iload 8, 2) := by decide +kernel
theorem dL_presses_181 : decode cL_presses 181 = .ok (.iaload, 1) := by decide +kernel
theorem dL_presses_182 : decode cL_presses 182 = .ok (.istore 9, 2) := by decide +kernel
theorem dL_presses_184 : decode cL_presses 184 = .ok (.aload_n 3, 1) := by decide +kernel
theorem dL_presses_185 : decode cL_presses 185 = .ok (.iload 8, 2) := by decide +kernel
theorem dL_presses_187 : decode cL_presses 187 = .ok (.iload 7, 2) := by decide +kernel
theorem dL_presses_189 : decode cL_presses 189 = .ok (.iastore, 1) := by decide +kernel
theorem dL_presses_190 : decode cL_presses 190 = .ok (.iload 9, 2) := by decide +kernel
theorem dL_presses_192 : decode cL_presses 192 = .ok (.istore 7, 2) := by decide +kernel
theorem dL_presses_194 : decode cL_presses 194 = .ok (.iinc 8 (-1), 3) := by decide +kernel
theorem dL_presses_197 : decode cL_presses 197 = .ok (.goto (-37), 3) := by decide +kernel
theorem dL_presses_200 : decode cL_presses 200 = .ok (.return_, 1) := by decide +kernel
set_option maxRecDepth 20000 in
theorem ggL_lay_L_pressAt : GoodIn wsL_lay wsL_pressAt := goodIn_r _ [5] (by decide +kernel) (by decide +kernel)
set_option maxRecDepth 20000 in
theorem gL_lay_L_pressAt : GoodIn wsL_lay (va_wsS RL 16 yL_pressAt wsL_pressAt) := goodIn_app (goodIn_of _ (by decide +kernel)) ggL_lay_L_pressAt
set_option maxRecDepth 20000 in
theorem ggL_lay_L_presses : GoodIn wsL_lay wsL_presses := goodIn_r _ [8, 9, 10, 4, 11] (by decide +kernel) (by decide +kernel)
set_option maxRecDepth 20000 in
theorem gL_lay_L_presses : GoodIn wsL_lay (va_wsS RL 20 yL_presses wsL_presses) := goodIn_app (goodIn_of _ (by decide +kernel)) ggL_lay_L_presses
theorem dL_lay_0 : decode cL_lay 0 = .ok (.bipush 12, 2) := by decide +kernel
theorem dL_lay_2 : decode cL_lay 2 = .ok (.newarray .int, 2) := by decide +kernel
theorem dL_lay_4 : decode cL_lay 4 = .ok (.astore 6, 2) := by decide +kernel
theorem dL_lay_6 : decode cL_lay 6 = .ok (.iconst 0, 1) := by decide +kernel
theorem dL_lay_7 : decode cL_lay 7 = .ok (.istore 7, 2) := by decide +kernel
theorem dL_lay_9 : decode cL_lay 9 = .ok (.iload 7, 2) := by decide +kernel
theorem dL_lay_11 : decode cL_lay 11 = .ok (.bipush 12, 2) := by decide +kernel
theorem dL_lay_13 : decode cL_lay 13 = .ok (.if_icmp .ge 16, 3) := by decide +kernel
theorem dL_lay_16 : decode cL_lay 16 = .ok (.aload 6, 2) := by decide +kernel
theorem dL_lay_18 : decode cL_lay 18 = .ok (.iload 7, 2) := by decide +kernel
theorem dL_lay_20 : decode cL_lay 20 = .ok (.iload 7, 2) := by decide +kernel
theorem dL_lay_22 : decode cL_lay 22 = .ok (.iastore, 1) := by decide +kernel
theorem dL_lay_23 : decode cL_lay 23 = .ok (.iinc 7 1, 3) := by decide +kernel
theorem dL_lay_26 : decode cL_lay 26 = .ok (.goto (-17), 3) := by decide +kernel
theorem dL_lay_29 : decode cL_lay 29 = .ok (.iconst 0, 1) := by decide +kernel
theorem dL_lay_30 : decode cL_lay 30 = .ok (.istore 7, 2) := by decide +kernel
theorem dL_lay_32 : decode cL_lay 32 = .ok (.iload 7, 2) := by decide +kernel
theorem dL_lay_34 : decode cL_lay 34 = .ok (.aload_n 3, 1) := by decide +kernel
theorem dL_lay_35 : decode cL_lay 35 = .ok (.iload_n 0, 1) := by decide +kernel
theorem dL_lay_36 : decode cL_lay 36 = .ok (.iaload, 1) := by decide +kernel
theorem dL_lay_37 : decode cL_lay 37 = .ok (.if_icmp .ge 24, 3) := by decide +kernel
theorem dL_lay_40 : decode cL_lay 40 = .ok (.iload_n 0, 1) := by decide +kernel
theorem dL_lay_41 : decode cL_lay 41 = .ok (.iload 7, 2) := by decide +kernel
theorem dL_lay_43 : decode cL_lay 43 = .ok (.aload 4, 2) := by decide +kernel
theorem dL_lay_45 : decode cL_lay 45 = .ok (.invokestatic 16, 3) := by decide +kernel
theorem dL_lay_48 : decode cL_lay 48 = .ok (.aload_n 1, 1) := by decide +kernel
theorem dL_lay_49 : decode cL_lay 49 = .ok (.aload_n 2, 1) := by decide +kernel
theorem dL_lay_50 : decode cL_lay 50 = .ok (.aload 6, 2) := by decide +kernel
theorem dL_lay_52 : decode cL_lay 52 = .ok (.invokestatic 20, 3) := by decide +kernel
theorem dL_lay_55 : decode cL_lay 55 = .ok (.iinc 7 1, 3) := by decide +kernel
theorem dL_lay_58 : decode cL_lay 58 = .ok (.goto (-26), 3) := by decide +kernel
theorem dL_lay_61 : decode cL_lay 61 = .ok (.iconst 0, 1) := by decide +kernel
theorem dL_lay_62 : decode cL_lay 62 = .ok (.istore 7, 2) := by decide +kernel
theorem dL_lay_64 : decode cL_lay 64 = .ok (.iload 7, 2) := by decide +kernel
theorem dL_lay_66 : decode cL_lay 66 = .ok (.bipush 12, 2) := by decide +kernel
theorem dL_lay_68 : decode cL_lay 68 = .ok (.if_icmp .ge 19, 3) := by decide +kernel
theorem dL_lay_71 : decode cL_lay 71 = .ok (.aload 5, 2) := by decide +kernel
theorem dL_lay_73 : decode cL_lay 73 = .ok (.aload 6, 2) := by decide +kernel
theorem dL_lay_75 : decode cL_lay 75 = .ok (.iload 7, 2) := by decide +kernel
theorem dL_lay_77 : decode cL_lay 77 = .ok (.iaload, 1) := by decide +kernel
theorem dL_lay_78 : decode cL_lay 78 = .ok (.iload 7, 2) := by decide +kernel
theorem dL_lay_80 : decode cL_lay 80 = .ok (.iastore, 1) := by decide +kernel
theorem dL_lay_81 : decode cL_lay 81 = .ok (.iinc 7 1, 3) := by decide +kernel
theorem dL_lay_84 : decode cL_lay 84 = .ok (.goto (-20), 3) := by decide +kernel
theorem dL_lay_87 : decode cL_lay 87 = .ok (.return_, 1) := by decide +kernel
theorem dL_weaves_0 : decode cL_weaves 0 = .ok (.bipush 12, 2) := by decide +kernel
theorem dL_weaves_2 : decode cL_weaves 2 = .ok (.newarray .int, 2) := by decide +kernel
theorem dL_weaves_4 : decode cL_weaves 4 = .ok (.astore_n 2, 1) := by decide +kernel
theorem dL_weaves_5 : decode cL_weaves 5 = .ok (.iconst 0, 1) := by decide +kernel
theorem dL_weaves_6 : decode cL_weaves 6 = .ok (.istore_n 3, 1) := by decide +kernel
theorem dL_weaves_7 : decode cL_weaves 7 = .ok (.iload_n 3, 1) := by decide +kernel
theorem dL_weaves_8 : decode cL_weaves 8 = .ok (.bipush 12, 2) := by decide +kernel
theorem dL_weaves_10 : decode cL_weaves 10 = .ok (.if_icmp .ge 15, 3) := by decide +kernel
theorem dL_weaves_13 : decode cL_weaves 13 = .ok (.aload_n 2, 1) := by decide +kernel
theorem dL_weaves_14 : decode cL_weaves 14 = .ok (.iload_n 3, 1) := by decide +kernel
theorem dL_weaves_15 : decode cL_weaves 15 = .ok (.aload_n 1, 1) := by decide +kernel
theorem dL_weaves_16 : decode cL_weaves 16 = .ok (.iload_n 3, 1) := by decide +kernel
theorem dL_weaves_17 : decode cL_weaves 17 = .ok (.iaload, 1) := by decide +kernel
theorem dL_weaves_18 : decode cL_weaves 18 = .ok (.iastore, 1) := by decide +kernel
theorem dL_weaves_19 : decode cL_weaves 19 = .ok (.iinc 3 1, 3) := by decide +kernel
theorem dL_weaves_22 : decode cL_weaves 22 = .ok (.goto (-15), 3) := by decide +kernel
theorem dL_weaves_25 : decode cL_weaves 25 = .ok (.iconst 0, 1) := by decide +kernel
theorem dL_weaves_26 : decode cL_weaves 26 = .ok (.istore_n 3, 1) := by decide +kernel
theorem dL_weaves_27 : decode cL_weaves 27 = .ok (.iload_n 3, 1) := by decide +kernel
theorem dL_weaves_28 : decode cL_weaves 28 = .ok (.bipush 12, 2) := by decide +kernel
theorem dL_weaves_30 : decode cL_weaves 30 = .ok (.if_icmp .ge 17, 3) := by decide +kernel
theorem dL_weaves_33 : decode cL_weaves 33 = .ok (.aload_n 1, 1) := by decide +kernel
theorem dL_weaves_34 : decode cL_weaves 34 = .ok (.aload_n 0, 1) := by decide +kernel
theorem dL_weaves_35 : decode cL_weaves 35 = .ok (.iload_n 3, 1) := by decide +kernel
theorem dL_weaves_36 : decode cL_weaves 36 = .ok (.iaload, 1) := by decide +kernel
theorem dL_weaves_37 : decode cL_weaves 37 = .ok (.aload_n 2, 1) := by decide +kernel
theorem dL_weaves_38 : decode cL_weaves 38 = .ok (.iload_n 3, 1) := by decide +kernel
theorem dL_weaves_39 : decode cL_weaves 39 = .ok (.iaload, 1) := by decide +kernel
theorem dL_weaves_40 : decode cL_weaves 40 = .ok (.iastore, 1) := by decide +kernel
theorem dL_weaves_41 : decode cL_weaves 41 = .ok (.iinc 3 1, 3) := by decide +kernel
theorem dL_weaves_44 : decode cL_weaves 44 = .ok (.goto (-17), 3) := by decide +kernel
theorem dL_weaves_47 : decode cL_weaves 47 = .ok (.return_, 1) := by decide +kernel
theorem dL_home_0 : decode cL_home 0 = .ok (.iconst 0, 1) := by decide +kernel
theorem dL_home_1 : decode cL_home 1 = .ok (.istore_n 1, 1) := by decide +kernel
theorem dL_home_2 : decode cL_home 2 = .ok (.iconst 0, 1) := by decide +kernel
theorem dL_home_3 : decode cL_home 3 = .ok (.istore_n 2, 1) := by decide +kernel
theorem dL_home_4 : decode cL_home 4 = .ok (.iload_n 2, 1) := by decide +kernel
theorem dL_home_5 : decode cL_home 5 = .ok (.bipush 12, 2) := by decide +kernel
theorem dL_home_7 : decode cL_home 7 = .ok (.if_icmp .ge 24, 3) := by decide +kernel
theorem dL_home_10 : decode cL_home 10 = .ok (.iload_n 1, 1) := by decide +kernel
theorem dL_home_11 : decode cL_home 11 = .ok (.aload_n 0, 1) := by decide +kernel
theorem dL_home_12 : decode cL_home 12 = .ok (.iload_n 2, 1) := by decide +kernel
theorem dL_home_13 : decode cL_home 13 = .ok (.iaload, 1) := by decide +kernel
theorem dL_home_14 : decode cL_home 14 = .ok (.iload_n 2, 1) := by decide +kernel
theorem dL_home_15 : decode cL_home 15 = .ok (.if_icmp .ne 7, 3) := by decide +kernel
theorem dL_home_18 : decode cL_home 18 = .ok (.iconst 1, 1) := by decide +kernel
theorem dL_home_19 : decode cL_home 19 = .ok (.goto 4, 3) := by decide +kernel
theorem dL_home_22 : decode cL_home 22 = .ok (.iconst 0, 1) := by decide +kernel
theorem dL_home_23 : decode cL_home 23 = .ok (.iadd, 1) := by decide +kernel
theorem dL_home_24 : decode cL_home 24 = .ok (.istore_n 1, 1) := by decide +kernel
theorem dL_home_25 : decode cL_home 25 = .ok (.iinc 2 1, 3) := by decide +kernel
theorem dL_home_28 : decode cL_home 28 = .ok (.goto (-24), 3) := by decide +kernel
theorem dL_home_31 : decode cL_home 31 = .ok (.iload_n 1, 1) := by decide +kernel
theorem dL_home_32 : decode cL_home 32 = .ok (.ireturn, 1) := by decide +kernel
theorem dL_makes_0 : decode cL_makes 0 = .ok (.aload_n 3, 1) := by decide +kernel
theorem dL_makes_1 : decode cL_makes 1 = .ok (.iload_n 0, 1) := by decide +kernel
theorem dL_makes_2 : decode cL_makes 2 = .ok (.iload_n 2, 1) := by decide +kernel
theorem dL_makes_3 : decode cL_makes 3 = .ok (.iastore, 1) := by decide +kernel
theorem dL_makes_4 : decode cL_makes 4 = .ok (.iconst 0, 1) := by decide +kernel
theorem dL_makes_5 : decode cL_makes 5 = .ok (.istore 5, 2) := by decide +kernel
theorem dL_makes_7 : decode cL_makes 7 = .ok (.iload 5, 2) := by decide +kernel
theorem dL_makes_9 : decode cL_makes 9 = .ok (.iconst 3, 1) := by decide +kernel
theorem dL_makes_10 : decode cL_makes 10 = .ok (.if_icmp .ge 19, 3) := by decide +kernel
theorem dL_makes_13 : decode cL_makes 13 = .ok (.aload 4, 2) := by decide +kernel
theorem dL_makes_15 : decode cL_makes 15 = .ok (.iconst 3, 1) := by decide +kernel
theorem dL_makes_16 : decode cL_makes 16 = .ok (.iload_n 0, 1) := by decide +kernel
theorem dL_makes_17 : decode cL_makes 17 = .ok (.imul, 1) := by decide +kernel
theorem dL_makes_18 : decode cL_makes 18 = .ok (.iload 5, 2) := by decide +kernel
theorem dL_makes_20 : decode cL_makes 20 = .ok (.iadd, 1) := by decide +kernel
theorem dL_makes_21 : decode cL_makes 21 = .ok (.iconst 0, 1) := by decide +kernel
theorem dL_makes_22 : decode cL_makes 22 = .ok (.iastore, 1) := by decide +kernel
theorem dL_makes_23 : decode cL_makes 23 = .ok (.iinc 5 1, 3) := by decide +kernel
theorem dL_makes_26 : decode cL_makes 26 = .ok (.goto (-19), 3) := by decide +kernel
theorem dL_makes_29 : decode cL_makes 29 = .ok (.iconst 0, 1) := by decide +kernel
theorem dL_makes_30 : decode cL_makes 30 = .ok (.istore 5, 2) := by decide +kernel
theorem dL_makes_32 : decode cL_makes 32 = .ok (.iload 5, 2) := by decide +kernel
theorem dL_makes_34 : decode cL_makes 34 = .ok (.iload_n 2, 1) := by decide +kernel
theorem dL_makes_35 : decode cL_makes 35 = .ok (.if_icmp .ge 36, 3) := by decide +kernel
theorem dL_makes_38 : decode cL_makes 38 = .ok (.aload 4, 2) := by decide +kernel
theorem dL_makes_40 : decode cL_makes 40 = .ok (.iconst 3, 1) := by decide +kernel
theorem dL_makes_41 : decode cL_makes 41 = .ok (.iload_n 0, 1) := by decide +kernel
theorem dL_makes_42 : decode cL_makes 42 = .ok (.imul, 1) := by decide +kernel
theorem dL_makes_43 : decode cL_makes 43 = .ok (.iload 5, 2) := by decide +kernel
theorem dL_makes_45 : decode cL_makes 45 = .ok (.bipush 8, 2) := by decide +kernel
theorem dL_makes_47 : decode cL_makes 47 = .ok (.idiv, 1) := by decide +kernel
theorem dL_makes_48 : decode cL_makes 48 = .ok (.iadd, 1) := by decide +kernel
theorem dL_makes_49 : decode cL_makes 49 = .ok (.dup2, 1) := by decide +kernel
theorem dL_makes_50 : decode cL_makes 50 = .ok (.iaload, 1) := by decide +kernel
theorem dL_makes_51 : decode cL_makes 51 = .ok (.aload_n 1, 1) := by decide +kernel
theorem dL_makes_52 : decode cL_makes 52 = .ok (.iload 5, 2) := by decide +kernel
theorem dL_makes_54 : decode cL_makes 54 = .ok (.iaload, 1) := by decide +kernel
theorem dL_makes_55 : decode cL_makes 55 = .ok (.iconst 4, 1) := by decide +kernel
theorem dL_makes_56 : decode cL_makes 56 = .ok (.iload 5, 2) := by decide +kernel
theorem dL_makes_58 : decode cL_makes 58 = .ok (.bipush 8, 2) := by decide +kernel
theorem dL_makes_60 : decode cL_makes 60 = .ok (.irem, 1) := by decide +kernel
theorem dL_makes_61 : decode cL_makes 61 = .ok (.imul, 1) := by decide +kernel
theorem dL_makes_62 : decode cL_makes 62 = .ok (.ishl, 1) := by decide +kernel
theorem dL_makes_63 : decode cL_makes 63 = .ok (.ior, 1) := by decide +kernel
theorem dL_makes_64 : decode cL_makes 64 = .ok (.iastore, 1) := by decide +kernel
theorem dL_makes_65 : decode cL_makes 65 = .ok (.iinc 5 1, 3) := by decide +kernel
theorem dL_makes_68 : decode cL_makes 68 = .ok (.goto (-36), 3) := by decide +kernel
theorem dL_makes_71 : decode cL_makes 71 = .ok (.return_, 1) := by decide +kernel
set_option maxRecDepth 20000 in
theorem ggL_told_X7_place : GoodIn wsL_told wsX7_place := goodIn_r _ [10, 11, 12, 13, 14, 15, 9, 16, 17, 18, 19, 20, 21, 22, 23, 24, 25, 26, 27, 28, 29, 30, 31, 32, 33, 34, 35, 36, 37, 38, 39, 40, 41, 101, 102, 103, 104, 105, 106, 107, 108, 109, 110, 111, 112, 113] (by decide +kernel) (by decide +kernel)
set_option maxRecDepth 20000 in
theorem gL_told_X7_place : GoodIn wsL_told (wsV RL 30 RX7 yX7_place wsX7_place) := goodIn_app (goodIn_of _ (by decide +kernel)) ggL_told_X7_place
set_option maxRecDepth 20000 in
theorem ggL_told_X7_treadle : GoodIn wsL_told wsX7_treadle := goodIn_r _ [45, 11, 46, 14, 15, 9, 16, 47, 48, 49, 24, 50, 37, 38, 39, 18, 19, 20, 40, 41, 101, 102, 103, 104, 105, 106, 107, 108, 109, 110, 111, 112, 113] (by decide +kernel) (by decide +kernel)
set_option maxRecDepth 20000 in
theorem gL_told_X7_treadle : GoodIn wsL_told (wsV RL 38 RX7 yX7_treadle wsX7_treadle) := goodIn_app (goodIn_of _ (by decide +kernel)) ggL_told_X7_treadle
set_option maxRecDepth 20000 in
theorem ggL_told_X7_press : GoodIn wsL_told wsX7_press := goodIn_r _ [54, 11, 55, 56, 57, 58, 24, 59, 60, 15, 9, 16, 14, 61, 62, 63, 64, 65, 66, 101, 102, 103, 104, 105, 106, 114, 115, 107, 108, 109, 110, 111, 112, 113] (by decide +kernel) (by decide +kernel)
set_option maxRecDepth 20000 in
theorem gL_told_X7_press : GoodIn wsL_told (wsV RL 43 RX7 yX7_press wsX7_press) := goodIn_app (goodIn_of _ (by decide +kernel)) ggL_told_X7_press
set_option maxRecDepth 20000 in
theorem ggL_told_X7_count : GoodIn wsL_told wsX7_count := goodIn_r _ [70, 11, 13, 71, 72, 73, 74, 75, 76, 77, 78, 30, 79, 80, 81, 82, 83, 32, 18, 19, 20, 84, 85, 86, 87, 88, 89, 90, 91, 92, 93, 24, 94, 95, 48, 49, 50, 37, 38, 15, 9, 16, 39, 40, 41, 96, 97, 98, 99, 60, 100, 101, 102, 103, 104, 105, 106, 107, 108, 109, 110, 111, 112, 113, 116, 117, 118, 119, 114, 115] (by decide +kernel) (by decide +kernel)
set_option maxRecDepth 20000 in
theorem gL_told_X7_count : GoodIn wsL_told (wsV RL 46 RX7 yX7_count wsX7_count) := goodIn_app (goodIn_of _ (by decide +kernel)) ggL_told_X7_count
theorem dL_told_0 : decode cL_told 0 = .ok (.ldc2_w 24, 3) := by decide +kernel
theorem dL_told_3 : decode cL_told 3 = .ok (.lstore_n 1, 1) := by decide +kernel
theorem dL_told_4 : decode cL_told 4 = .ok (.iconst 0, 1) := by decide +kernel
theorem dL_told_5 : decode cL_told 5 = .ok (.istore_n 3, 1) := by decide +kernel
theorem dL_told_6 : decode cL_told 6 = .ok (.iload_n 3, 1) := by decide +kernel
theorem dL_told_7 : decode cL_told 7 = .ok (.bipush 12, 2) := by decide +kernel
theorem dL_told_9 : decode cL_told 9 = .ok (.if_icmp .ge 47, 3) := by decide +kernel
theorem dL_told_12 : decode cL_told 12 = .ok (.ldc2_w 26, 3) := by decide +kernel
theorem dL_told_15 : decode cL_told 15 = .ok (.lload_n 1, 1) := by decide +kernel
theorem dL_told_16 : decode cL_told 16 = .ok (.lmul, 1) := by decide +kernel
theorem dL_told_17 : decode cL_told 17 = .ok (.ldc2_w 28, 3) := by decide +kernel
theorem dL_told_20 : decode cL_told 20 = .ok (.aload_n 0, 1) := by decide +kernel
theorem dL_told_21 : decode cL_told 21 = .ok (.iload_n 3, 1) := by decide +kernel
theorem dL_told_22 : decode cL_told 22 = .ok (.iconst 0, 1) := by decide +kernel
theorem dL_told_23 : decode cL_told 23 = .ok (.invokevirtual 30, 3) := by decide +kernel
theorem dL_told_26 : decode cL_told 26 = .ok (.i2l, 1) := by decide +kernel
theorem dL_told_27 : decode cL_told 27 = .ok (.lmul, 1) := by decide +kernel
theorem dL_told_28 : decode cL_told 28 = .ok (.ladd, 1) := by decide +kernel
theorem dL_told_29 : decode cL_told 29 = .ok (.ldc2_w 36, 3) := by decide +kernel
theorem dL_told_32 : decode cL_told 32 = .ok (.aload_n 0, 1) := by decide +kernel
theorem dL_told_33 : decode cL_told 33 = .ok (.iload_n 3, 1) := by decide +kernel
theorem dL_told_34 : decode cL_told 34 = .ok (.iconst 1, 1) := by decide +kernel
theorem dL_told_35 : decode cL_told 35 = .ok (.invokevirtual 30, 3) := by decide +kernel
theorem dL_told_38 : decode cL_told 38 = .ok (.i2l, 1) := by decide +kernel
theorem dL_told_39 : decode cL_told 39 = .ok (.lmul, 1) := by decide +kernel
theorem dL_told_40 : decode cL_told 40 = .ok (.ladd, 1) := by decide +kernel
theorem dL_told_41 : decode cL_told 41 = .ok (.aload_n 0, 1) := by decide +kernel
theorem dL_told_42 : decode cL_told 42 = .ok (.iload_n 3, 1) := by decide +kernel
theorem dL_told_43 : decode cL_told 43 = .ok (.iconst 2, 1) := by decide +kernel
theorem dL_told_44 : decode cL_told 44 = .ok (.invokevirtual 30, 3) := by decide +kernel
theorem dL_told_47 : decode cL_told 47 = .ok (.i2l, 1) := by decide +kernel
theorem dL_told_48 : decode cL_told 48 = .ok (.ladd, 1) := by decide +kernel
theorem dL_told_49 : decode cL_told 49 = .ok (.lstore_n 1, 1) := by decide +kernel
theorem dL_told_50 : decode cL_told 50 = .ok (.iinc 3 1, 3) := by decide +kernel
theorem dL_told_53 : decode cL_told 53 = .ok (.goto (-47), 3) := by decide +kernel
theorem dL_told_56 : decode cL_told 56 = .ok (.iconst 0, 1) := by decide +kernel
theorem dL_told_57 : decode cL_told 57 = .ok (.istore_n 3, 1) := by decide +kernel
theorem dL_told_58 : decode cL_told 58 = .ok (.iload_n 3, 1) := by decide +kernel
theorem dL_told_59 : decode cL_told 59 = .ok (.bipush 6, 2) := by decide +kernel
theorem dL_told_61 : decode cL_told 61 = .ok (.if_icmp .ge 54, 3) := by decide +kernel
theorem dL_told_64 : decode cL_told 64 = .ok (.ldc2_w 26, 3) := by decide +kernel
theorem dL_told_67 : decode cL_told 67 = .ok (.lload_n 1, 1) := by decide +kernel
theorem dL_told_68 : decode cL_told 68 = .ok (.lmul, 1) := by decide +kernel
theorem dL_told_69 : decode cL_told 69 = .ok (.aload_n 0, 1) := by decide +kernel
theorem dL_told_70 : decode cL_told 70 = .ok (.iload_n 3, 1) := by decide +kernel
theorem dL_told_71 : decode cL_told 71 = .ok (.iconst 0, 1) := by decide +kernel
theorem dL_told_72 : decode cL_told 72 = .ok (.invokevirtual 38, 3) := by decide +kernel
theorem dL_told_75 : decode cL_told 75 = .ok (.i2l, 1) := by decide +kernel
theorem dL_told_76 : decode cL_told 76 = .ok (.ladd, 1) := by decide +kernel
theorem dL_told_77 : decode cL_told 77 = .ok (.lstore_n 1, 1) := by decide +kernel
theorem dL_told_78 : decode cL_told 78 = .ok (.iconst 0, 1) := by decide +kernel
theorem dL_told_79 : decode cL_told 79 = .ok (.istore 4, 2) := by decide +kernel
theorem dL_told_81 : decode cL_told 81 = .ok (.iload 4, 2) := by decide +kernel
theorem dL_told_83 : decode cL_told 83 = .ok (.bipush 24, 2) := by decide +kernel
theorem dL_told_85 : decode cL_told 85 = .ok (.if_icmp .ge 24, 3) := by decide +kernel
theorem dL_told_88 : decode cL_told 88 = .ok (.ldc2_w 41, 3) := by decide +kernel
theorem dL_told_91 : decode cL_told 91 = .ok (.lload_n 1, 1) := by decide +kernel
theorem dL_told_92 : decode cL_told 92 = .ok (.lmul, 1) := by decide +kernel
theorem dL_told_93 : decode cL_told 93 = .ok (.aload_n 0, 1) := by decide +kernel
theorem dL_told_94 : decode cL_told 94 = .ok (.iload_n 3, 1) := by decide +kernel
theorem dL_told_95 : decode cL_told 95 = .ok (.iload 4, 2) := by decide +kernel
theorem dL_told_97 : decode cL_told 97 = .ok (.invokevirtual 43, 3) := by decide +kernel
theorem dL_told_100 : decode cL_told 100 = .ok (.i2l, 1) := by decide +kernel
theorem dL_told_101 : decode cL_told 101 = .ok (.ladd, 1) := by decide +kernel
theorem dL_told_102 : decode cL_told 102 = .ok (.lstore_n 1, 1) := by decide +kernel
theorem dL_told_103 : decode cL_told 103 = .ok (.iinc 4 1, 3) := by decide +kernel
theorem dL_told_106 : decode cL_told 106 = .ok (.goto (-25), 3) := by decide +kernel
theorem dL_told_109 : decode cL_told 109 = .ok (.iinc 3 1, 3) := by decide +kernel
theorem dL_told_112 : decode cL_told 112 = .ok (.goto (-54), 3) := by decide +kernel
theorem dL_told_115 : decode cL_told 115 = .ok (.ldc2_w 26, 3) := by decide +kernel
theorem dL_told_118 : decode cL_told 118 = .ok (.ldc2_w 26, 3) := by decide +kernel
theorem dL_told_121 : decode cL_told 121 = .ok (.lload_n 1, 1) := by decide +kernel
theorem dL_told_122 : decode cL_told 122 = .ok (.lmul, 1) := by decide +kernel
theorem dL_told_123 : decode cL_told 123 = .ok (.aload_n 0, 1) := by decide +kernel
theorem dL_told_124 : decode cL_told 124 = .ok (.iconst 1, 1) := by decide +kernel
theorem dL_told_125 : decode cL_told 125 = .ok (.invokevirtual 46, 3) := by decide +kernel
theorem dL_told_128 : decode cL_told 128 = .ok (.i2l, 1) := by decide +kernel
theorem dL_told_129 : decode cL_told 129 = .ok (.ladd, 1) := by decide +kernel
theorem dL_told_130 : decode cL_told 130 = .ok (.lmul, 1) := by decide +kernel
theorem dL_told_131 : decode cL_told 131 = .ok (.aload_n 0, 1) := by decide +kernel
theorem dL_told_132 : decode cL_told 132 = .ok (.iconst 2, 1) := by decide +kernel
theorem dL_told_133 : decode cL_told 133 = .ok (.invokevirtual 46, 3) := by decide +kernel
theorem dL_told_136 : decode cL_told 136 = .ok (.i2l, 1) := by decide +kernel
theorem dL_told_137 : decode cL_told 137 = .ok (.ladd, 1) := by decide +kernel
theorem dL_told_138 : decode cL_told 138 = .ok (.lreturn, 1) := by decide +kernel
set_option maxRecDepth 20000 in
theorem ggL_writes_X7_wipe : GoodIn wsL_writes wsX7_wipe := goodIn_r _ [5, 6, 7, 111, 112, 113, 114, 115, 116, 117, 118] (by decide +kernel) (by decide +kernel)
set_option maxRecDepth 20000 in
theorem gL_writes_X7_wipe : GoodIn wsL_writes (wsV RL 50 RX7 yX7_wipe wsX7_wipe) := goodIn_app (goodIn_of _ (by decide +kernel)) ggL_writes_X7_wipe
set_option maxRecDepth 20000 in
theorem ggL_writes_L_low : GoodIn wsL_writes wsL_low := goodIn_r _ [11, 12] (by decide +kernel) (by decide +kernel)
set_option maxRecDepth 20000 in
theorem gL_writes_L_low : GoodIn wsL_writes (va_wsS RL 54 yL_low wsL_low) := goodIn_app (goodIn_of _ (by decide +kernel)) ggL_writes_L_low
set_option maxRecDepth 20000 in
theorem ggL_writes_X7_write : GoodIn wsL_writes wsX7_write := goodIn_r _ [16, 6, 7, 17, 18, 19, 20, 21, 22, 23, 24, 25, 26, 27, 28, 29, 30, 4, 31, 111, 112, 113, 114, 115, 116, 117, 118] (by decide +kernel) (by decide +kernel)
set_option maxRecDepth 20000 in
theorem gL_writes_X7_write : GoodIn wsL_writes (wsV RL 57 RX7 yX7_write wsX7_write) := goodIn_app (goodIn_of _ (by decide +kernel)) ggL_writes_X7_write
set_option maxRecDepth 20000 in
theorem ggL_writes_X7_read : GoodIn wsL_writes wsX7_read := goodIn_r _ [35, 36, 6, 37, 38, 7, 39, 40, 41, 42, 43, 44, 45, 30, 4, 31, 46, 47, 48, 19, 49, 50, 28, 29, 51, 52, 53, 54, 55, 56, 57, 58, 59, 60, 61, 62, 63, 64, 65, 66, 67, 68, 69, 70, 71, 72, 73, 74, 75, 76, 77, 78, 79, 80, 81, 82, 83, 84, 85, 86, 87, 88, 89, 90, 91, 92, 93, 94, 95, 96, 97, 98, 99, 100, 101, 102, 103, 104, 105, 106, 107, 108, 109, 110, 111, 112, 113, 114, 115, 116, 117, 118, 119, 120, 121, 122, 123, 124, 125, 126, 127, 128, 129] (by decide +kernel) (by decide +kernel)
set_option maxRecDepth 20000 in
theorem gL_writes_X7_read : GoodIn wsL_writes (wsV RL 61 RX7 yX7_read wsX7_read) := goodIn_app (goodIn_of _ (by decide +kernel)) ggL_writes_X7_read
theorem dL_writes_0 : decode cL_writes 0 = .ok (.iconst 0, 1) := by decide +kernel
theorem dL_writes_1 : decode cL_writes 1 = .ok (.istore 5, 2) := by decide +kernel
theorem dL_writes_3 : decode cL_writes 3 = .ok (.iload_n 2, 1) := by decide +kernel
theorem dL_writes_4 : decode cL_writes 4 = .ok (.istore 6, 2) := by decide +kernel
theorem dL_writes_6 : decode cL_writes 6 = .ok (.aload_n 0, 1) := by decide +kernel
theorem dL_writes_7 : decode cL_writes 7 = .ok (.invokevirtual 50, 3) := by decide +kernel
theorem dL_writes_10 : decode cL_writes 10 = .ok (.pop, 1) := by decide +kernel
theorem dL_writes_11 : decode cL_writes 11 = .ok (.iconst 0, 1) := by decide +kernel
theorem dL_writes_12 : decode cL_writes 12 = .ok (.istore 7, 2) := by decide +kernel
theorem dL_writes_14 : decode cL_writes 14 = .ok (.iload 7, 2) := by decide +kernel
theorem dL_writes_16 : decode cL_writes 16 = .ok (.iconst 1, 1) := by decide +kernel
theorem dL_writes_17 : decode cL_writes 17 = .ok (.iload_n 3, 1) := by decide +kernel
theorem dL_writes_18 : decode cL_writes 18 = .ok (.bipush 7, 2) := by decide +kernel
theorem dL_writes_20 : decode cL_writes 20 = .ok (.invokestatic 54, 3) := by decide +kernel
theorem dL_writes_23 : decode cL_writes 23 = .ok (.iadd, 1) := by decide +kernel
theorem dL_writes_24 : decode cL_writes 24 = .ok (.if_icmp .ge 159, 3) := by decide +kernel
theorem dL_writes_27 : decode cL_writes 27 = .ok (.iload 6, 2) := by decide +kernel
theorem dL_writes_29 : decode cL_writes 29 = .ok (.bipush 12, 2) := by decide +kernel
theorem dL_writes_31 : decode cL_writes 31 = .ok (.invokestatic 54, 3) := by decide +kernel
theorem dL_writes_34 : decode cL_writes 34 = .ok (.istore 8, 2) := by decide +kernel
theorem dL_writes_36 : decode cL_writes 36 = .ok (.iload 6, 2) := by decide +kernel
theorem dL_writes_38 : decode cL_writes 38 = .ok (.iconst 4, 1) := by decide +kernel
theorem dL_writes_39 : decode cL_writes 39 = .ok (.ishr, 1) := by decide +kernel
theorem dL_writes_40 : decode cL_writes 40 = .ok (.iconst 3, 1) := by decide +kernel
theorem dL_writes_41 : decode cL_writes 41 = .ok (.invokestatic 54, 3) := by decide +kernel
theorem dL_writes_44 : decode cL_writes 44 = .ok (.ifCond .le 7, 3) := by decide +kernel
theorem dL_writes_47 : decode cL_writes 47 = .ok (.iconst 1, 1) := by decide +kernel
theorem dL_writes_48 : decode cL_writes 48 = .ok (.goto 32, 3) := by decide +kernel
theorem dL_writes_51 : decode cL_writes 51 = .ok (.iconst 2, 1) := by decide +kernel
theorem dL_writes_52 : decode cL_writes 52 = .ok (.iload 6, 2) := by decide +kernel
theorem dL_writes_54 : decode cL_writes 54 = .ok (.bipush 6, 2) := by decide +kernel
theorem dL_writes_56 : decode cL_writes 56 = .ok (.ishr, 1) := by decide +kernel
theorem dL_writes_57 : decode cL_writes 57 = .ok (.iload 6, 2) := by decide +kernel
theorem dL_writes_59 : decode cL_writes 59 = .ok (.bipush 9, 2) := by decide +kernel
theorem dL_writes_61 : decode cL_writes 61 = .ok (.ishr, 1) := by decide +kernel
theorem dL_writes_62 : decode cL_writes 62 = .ok (.bipush 6, 2) := by decide +kernel
theorem dL_writes_64 : decode cL_writes 64 = .ok (.invokestatic 54, 3) := by decide +kernel
theorem dL_writes_67 : decode cL_writes 67 = .ok (.ifCond .ne 8, 3) := by decide +kernel
theorem dL_writes_70 : decode cL_writes 70 = .ok (.bipush 8, 2) := by decide +kernel
theorem dL_writes_72 : decode cL_writes 72 = .ok (.goto 4, 3) := by decide +kernel
theorem dL_writes_75 : decode cL_writes 75 = .ok (.iconst 3, 1) := by decide +kernel
theorem dL_writes_76 : decode cL_writes 76 = .ok (.invokestatic 54, 3) := by decide +kernel
theorem dL_writes_79 : decode cL_writes 79 = .ok (.iadd, 1) := by decide +kernel
theorem dL_writes_80 : decode cL_writes 80 = .ok (.istore 9, 2) := by decide +kernel
theorem dL_writes_82 : decode cL_writes 82 = .ok (.aload_n 0, 1) := by decide +kernel
theorem dL_writes_83 : decode cL_writes 83 = .ok (.iload 8, 2) := by decide +kernel
theorem dL_writes_85 : decode cL_writes 85 = .ok (.bipush 6, 2) := by decide +kernel
theorem dL_writes_87 : decode cL_writes 87 = .ok (.if_icmp .ge 12, 3) := by decide +kernel
theorem dL_writes_90 : decode cL_writes 90 = .ok (.bipush 97, 2) := by decide +kernel
theorem dL_writes_92 : decode cL_writes 92 = .ok (.iload 8, 2) := by decide +kernel
theorem dL_writes_94 : decode cL_writes 94 = .ok (.iadd, 1) := by decide +kernel
theorem dL_writes_95 : decode cL_writes 95 = .ok (.i2l, 1) := by decide +kernel
theorem dL_writes_96 : decode cL_writes 96 = .ok (.goto 12, 3) := by decide +kernel
theorem dL_writes_99 : decode cL_writes 99 = .ok (.bipush 65, 2) := by decide +kernel
theorem dL_writes_101 : decode cL_writes 101 = .ok (.iload 8, 2) := by decide +kernel
theorem dL_writes_103 : decode cL_writes 103 = .ok (.iadd, 1) := by decide +kernel
theorem dL_writes_104 : decode cL_writes 104 = .ok (.bipush 6, 2) := by decide +kernel
theorem dL_writes_106 : decode cL_writes 106 = .ok (.isub, 1) := by decide +kernel
theorem dL_writes_107 : decode cL_writes 107 = .ok (.i2l, 1) := by decide +kernel
theorem dL_writes_108 : decode cL_writes 108 = .ok (.invokevirtual 57, 3) := by decide +kernel
theorem dL_writes_111 : decode cL_writes 111 = .ok (.pop, 1) := by decide +kernel
theorem dL_writes_112 : decode cL_writes 112 = .ok (.iload 9, 2) := by decide +kernel
theorem dL_writes_114 : decode cL_writes 114 = .ok (.iconst 1, 1) := by decide +kernel
theorem dL_writes_115 : decode cL_writes 115 = .ok (.if_icmp .le 14, 3) := by decide +kernel
theorem dL_writes_118 : decode cL_writes 118 = .ok (.aload_n 0, 1) := by decide +kernel
theorem dL_writes_119 : decode cL_writes 119 = .ok (.bipush 48, 2) := by decide +kernel
theorem dL_writes_121 : decode cL_writes 121 = .ok (.iload 9, 2) := by decide +kernel
theorem dL_writes_123 : decode cL_writes 123 = .ok (.iadd, 1) := by decide +kernel
theorem dL_writes_124 : decode cL_writes 124 = .ok (.i2l, 1) := by decide +kernel
theorem dL_writes_125 : decode cL_writes 125 = .ok (.invokevirtual 57, 3) := by decide +kernel
theorem dL_writes_128 : decode cL_writes 128 = .ok (.pop, 1) := by decide +kernel
theorem dL_writes_129 : decode cL_writes 129 = .ok (.iconst 0, 1) := by decide +kernel
theorem dL_writes_130 : decode cL_writes 130 = .ok (.istore 10, 2) := by decide +kernel
theorem dL_writes_132 : decode cL_writes 132 = .ok (.iload 10, 2) := by decide +kernel
theorem dL_writes_134 : decode cL_writes 134 = .ok (.iload 9, 2) := by decide +kernel
theorem dL_writes_136 : decode cL_writes 136 = .ok (.if_icmp .ge 26, 3) := by decide +kernel
theorem dL_writes_139 : decode cL_writes 139 = .ok (.iload 5, 2) := by decide +kernel
theorem dL_writes_141 : decode cL_writes 141 = .ok (.bipush 24, 2) := by decide +kernel
theorem dL_writes_143 : decode cL_writes 143 = .ok (.if_icmp .ge 10, 3) := by decide +kernel
theorem dL_writes_146 : decode cL_writes 146 = .ok (.aload 4, 2) := by decide +kernel
theorem dL_writes_148 : decode cL_writes 148 = .ok (.iload 5, 2) := by decide +kernel
theorem dL_writes_150 : decode cL_writes 150 = .ok (.iload 8, 2) := by decide +kernel
theorem dL_writes_152 : decode cL_writes 152 = .ok (.iastore, 1) := by decide +kernel
theorem dL_writes_153 : decode cL_writes 153 = .ok (.iinc 5 1, 3) := by decide +kernel
theorem dL_writes_156 : decode cL_writes 156 = .ok (.iinc 10 1, 3) := by decide +kernel
theorem dL_writes_159 : decode cL_writes 159 = .ok (.goto (-27), 3) := by decide +kernel
theorem dL_writes_162 : decode cL_writes 162 = .ok (.iload 6, 2) := by decide +kernel
theorem dL_writes_164 : decode cL_writes 164 = .ok (.iconst 5, 1) := by decide +kernel
theorem dL_writes_165 : decode cL_writes 165 = .ok (.idiv, 1) := by decide +kernel
theorem dL_writes_166 : decode cL_writes 166 = .ok (.sipush 1013, 3) := by decide +kernel
theorem dL_writes_169 : decode cL_writes 169 = .ok (.iload 7, 2) := by decide +kernel
theorem dL_writes_171 : decode cL_writes 171 = .ok (.iconst 1, 1) := by decide +kernel
theorem dL_writes_172 : decode cL_writes 172 = .ok (.iadd, 1) := by decide +kernel
theorem dL_writes_173 : decode cL_writes 173 = .ok (.imul, 1) := by decide +kernel
theorem dL_writes_174 : decode cL_writes 174 = .ok (.iadd, 1) := by decide +kernel
theorem dL_writes_175 : decode cL_writes 175 = .ok (.istore 6, 2) := by decide +kernel
theorem dL_writes_177 : decode cL_writes 177 = .ok (.iinc 7 1, 3) := by decide +kernel
theorem dL_writes_180 : decode cL_writes 180 = .ok (.goto (-166), 3) := by decide +kernel
theorem dL_writes_183 : decode cL_writes 183 = .ok (.aload_n 0, 1) := by decide +kernel
theorem dL_writes_184 : decode cL_writes 184 = .ok (.iload_n 1, 1) := by decide +kernel
theorem dL_writes_185 : decode cL_writes 185 = .ok (.invokevirtual 61, 3) := by decide +kernel
theorem dL_writes_188 : decode cL_writes 188 = .ok (.istore 7, 2) := by decide +kernel
theorem dL_writes_190 : decode cL_writes 190 = .ok (.iload 7, 2) := by decide +kernel
theorem dL_writes_192 : decode cL_writes 192 = .ok (.iload 5, 2) := by decide +kernel
theorem dL_writes_194 : decode cL_writes 194 = .ok (.bipush 24, 2) := by decide +kernel
theorem dL_writes_196 : decode cL_writes 196 = .ok (.if_icmp .le 8, 3) := by decide +kernel
theorem dL_writes_199 : decode cL_writes 199 = .ok (.bipush (-3), 2) := by decide +kernel
theorem dL_writes_201 : decode cL_writes 201 = .ok (.goto 5, 3) := by decide +kernel
theorem dL_writes_204 : decode cL_writes 204 = .ok (.iload 5, 2) := by decide +kernel
theorem dL_writes_206 : decode cL_writes 206 = .ok (.if_icmp .ne 8, 3) := by decide +kernel
theorem dL_writes_209 : decode cL_writes 209 = .ok (.iload 7, 2) := by decide +kernel
theorem dL_writes_211 : decode cL_writes 211 = .ok (.goto 5, 3) := by decide +kernel
theorem dL_writes_214 : decode cL_writes 214 = .ok (.bipush (-99), 2) := by decide +kernel
theorem dL_writes_216 : decode cL_writes 216 = .ok (.ireturn, 1) := by decide +kernel
set_option maxRecDepth 20000 in
theorem ggL_call_X7_put : GoodIn wsL_call wsX7_put := goodIn_r _ [5, 6, 7, 8, 9, 10, 4, 11, 12, 13, 14, 15, 16, 17, 18, 19, 20, 21, 22, 23, 24, 25, 26, 27, 28, 29, 30, 31, 32, 33, 34, 35, 36, 37, 38, 39, 40, 41, 42, 43, 44, 45, 46, 47, 48, 49, 50, 51, 52, 53, 54, 55, 56, 57, 58, 59, 60, 61, 62, 63, 64, 65, 66, 67, 68, 69, 70, 71, 226, 227, 228, 229, 230, 231, 232, 233, 234, 235, 236, 237, 238, 239, 240, 241, 242] (by decide +kernel) (by decide +kernel)
set_option maxRecDepth 20000 in
theorem gL_call_X7_put : GoodIn wsL_call (wsV RL 64 RX7 yX7_put wsX7_put) := goodIn_app (goodIn_of _ (by decide +kernel)) ggL_call_X7_put
set_option maxRecDepth 20000 in
theorem ggL_call_X7_tie : GoodIn wsL_call wsX7_tie := goodIn_r _ [75, 6, 7, 76, 9, 10, 4, 11, 12, 13, 14, 15, 16, 17, 18, 19, 20, 21, 22, 23, 24, 25, 26, 27, 28, 29, 30, 31, 32, 33, 34, 35, 36, 37, 38, 39, 40, 41, 42, 43, 44, 45, 46, 47, 48, 49, 50, 51, 52, 53, 54, 55, 56, 57, 58, 59, 60, 61, 62, 77, 78, 79, 80, 81, 64, 65, 66, 82, 83, 84, 85, 86, 87, 88, 89, 90, 226, 227, 228, 229, 230, 231, 232, 233, 234, 235, 236, 237, 238, 239, 240, 241, 242] (by decide +kernel) (by decide +kernel)
set_option maxRecDepth 20000 in
theorem gL_call_X7_tie : GoodIn wsL_call (wsV RL 67 RX7 yX7_tie wsX7_tie) := goodIn_app (goodIn_of _ (by decide +kernel)) ggL_call_X7_tie
set_option maxRecDepth 20000 in
theorem ggL_call_L_writes : GoodIn wsL_call wsL_writes := goodIn_r _ [94, 95, 96, 97, 4, 98, 99, 100, 101, 102, 93, 103, 104, 105, 106, 107, 108, 109, 110, 111, 112, 113, 114, 115, 116, 117, 118, 119, 120, 121, 10, 11, 122, 123, 124, 125, 7, 126, 6, 127, 128, 129, 130, 21, 131, 40, 132, 133, 134, 135, 136, 137, 138, 139, 140, 141, 142, 143, 144, 145, 44, 146, 49, 48, 12, 13, 14, 15, 16, 17, 18, 19, 20, 22, 23, 24, 25, 26, 27, 28, 29, 30, 31, 32, 33, 34, 35, 36, 37, 38, 39, 41, 42, 43, 45, 46, 47, 50, 51, 52, 53, 54, 55, 56, 57, 58, 59, 60, 61, 62, 147, 226, 227, 228, 229, 230, 231, 243, 244, 241, 242, 232, 233, 234, 235, 236, 237, 238, 239, 240] (by decide +kernel) (by decide +kernel)
set_option maxRecDepth 20000 in
theorem gL_call_L_writes : GoodIn wsL_call (va_wsS RL 70 yL_writes wsL_writes) := goodIn_app (goodIn_of _ (by decide +kernel)) ggL_call_L_writes
set_option maxRecDepth 20000 in
theorem ggL_call_X7_compose : GoodIn wsL_call wsX7_compose := goodIn_r _ [151, 7, 127, 6, 126, 128, 129, 130, 21, 131, 40, 10, 4, 11, 12, 13, 14, 15, 16, 17, 18, 19, 20, 22, 23, 24, 25, 26, 27, 28, 29, 30, 31, 32, 33, 34, 35, 36, 37, 38, 39, 41, 42, 43, 44, 45, 46, 47, 48, 49, 50, 51, 52, 53, 54, 55, 56, 57, 58, 59, 60, 61, 62, 152, 153, 154, 155, 156, 157, 158, 159, 160, 144, 145, 146, 147, 226, 227, 228, 229, 230, 231, 241, 242, 232, 233, 234, 235, 236, 237, 238, 239, 240] (by decide +kernel) (by decide +kernel)
set_option maxRecDepth 20000 in
theorem gL_call_X7_compose : GoodIn wsL_call (wsV RL 74 RX7 yX7_compose wsX7_compose) := goodIn_app (goodIn_of _ (by decide +kernel)) ggL_call_X7_compose
set_option maxRecDepth 20000 in
theorem ggL_call_X7_turnRound : GoodIn wsL_call wsX7_turnRound := goodIn_r _ [164, 7, 6, 126, 127, 128, 129, 130, 21, 131, 40, 10, 4, 11, 12, 13, 14, 15, 16, 17, 18, 19, 20, 22, 23, 24, 25, 26, 27, 28, 29, 30, 31, 32, 33, 34, 35, 36, 37, 38, 39, 41, 42, 43, 44, 45, 46, 47, 48, 49, 50, 51, 52, 53, 54, 55, 56, 57, 58, 59, 60, 61, 62, 165, 166, 167, 168, 156, 157, 158, 159, 160, 144, 145, 146, 147, 226, 227, 228, 229, 230, 231, 241, 242, 232, 233, 234, 235, 236, 237, 238, 239, 240] (by decide +kernel) (by decide +kernel)
set_option maxRecDepth 20000 in
theorem gL_call_X7_turnRound : GoodIn wsL_call (wsV RL 78 RX7 yX7_turnRound wsX7_turnRound) := goodIn_app (goodIn_of _ (by decide +kernel)) ggL_call_X7_turnRound
set_option maxRecDepth 20000 in
theorem ggL_call_X7_repeat : GoodIn wsL_call wsX7_repeat := goodIn_r _ [172, 7, 127, 6, 126, 128, 129, 130, 21, 131, 40, 10, 4, 11, 12, 13, 14, 15, 16, 17, 18, 19, 20, 22, 23, 24, 25, 26, 27, 28, 29, 30, 31, 32, 33, 34, 35, 36, 37, 38, 39, 41, 42, 43, 44, 45, 46, 47, 48, 49, 50, 51, 52, 53, 54, 55, 56, 57, 58, 59, 60, 61, 62, 152, 153, 154, 155, 156, 157, 158, 159, 160, 144, 145, 146, 147, 226, 227, 228, 229, 230, 231, 241, 242, 232, 233, 234, 235, 236, 237, 238, 239, 240] (by decide +kernel) (by decide +kernel)
set_option maxRecDepth 20000 in
theorem gL_call_X7_repeat : GoodIn wsL_call (wsV RL 81 RX7 yX7_repeat wsX7_repeat) := goodIn_app (goodIn_of _ (by decide +kernel)) ggL_call_X7_repeat
set_option maxRecDepth 20000 in
theorem ggL_call_X7_weave : GoodIn wsL_call wsX7_weave := goodIn_r _ [176, 7, 6, 177, 178, 127, 179, 128, 129, 130, 21, 131, 40, 10, 4, 11, 12, 13, 14, 15, 16, 17, 18, 19, 20, 22, 23, 24, 25, 26, 27, 28, 29, 30, 31, 32, 33, 34, 35, 36, 37, 38, 39, 41, 42, 43, 44, 45, 46, 47, 48, 49, 50, 51, 52, 53, 54, 55, 56, 57, 58, 59, 60, 61, 62, 180, 181, 182, 183, 184, 185, 186, 157, 158, 159, 187, 188, 189, 190, 191, 78, 79, 80, 81, 64, 65, 66, 82, 83, 192, 193, 194, 195, 196, 197, 68, 69, 70, 71, 198, 199, 200, 201, 202, 203, 204, 205, 206, 207, 208, 209, 210, 211, 212, 213, 214, 215, 216, 217, 218, 219, 220, 85, 86, 87, 88, 89, 90, 226, 227, 228, 229, 230, 231, 232, 233, 234, 235, 236, 237, 238, 241, 242, 239, 240] (by decide +kernel) (by decide +kernel)
set_option maxRecDepth 20000 in
theorem gL_call_X7_weave : GoodIn wsL_call (wsV RL 84 RX7 yX7_weave wsX7_weave) := goodIn_app (goodIn_of _ (by decide +kernel)) ggL_call_X7_weave
set_option maxRecDepth 20000 in
theorem ggL_call_X7_dye : GoodIn wsL_call wsX7_dye := goodIn_r _ [224, 6, 7, 225, 9, 10, 4, 11, 12, 13, 14, 15, 16, 17, 18, 19, 20, 21, 22, 23, 24, 25, 26, 27, 28, 29, 30, 31, 32, 33, 34, 35, 36, 37, 38, 39, 40, 41, 42, 43, 44, 45, 46, 47, 48, 49, 50, 51, 52, 53, 54, 55, 56, 57, 58, 59, 60, 61, 62, 63, 64, 65, 66, 67, 68, 69, 70, 71, 226, 227, 228, 229, 230, 231, 232, 233, 234, 235, 236, 237, 238, 239, 240, 241, 242] (by decide +kernel) (by decide +kernel)
set_option maxRecDepth 20000 in
theorem gL_call_X7_dye : GoodIn wsL_call (wsV RL 87 RX7 yX7_dye wsX7_dye) := goodIn_app (goodIn_of _ (by decide +kernel)) ggL_call_X7_dye
theorem dL_call_0 : decode cL_call 0 = .ok (.iload_n 1, 1) := by decide +kernel
theorem dL_call_1 : decode cL_call 1 = .ok (.tableswitch 100 0 6 #[43, 50, 57, 68, 77, 84, 93], 43) := by decide +kernel
theorem dL_call_44 : decode cL_call 44 = .ok (.aload_n 0, 1) := by decide +kernel
theorem dL_call_45 : decode cL_call 45 = .ok (.iload_n 2, 1) := by decide +kernel
theorem dL_call_46 : decode cL_call 46 = .ok (.iload_n 3, 1) := by decide +kernel
theorem dL_call_47 : decode cL_call 47 = .ok (.invokevirtual 64, 3) := by decide +kernel
theorem dL_call_50 : decode cL_call 50 = .ok (.ireturn, 1) := by decide +kernel
theorem dL_call_51 : decode cL_call 51 = .ok (.aload_n 0, 1) := by decide +kernel
theorem dL_call_52 : decode cL_call 52 = .ok (.iload_n 2, 1) := by decide +kernel
theorem dL_call_53 : decode cL_call 53 = .ok (.iload_n 3, 1) := by decide +kernel
theorem dL_call_54 : decode cL_call 54 = .ok (.invokevirtual 67, 3) := by decide +kernel
theorem dL_call_57 : decode cL_call 57 = .ok (.ireturn, 1) := by decide +kernel
theorem dL_call_58 : decode cL_call 58 = .ok (.aload_n 0, 1) := by decide +kernel
theorem dL_call_59 : decode cL_call 59 = .ok (.iload_n 2, 1) := by decide +kernel
theorem dL_call_60 : decode cL_call 60 = .ok (.iload_n 3, 1) := by decide +kernel
theorem dL_call_61 : decode cL_call 61 = .ok (.iload 4, 2) := by decide +kernel
theorem dL_call_63 : decode cL_call 63 = .ok (.aload 5, 2) := by decide +kernel
theorem dL_call_65 : decode cL_call 65 = .ok (.invokestatic 70, 3) := by decide +kernel
theorem dL_call_68 : decode cL_call 68 = .ok (.ireturn, 1) := by decide +kernel
theorem dL_call_69 : decode cL_call 69 = .ok (.aload_n 0, 1) := by decide +kernel
theorem dL_call_70 : decode cL_call 70 = .ok (.iload_n 2, 1) := by decide +kernel
theorem dL_call_71 : decode cL_call 71 = .ok (.iload_n 3, 1) := by decide +kernel
theorem dL_call_72 : decode cL_call 72 = .ok (.iload 4, 2) := by decide +kernel
theorem dL_call_74 : decode cL_call 74 = .ok (.invokevirtual 74, 3) := by decide +kernel
theorem dL_call_77 : decode cL_call 77 = .ok (.ireturn, 1) := by decide +kernel
theorem dL_call_78 : decode cL_call 78 = .ok (.aload_n 0, 1) := by decide +kernel
theorem dL_call_79 : decode cL_call 79 = .ok (.iload_n 2, 1) := by decide +kernel
theorem dL_call_80 : decode cL_call 80 = .ok (.iload_n 3, 1) := by decide +kernel
theorem dL_call_81 : decode cL_call 81 = .ok (.invokevirtual 78, 3) := by decide +kernel
theorem dL_call_84 : decode cL_call 84 = .ok (.ireturn, 1) := by decide +kernel
theorem dL_call_85 : decode cL_call 85 = .ok (.aload_n 0, 1) := by decide +kernel
theorem dL_call_86 : decode cL_call 86 = .ok (.iload_n 2, 1) := by decide +kernel
theorem dL_call_87 : decode cL_call 87 = .ok (.iload_n 3, 1) := by decide +kernel
theorem dL_call_88 : decode cL_call 88 = .ok (.iload 4, 2) := by decide +kernel
theorem dL_call_90 : decode cL_call 90 = .ok (.invokevirtual 81, 3) := by decide +kernel
theorem dL_call_93 : decode cL_call 93 = .ok (.ireturn, 1) := by decide +kernel
theorem dL_call_94 : decode cL_call 94 = .ok (.aload_n 0, 1) := by decide +kernel
theorem dL_call_95 : decode cL_call 95 = .ok (.iload_n 2, 1) := by decide +kernel
theorem dL_call_96 : decode cL_call 96 = .ok (.iload_n 3, 1) := by decide +kernel
theorem dL_call_97 : decode cL_call 97 = .ok (.invokevirtual 84, 3) := by decide +kernel
theorem dL_call_100 : decode cL_call 100 = .ok (.ireturn, 1) := by decide +kernel
theorem dL_call_101 : decode cL_call 101 = .ok (.aload_n 0, 1) := by decide +kernel
theorem dL_call_102 : decode cL_call 102 = .ok (.iload_n 2, 1) := by decide +kernel
theorem dL_call_103 : decode cL_call 103 = .ok (.iload_n 3, 1) := by decide +kernel
theorem dL_call_104 : decode cL_call 104 = .ok (.invokevirtual 87, 3) := by decide +kernel
theorem dL_call_107 : decode cL_call 107 = .ok (.ireturn, 1) := by decide +kernel
set_option maxRecDepth 20000 in
theorem ggL_puts_L_pressAt : GoodIn wsL_puts wsL_pressAt := goodIn_r _ [4] (by decide +kernel) (by decide +kernel)
set_option maxRecDepth 20000 in
theorem gL_puts_L_pressAt : GoodIn wsL_puts (va_wsS RL 16 yL_pressAt wsL_pressAt) := goodIn_app (goodIn_of _ (by decide +kernel)) ggL_puts_L_pressAt
theorem dL_puts_0 : decode cL_puts 0 = .ok (.iconst 0, 1) := by decide +kernel
theorem dL_puts_1 : decode cL_puts 1 = .ok (.istore 5, 2) := by decide +kernel
theorem dL_puts_3 : decode cL_puts 3 = .ok (.iload 5, 2) := by decide +kernel
theorem dL_puts_5 : decode cL_puts 5 = .ok (.aload_n 2, 1) := by decide +kernel
theorem dL_puts_6 : decode cL_puts 6 = .ok (.iload_n 0, 1) := by decide +kernel
theorem dL_puts_7 : decode cL_puts 7 = .ok (.iaload, 1) := by decide +kernel
theorem dL_puts_8 : decode cL_puts 8 = .ok (.if_icmp .ge 23, 3) := by decide +kernel
theorem dL_puts_11 : decode cL_puts 11 = .ok (.aload 4, 2) := by decide +kernel
theorem dL_puts_13 : decode cL_puts 13 = .ok (.iload_n 1, 1) := by decide +kernel
theorem dL_puts_14 : decode cL_puts 14 = .ok (.iload 5, 2) := by decide +kernel
theorem dL_puts_16 : decode cL_puts 16 = .ok (.iadd, 1) := by decide +kernel
theorem dL_puts_17 : decode cL_puts 17 = .ok (.iload_n 0, 1) := by decide +kernel
theorem dL_puts_18 : decode cL_puts 18 = .ok (.iload 5, 2) := by decide +kernel
theorem dL_puts_20 : decode cL_puts 20 = .ok (.aload_n 3, 1) := by decide +kernel
theorem dL_puts_21 : decode cL_puts 21 = .ok (.invokestatic 16, 3) := by decide +kernel
theorem dL_puts_24 : decode cL_puts 24 = .ok (.iastore, 1) := by decide +kernel
theorem dL_puts_25 : decode cL_puts 25 = .ok (.iinc 5 1, 3) := by decide +kernel
theorem dL_puts_28 : decode cL_puts 28 = .ok (.goto (-25), 3) := by decide +kernel
theorem dL_puts_31 : decode cL_puts 31 = .ok (.iload_n 1, 1) := by decide +kernel
theorem dL_puts_32 : decode cL_puts 32 = .ok (.aload_n 2, 1) := by decide +kernel
theorem dL_puts_33 : decode cL_puts 33 = .ok (.iload_n 0, 1) := by decide +kernel
theorem dL_puts_34 : decode cL_puts 34 = .ok (.iaload, 1) := by decide +kernel
theorem dL_puts_35 : decode cL_puts 35 = .ok (.iadd, 1) := by decide +kernel
theorem dL_puts_36 : decode cL_puts 36 = .ok (.ireturn, 1) := by decide +kernel
set_option maxRecDepth 20000 in
theorem ggL_due_L_raised : GoodIn wsL_due wsL_raised := goodIn_r _ [5] (by decide +kernel) (by decide +kernel)
set_option maxRecDepth 20000 in
theorem gL_due_L_raised : GoodIn wsL_due (va_wsS RL 10 yL_raised wsL_raised) := goodIn_app (goodIn_of _ (by decide +kernel)) ggL_due_L_raised
set_option maxRecDepth 20000 in
theorem ggL_due_L_ones : GoodIn wsL_due wsL_ones := goodIn_r _ [8] (by decide +kernel) (by decide +kernel)
set_option maxRecDepth 20000 in
theorem gL_due_L_ones : GoodIn wsL_due (va_wsS RL 90 yL_ones wsL_ones) := goodIn_app (goodIn_of _ (by decide +kernel)) ggL_due_L_ones
set_option maxRecDepth 20000 in
theorem ggL_due_L_makes : GoodIn wsL_due wsL_makes := goodIn_r _ [11] (by decide +kernel) (by decide +kernel)
set_option maxRecDepth 20000 in
theorem gL_due_L_makes : GoodIn wsL_due (va_wsS RL 93 yL_makes wsL_makes) := goodIn_app (goodIn_of _ (by decide +kernel)) ggL_due_L_makes
set_option maxRecDepth 20000 in
theorem ggL_due_L_lay : GoodIn wsL_due wsL_lay := goodIn_r _ [14, 1, 15, 16, 4, 17, 18, 19, 20, 2, 3, 5] (by decide +kernel) (by decide +kernel)
set_option maxRecDepth 20000 in
theorem gL_due_L_lay : GoodIn wsL_due (va_wsS RL 97 yL_lay wsL_lay) := goodIn_app (goodIn_of _ (by decide +kernel)) ggL_due_L_lay
set_option maxRecDepth 20000 in
theorem ggL_due_L_weaves : GoodIn wsL_due wsL_weaves := goodIn_r _ [23, 1] (by decide +kernel) (by decide +kernel)
set_option maxRecDepth 20000 in
theorem gL_due_L_weaves : GoodIn wsL_due (va_wsS RL 101 yL_weaves wsL_weaves) := goodIn_app (goodIn_of _ (by decide +kernel)) ggL_due_L_weaves
set_option maxRecDepth 20000 in
theorem ggL_due_L_home : GoodIn wsL_due wsL_home := goodIn_r _ [26] (by decide +kernel) (by decide +kernel)
set_option maxRecDepth 20000 in
theorem gL_due_L_home : GoodIn wsL_due (va_wsS RL 105 yL_home wsL_home) := goodIn_app (goodIn_of _ (by decide +kernel)) ggL_due_L_home
set_option maxRecDepth 20000 in
theorem ggL_due_L_pressAt : GoodIn wsL_due wsL_pressAt := goodIn_r _ [17] (by decide +kernel) (by decide +kernel)
set_option maxRecDepth 20000 in
theorem gL_due_L_pressAt : GoodIn wsL_due (va_wsS RL 16 yL_pressAt wsL_pressAt) := goodIn_app (goodIn_of _ (by decide +kernel)) ggL_due_L_pressAt
set_option maxRecDepth 20000 in
theorem ggL_due_L_puts : GoodIn wsL_due wsL_puts := goodIn_r _ [29, 15, 16, 4, 17] (by decide +kernel) (by decide +kernel)
set_option maxRecDepth 20000 in
theorem gL_due_L_puts : GoodIn wsL_due (va_wsS RL 109 yL_puts wsL_puts) := goodIn_app (goodIn_of _ (by decide +kernel)) ggL_due_L_puts
theorem dL_due_0 : decode cL_due 0 = .ok (.iload_n 1, 1) := by decide +kernel
theorem dL_due_1 : decode cL_due 1 = .ok (.ifCond .ne 17, 3) := by decide +kernel
theorem dL_due_4 : decode cL_due 4 = .ok (.aload 5, 2) := by decide +kernel
theorem dL_due_6 : decode cL_due 6 = .ok (.iload_n 2, 1) := by decide +kernel
theorem dL_due_7 : decode cL_due 7 = .ok (.iaload, 1) := by decide +kernel
theorem dL_due_8 : decode cL_due 8 = .ok (.istore 12, 2) := by decide +kernel
theorem dL_due_10 : decode cL_due 10 = .ok (.aload 5, 2) := by decide +kernel
theorem dL_due_12 : decode cL_due 12 = .ok (.iload_n 2, 1) := by decide +kernel
theorem dL_due_13 : decode cL_due 13 = .ok (.iload_n 3, 1) := by decide +kernel
theorem dL_due_14 : decode cL_due 14 = .ok (.iastore, 1) := by decide +kernel
theorem dL_due_15 : decode cL_due 15 = .ok (.iload 12, 2) := by decide +kernel
theorem dL_due_17 : decode cL_due 17 = .ok (.ireturn, 1) := by decide +kernel
theorem dL_due_18 : decode cL_due 18 = .ok (.iload_n 1, 1) := by decide +kernel
theorem dL_due_19 : decode cL_due 19 = .ok (.iconst 1, 1) := by decide +kernel
theorem dL_due_20 : decode cL_due 20 = .ok (.if_icmp .ne 20, 3) := by decide +kernel
theorem dL_due_23 : decode cL_due 23 = .ok (.aload 6, 2) := by decide +kernel
theorem dL_due_25 : decode cL_due 25 = .ok (.iload_n 2, 1) := by decide +kernel
theorem dL_due_26 : decode cL_due 26 = .ok (.iload_n 3, 1) := by decide +kernel
theorem dL_due_27 : decode cL_due 27 = .ok (.iastore, 1) := by decide +kernel
theorem dL_due_28 : decode cL_due 28 = .ok (.iload_n 2, 1) := by decide +kernel
theorem dL_due_29 : decode cL_due 29 = .ok (.aload 5, 2) := by decide +kernel
theorem dL_due_31 : decode cL_due 31 = .ok (.aload 6, 2) := by decide +kernel
theorem dL_due_33 : decode cL_due 33 = .ok (.invokestatic 10, 3) := by decide +kernel
theorem dL_due_36 : decode cL_due 36 = .ok (.invokestatic 90, 3) := by decide +kernel
theorem dL_due_39 : decode cL_due 39 = .ok (.ireturn, 1) := by decide +kernel
theorem dL_due_40 : decode cL_due 40 = .ok (.iload_n 1, 1) := by decide +kernel
theorem dL_due_41 : decode cL_due 41 = .ok (.iconst 2, 1) := by decide +kernel
theorem dL_due_42 : decode cL_due 42 = .ok (.if_icmp .ne 20, 3) := by decide +kernel
theorem dL_due_45 : decode cL_due 45 = .ok (.iload_n 0, 1) := by decide +kernel
theorem dL_due_46 : decode cL_due 46 = .ok (.ifCond .le 14, 3) := by decide +kernel
theorem dL_due_49 : decode cL_due 49 = .ok (.iload_n 2, 1) := by decide +kernel
theorem dL_due_50 : decode cL_due 50 = .ok (.aload 11, 2) := by decide +kernel
theorem dL_due_52 : decode cL_due 52 = .ok (.iload_n 0, 1) := by decide +kernel
theorem dL_due_53 : decode cL_due 53 = .ok (.aload 9, 2) := by decide +kernel
theorem dL_due_55 : decode cL_due 55 = .ok (.aload 10, 2) := by decide +kernel
theorem dL_due_57 : decode cL_due 57 = .ok (.invokestatic 93, 3) := by decide +kernel
theorem dL_due_60 : decode cL_due 60 = .ok (.iload_n 0, 1) := by decide +kernel
theorem dL_due_61 : decode cL_due 61 = .ok (.ireturn, 1) := by decide +kernel
theorem dL_due_62 : decode cL_due 62 = .ok (.iload_n 1, 1) := by decide +kernel
theorem dL_due_63 : decode cL_due 63 = .ok (.bipush 6, 2) := by decide +kernel
theorem dL_due_65 : decode cL_due 65 = .ok (.if_icmp .ne 74, 3) := by decide +kernel
theorem dL_due_68 : decode cL_due 68 = .ok (.bipush 12, 2) := by decide +kernel
theorem dL_due_70 : decode cL_due 70 = .ok (.newarray .int, 2) := by decide +kernel
theorem dL_due_72 : decode cL_due 72 = .ok (.astore 12, 2) := by decide +kernel
theorem dL_due_74 : decode cL_due 74 = .ok (.iload_n 2, 1) := by decide +kernel
theorem dL_due_75 : decode cL_due 75 = .ok (.aload 5, 2) := by decide +kernel
theorem dL_due_77 : decode cL_due 77 = .ok (.aload 6, 2) := by decide +kernel
theorem dL_due_79 : decode cL_due 79 = .ok (.aload 9, 2) := by decide +kernel
theorem dL_due_81 : decode cL_due 81 = .ok (.aload 10, 2) := by decide +kernel
theorem dL_due_83 : decode cL_due 83 = .ok (.aload 12, 2) := by decide +kernel
theorem dL_due_85 : decode cL_due 85 = .ok (.invokestatic 97, 3) := by decide +kernel
theorem dL_due_88 : decode cL_due 88 = .ok (.iconst 0, 1) := by decide +kernel
theorem dL_due_89 : decode cL_due 89 = .ok (.istore 13, 2) := by decide +kernel
theorem dL_due_91 : decode cL_due 91 = .ok (.iload 13, 2) := by decide +kernel
theorem dL_due_93 : decode cL_due 93 = .ok (.iload_n 3, 1) := by decide +kernel
theorem dL_due_94 : decode cL_due 94 = .ok (.if_icmp .ge 16, 3) := by decide +kernel
theorem dL_due_97 : decode cL_due 97 = .ok (.aload 12, 2) := by decide +kernel
theorem dL_due_99 : decode cL_due 99 = .ok (.aload 7, 2) := by decide +kernel
theorem dL_due_101 : decode cL_due 101 = .ok (.invokestatic 101, 3) := by decide +kernel
theorem dL_due_104 : decode cL_due 104 = .ok (.iinc 13 1, 3) := by decide +kernel
theorem dL_due_107 : decode cL_due 107 = .ok (.goto (-16), 3) := by decide +kernel
theorem dL_due_110 : decode cL_due 110 = .ok (.aload 9, 2) := by decide +kernel
theorem dL_due_112 : decode cL_due 112 = .ok (.bipush 6, 2) := by decide +kernel
theorem dL_due_114 : decode cL_due 114 = .ok (.dup2, 1) := by decide +kernel
theorem dL_due_115 : decode cL_due 115 = .ok (.iaload, 1) := by decide +kernel
theorem dL_due_116 : decode cL_due 116 = .ok (.iload_n 3, 1) := by decide +kernel
theorem dL_due_117 : decode cL_due 117 = .ok (.aload 9, 2) := by decide +kernel
theorem dL_due_119 : decode cL_due 119 = .ok (.iload_n 2, 1) := by decide +kernel
theorem dL_due_120 : decode cL_due 120 = .ok (.iaload, 1) := by decide +kernel
theorem dL_due_121 : decode cL_due 121 = .ok (.imul, 1) := by decide +kernel
theorem dL_due_122 : decode cL_due 122 = .ok (.iadd, 1) := by decide +kernel
theorem dL_due_123 : decode cL_due 123 = .ok (.iastore, 1) := by decide +kernel
theorem dL_due_124 : decode cL_due 124 = .ok (.aload 9, 2) := by decide +kernel
theorem dL_due_126 : decode cL_due 126 = .ok (.bipush 7, 2) := by decide +kernel
theorem dL_due_128 : decode cL_due 128 = .ok (.dup2, 1) := by decide +kernel
theorem dL_due_129 : decode cL_due 129 = .ok (.iaload, 1) := by decide +kernel
theorem dL_due_130 : decode cL_due 130 = .ok (.iload_n 3, 1) := by decide +kernel
theorem dL_due_131 : decode cL_due 131 = .ok (.iadd, 1) := by decide +kernel
theorem dL_due_132 : decode cL_due 132 = .ok (.iastore, 1) := by decide +kernel
theorem dL_due_133 : decode cL_due 133 = .ok (.aload 7, 2) := by decide +kernel
theorem dL_due_135 : decode cL_due 135 = .ok (.invokestatic 105, 3) := by decide +kernel
theorem dL_due_138 : decode cL_due 138 = .ok (.ireturn, 1) := by decide +kernel
theorem dL_due_139 : decode cL_due 139 = .ok (.iload_n 1, 1) := by decide +kernel
theorem dL_due_140 : decode cL_due 140 = .ok (.bipush 7, 2) := by decide +kernel
theorem dL_due_142 : decode cL_due 142 = .ok (.if_icmp .ne 17, 3) := by decide +kernel
theorem dL_due_145 : decode cL_due 145 = .ok (.aload 8, 2) := by decide +kernel
theorem dL_due_147 : decode cL_due 147 = .ok (.iload_n 2, 1) := by decide +kernel
theorem dL_due_148 : decode cL_due 148 = .ok (.iaload, 1) := by decide +kernel
theorem dL_due_149 : decode cL_due 149 = .ok (.istore 12, 2) := by decide +kernel
theorem dL_due_151 : decode cL_due 151 = .ok (.aload 8, 2) := by decide +kernel
theorem dL_due_153 : decode cL_due 153 = .ok (.iload_n 2, 1) := by decide +kernel
theorem dL_due_154 : decode cL_due 154 = .ok (.iload_n 3, 1) := by decide +kernel
theorem dL_due_155 : decode cL_due 155 = .ok (.iastore, 1) := by decide +kernel
theorem dL_due_156 : decode cL_due 156 = .ok (.iload 12, 2) := by decide +kernel
theorem dL_due_158 : decode cL_due 158 = .ok (.ireturn, 1) := by decide +kernel
theorem dL_due_159 : decode cL_due 159 = .ok (.iload_n 1, 1) := by decide +kernel
theorem dL_due_160 : decode cL_due 160 = .ok (.iconst 3, 1) := by decide +kernel
theorem dL_due_161 : decode cL_due 161 = .ok (.if_icmp .ne 16, 3) := by decide +kernel
theorem dL_due_164 : decode cL_due 164 = .ok (.aload 9, 2) := by decide +kernel
theorem dL_due_166 : decode cL_due 166 = .ok (.iload_n 3, 1) := by decide +kernel
theorem dL_due_167 : decode cL_due 167 = .ok (.iaload, 1) := by decide +kernel
theorem dL_due_168 : decode cL_due 168 = .ok (.aload 9, 2) := by decide +kernel
theorem dL_due_170 : decode cL_due 170 = .ok (.iload 4, 2) := by decide +kernel
theorem dL_due_172 : decode cL_due 172 = .ok (.iaload, 1) := by decide +kernel
theorem dL_due_173 : decode cL_due 173 = .ok (.iadd, 1) := by decide +kernel
theorem dL_due_174 : decode cL_due 174 = .ok (.goto 22, 3) := by decide +kernel
theorem dL_due_177 : decode cL_due 177 = .ok (.iload_n 1, 1) := by decide +kernel
theorem dL_due_178 : decode cL_due 178 = .ok (.iconst 4, 1) := by decide +kernel
theorem dL_due_179 : decode cL_due 179 = .ok (.if_icmp .ne 10, 3) := by decide +kernel
theorem dL_due_182 : decode cL_due 182 = .ok (.aload 9, 2) := by decide +kernel
theorem dL_due_184 : decode cL_due 184 = .ok (.iload_n 3, 1) := by decide +kernel
theorem dL_due_185 : decode cL_due 185 = .ok (.iaload, 1) := by decide +kernel
theorem dL_due_186 : decode cL_due 186 = .ok (.goto 10, 3) := by decide +kernel
theorem dL_due_189 : decode cL_due 189 = .ok (.iload 4, 2) := by decide +kernel
theorem dL_due_191 : decode cL_due 191 = .ok (.aload 9, 2) := by decide +kernel
theorem dL_due_193 : decode cL_due 193 = .ok (.iload_n 3, 1) := by decide +kernel
theorem dL_due_194 : decode cL_due 194 = .ok (.iaload, 1) := by decide +kernel
theorem dL_due_195 : decode cL_due 195 = .ok (.imul, 1) := by decide +kernel
theorem dL_due_196 : decode cL_due 196 = .ok (.istore 12, 2) := by decide +kernel
theorem dL_due_198 : decode cL_due 198 = .ok (.iload 12, 2) := by decide +kernel
theorem dL_due_200 : decode cL_due 200 = .ok (.bipush 24, 2) := by decide +kernel
theorem dL_due_202 : decode cL_due 202 = .ok (.if_icmp .le 6, 3) := by decide +kernel
theorem dL_due_205 : decode cL_due 205 = .ok (.bipush (-4), 2) := by decide +kernel
theorem dL_due_207 : decode cL_due 207 = .ok (.ireturn, 1) := by decide +kernel
theorem dL_due_208 : decode cL_due 208 = .ok (.bipush 24, 2) := by decide +kernel
theorem dL_due_210 : decode cL_due 210 = .ok (.newarray .int, 2) := by decide +kernel
theorem dL_due_212 : decode cL_due 212 = .ok (.astore 13, 2) := by decide +kernel
theorem dL_due_214 : decode cL_due 214 = .ok (.iconst 0, 1) := by decide +kernel
theorem dL_due_215 : decode cL_due 215 = .ok (.istore 12, 2) := by decide +kernel
theorem dL_due_217 : decode cL_due 217 = .ok (.iload_n 1, 1) := by decide +kernel
theorem dL_due_218 : decode cL_due 218 = .ok (.iconst 4, 1) := by decide +kernel
theorem dL_due_219 : decode cL_due 219 = .ok (.if_icmp .ne 72, 3) := by decide +kernel
theorem dL_due_222 : decode cL_due 222 = .ok (.iconst 0, 1) := by decide +kernel
theorem dL_due_223 : decode cL_due 223 = .ok (.istore 14, 2) := by decide +kernel
theorem dL_due_225 : decode cL_due 225 = .ok (.iload 14, 2) := by decide +kernel
theorem dL_due_227 : decode cL_due 227 = .ok (.aload 9, 2) := by decide +kernel
theorem dL_due_229 : decode cL_due 229 = .ok (.iload_n 3, 1) := by decide +kernel
theorem dL_due_230 : decode cL_due 230 = .ok (.iaload, 1) := by decide +kernel
theorem dL_due_231 : decode cL_due 231 = .ok (.if_icmp .ge 51, 3) := by decide +kernel
theorem dL_due_234 : decode cL_due 234 = .ok (.iload_n 3, 1) := by decide +kernel
theorem dL_due_235 : decode cL_due 235 = .ok (.aload 9, 2) := by decide +kernel
theorem dL_due_237 : decode cL_due 237 = .ok (.iload_n 3, 1) := by decide +kernel
theorem dL_due_238 : decode cL_due 238 = .ok (.iaload, 1) := by decide +kernel
theorem dL_due_239 : decode cL_due 239 = .ok (.iconst 1, 1) := by decide +kernel
theorem dL_due_240 : decode cL_due 240 = .ok (.isub, 1) := by decide +kernel
theorem dL_due_241 : decode cL_due 241 = .ok (.iload 14, 2) := by decide +kernel
theorem dL_due_243 : decode cL_due 243 = .ok (.isub, 1) := by decide +kernel
theorem dL_due_244 : decode cL_due 244 = .ok (.aload 10, 2) := by decide +kernel
theorem dL_due_246 : decode cL_due 246 = .ok (.invokestatic 16, 3) := by decide +kernel
theorem dL_due_249 : decode cL_due 249 = .ok (.istore 15, 2) := by decide +kernel
theorem dL_due_251 : decode cL_due 251 = .ok (.aload 13, 2) := by decide +kernel
theorem dL_due_253 : decode cL_due 253 = .ok (.iload 14, 2) := by decide +kernel
theorem dL_due_255 : decode cL_due 255 = .ok (.iload 15, 2) := by decide +kernel
theorem dL_due_257 : decode cL_due 257 = .ok (.bipush 6, 2) := by decide +kernel
theorem dL_due_259 : decode cL_due 259 = .ok (.if_icmp .ge 11, 3) := by decide +kernel
theorem dL_due_262 : decode cL_due 262 = .ok (.iload 15, 2) := by decide +kernel
theorem dL_due_264 : decode cL_due 264 = .ok (.bipush 6, 2) := by decide +kernel
theorem dL_due_266 : decode cL_due 266 = .ok (.iadd, 1) := by decide +kernel
theorem dL_due_267 : decode cL_due 267 = .ok (.goto 8, 3) := by decide +kernel
theorem dL_due_270 : decode cL_due 270 = .ok (.iload 15, 2) := by decide +kernel
theorem dL_due_272 : decode cL_due 272 = .ok (.bipush 6, 2) := by decide +kernel
theorem dL_due_274 : decode cL_due 274 = .ok (.isub, 1) := by decide +kernel
theorem dL_due_275 : decode cL_due 275 = .ok (.iastore, 1) := by decide +kernel
theorem dL_due_276 : decode cL_due 276 = .ok (.iinc 14 1, 3) := by decide +kernel
theorem dL_due_279 : decode cL_due 279 = .ok (.goto (-54), 3) := by decide +kernel
theorem dL_due_282 : decode cL_due 282 = .ok (.aload 9, 2) := by decide +kernel
theorem dL_due_284 : decode cL_due 284 = .ok (.iload_n 3, 1) := by decide +kernel
theorem dL_due_285 : decode cL_due 285 = .ok (.iaload, 1) := by decide +kernel
theorem dL_due_286 : decode cL_due 286 = .ok (.istore 12, 2) := by decide +kernel
theorem dL_due_288 : decode cL_due 288 = .ok (.goto 58, 3) := by decide +kernel
theorem dL_due_291 : decode cL_due 291 = .ok (.iconst 0, 1) := by decide +kernel
theorem dL_due_292 : decode cL_due 292 = .ok (.istore 14, 2) := by decide +kernel
theorem dL_due_294 : decode cL_due 294 = .ok (.iload 14, 2) := by decide +kernel
theorem dL_due_296 : decode cL_due 296 = .ok (.iload_n 1, 1) := by decide +kernel
theorem dL_due_297 : decode cL_due 297 = .ok (.iconst 3, 1) := by decide +kernel
theorem dL_due_298 : decode cL_due 298 = .ok (.if_icmp .ne 7, 3) := by decide +kernel
theorem dL_due_301 : decode cL_due 301 = .ok (.iconst 2, 1) := by decide +kernel
theorem dL_due_302 : decode cL_due 302 = .ok (.goto 5, 3) := by decide +kernel
theorem dL_due_305 : decode cL_due 305 = .ok (.iload 4, 2) := by decide +kernel
theorem dL_due_307 : decode cL_due 307 = .ok (.if_icmp .ge 39, 3) := by decide +kernel
theorem dL_due_310 : decode cL_due 310 = .ok (.iload_n 1, 1) := by decide +kernel
theorem dL_due_311 : decode cL_due 311 = .ok (.iconst 3, 1) := by decide +kernel
theorem dL_due_312 : decode cL_due 312 = .ok (.if_icmp .ne 14, 3) := by decide +kernel
theorem dL_due_315 : decode cL_due 315 = .ok (.iload 14, 2) := by decide +kernel
theorem dL_due_317 : decode cL_due 317 = .ok (.iconst 1, 1) := by decide +kernel
theorem dL_due_318 : decode cL_due 318 = .ok (.if_icmp .ne 8, 3) := by decide +kernel
theorem dL_due_321 : decode cL_due 321 = .ok (.iload 4, 2) := by decide +kernel
theorem dL_due_323 : decode cL_due 323 = .ok (.goto 4, 3) := by decide +kernel
theorem dL_due_326 : decode cL_due 326 = .ok (.iload_n 3, 1) := by decide +kernel
theorem dL_due_327 : decode cL_due 327 = .ok (.iload 12, 2) := by decide +kernel
theorem dL_due_329 : decode cL_due 329 = .ok (.aload 9, 2) := by decide +kernel
theorem dL_due_331 : decode cL_due 331 = .ok (.aload 10, 2) := by decide +kernel
theorem dL_due_333 : decode cL_due 333 = .ok (.aload 13, 2) := by decide +kernel
theorem dL_due_335 : decode cL_due 335 = .ok (.invokestatic 109, 3) := by decide +kernel
theorem dL_due_338 : decode cL_due 338 = .ok (.istore 12, 2) := by decide +kernel
theorem dL_due_340 : decode cL_due 340 = .ok (.iinc 14 1, 3) := by decide +kernel
theorem dL_due_343 : decode cL_due 343 = .ok (.goto (-49), 3) := by decide +kernel
theorem dL_due_346 : decode cL_due 346 = .ok (.iload_n 2, 1) := by decide +kernel
theorem dL_due_347 : decode cL_due 347 = .ok (.aload 13, 2) := by decide +kernel
theorem dL_due_349 : decode cL_due 349 = .ok (.iload 12, 2) := by decide +kernel
theorem dL_due_351 : decode cL_due 351 = .ok (.aload 9, 2) := by decide +kernel
theorem dL_due_353 : decode cL_due 353 = .ok (.aload 10, 2) := by decide +kernel
theorem dL_due_355 : decode cL_due 355 = .ok (.invokestatic 93, 3) := by decide +kernel
theorem dL_due_358 : decode cL_due 358 = .ok (.iload 12, 2) := by decide +kernel
theorem dL_due_360 : decode cL_due 360 = .ok (.ireturn, 1) := by decide +kernel
set_option maxRecDepth 20000 in
theorem ggL_isDraft_L_lay : GoodIn wsL_isDraft wsL_lay := goodIn_r _ [6, 1, 7, 8, 5, 9, 10, 11, 12, 13, 14, 15] (by decide +kernel) (by decide +kernel)
set_option maxRecDepth 20000 in
theorem gL_isDraft_L_lay : GoodIn wsL_isDraft (va_wsS RL 97 yL_lay wsL_lay) := goodIn_app (goodIn_of _ (by decide +kernel)) ggL_isDraft_L_lay
set_option maxRecDepth 20000 in
theorem ggL_isDraft_L_home : GoodIn wsL_isDraft wsL_home := goodIn_r _ [18] (by decide +kernel) (by decide +kernel)
set_option maxRecDepth 20000 in
theorem gL_isDraft_L_home : GoodIn wsL_isDraft (va_wsS RL 105 yL_home wsL_home) := goodIn_app (goodIn_of _ (by decide +kernel)) ggL_isDraft_L_home
set_option maxRecDepth 20000 in
theorem ggL_isDraft_L_weaves : GoodIn wsL_isDraft wsL_weaves := goodIn_r _ [21, 1] (by decide +kernel) (by decide +kernel)
set_option maxRecDepth 20000 in
theorem gL_isDraft_L_weaves : GoodIn wsL_isDraft (va_wsS RL 101 yL_weaves wsL_weaves) := goodIn_app (goodIn_of _ (by decide +kernel)) ggL_isDraft_L_weaves
set_option maxRecDepth 20000 in
theorem ggL_isDraft_L_low : GoodIn wsL_isDraft wsL_low := goodIn_r _ [24, 25] (by decide +kernel) (by decide +kernel)
set_option maxRecDepth 20000 in
theorem gL_isDraft_L_low : GoodIn wsL_isDraft (va_wsS RL 54 yL_low wsL_low) := goodIn_app (goodIn_of _ (by decide +kernel)) ggL_isDraft_L_low
set_option maxRecDepth 20000 in
theorem ggL_isDraft_X7_draft : GoodIn wsL_isDraft wsX7_draft := goodIn_r _ [30, 31, 32, 33, 34, 35, 36, 37, 38, 39, 40, 29, 41, 42, 43, 44, 45, 46, 47, 48, 49, 50, 51, 52, 53, 54, 55, 56, 57, 58, 59, 60, 61, 62, 63, 64, 65, 66, 67, 68, 69, 70, 71, 72, 73, 74, 75, 76, 77, 78, 79, 80, 81, 82, 83, 84, 85, 86, 87, 88, 89, 90, 91, 92, 93, 94, 95, 96, 97, 98, 99, 100, 101, 102, 103, 104, 105, 106, 107, 108, 109, 110, 111, 112, 113, 114, 115, 116, 117, 118, 119, 120, 121, 122, 145, 146, 147, 148, 149, 150, 151, 152, 153, 154, 155, 156, 157, 158, 159] (by decide +kernel) (by decide +kernel)
set_option maxRecDepth 20000 in
theorem gL_isDraft_X7_draft : GoodIn wsL_isDraft (wsV RL 114 RX7 yX7_draft wsX7_draft) := goodIn_app (goodIn_of _ (by decide +kernel)) ggL_isDraft_X7_draft
set_option maxRecDepth 20000 in
theorem ggL_isDraft_X7_untilHome : GoodIn wsL_isDraft wsX7_untilHome := goodIn_r _ [126, 31, 127, 33, 128, 40, 29, 41, 42, 43, 44, 37, 45, 46, 47, 48, 35, 36, 38, 39, 49, 50, 51, 52, 53, 54, 55, 56, 57, 58, 59, 60, 61, 62, 63, 64, 65, 66, 67, 68, 69, 70, 71, 72, 73, 74, 75, 76, 77, 78, 79, 80, 81, 82, 83, 84, 85, 86, 87, 88, 89, 90, 91, 129, 145, 146, 147, 148, 149, 150, 153, 154, 155, 156, 157, 158, 159, 151, 152] (by decide +kernel) (by decide +kernel)
set_option maxRecDepth 20000 in
theorem gL_isDraft_X7_untilHome : GoodIn wsL_isDraft (wsV RL 117 RX7 yX7_untilHome wsX7_untilHome) := goodIn_app (goodIn_of _ (by decide +kernel)) ggL_isDraft_X7_untilHome
set_option maxRecDepth 20000 in
theorem ggL_isDraft_X7_comesTo : GoodIn wsL_isDraft wsX7_comesTo := goodIn_r _ [133, 134, 31, 128, 40, 29, 41, 42, 43, 44, 37, 45, 46, 47, 48, 35, 36, 38, 39, 49, 50, 51, 52, 53, 54, 55, 56, 57, 58, 59, 60, 61, 62, 63, 64, 65, 66, 67, 68, 69, 70, 71, 72, 73, 74, 75, 76, 77, 78, 79, 80, 81, 82, 83, 84, 85, 86, 87, 88, 89, 90, 91, 135, 136, 137, 138, 139, 145, 146, 147, 148, 149, 150, 151, 152, 153, 154, 155, 156, 157, 158, 159] (by decide +kernel) (by decide +kernel)
set_option maxRecDepth 20000 in
theorem gL_isDraft_X7_comesTo : GoodIn wsL_isDraft (wsV RL 120 RX7 yX7_comesTo wsX7_comesTo) := goodIn_app (goodIn_of _ (by decide +kernel)) ggL_isDraft_X7_comesTo
set_option maxRecDepth 20000 in
theorem ggL_isDraft_X7_press : GoodIn wsL_isDraft wsX7_press := goodIn_r _ [143, 31, 32, 34, 35, 36, 37, 38, 39, 40, 29, 41, 128, 144, 50, 51, 52, 53, 54, 145, 146, 147, 148, 149, 150, 151, 152, 153, 154, 155, 156, 157, 158, 159] (by decide +kernel) (by decide +kernel)
set_option maxRecDepth 20000 in
theorem gL_isDraft_X7_press : GoodIn wsL_isDraft (wsV RL 43 RX7 yX7_press wsX7_press) := goodIn_app (goodIn_of _ (by decide +kernel)) ggL_isDraft_X7_press
set_option maxRecDepth 20000 in
theorem ggL_isDraft_L_pressAt : GoodIn wsL_isDraft wsL_pressAt := goodIn_r _ [9] (by decide +kernel) (by decide +kernel)
set_option maxRecDepth 20000 in
theorem gL_isDraft_L_pressAt : GoodIn wsL_isDraft (va_wsS RL 16 yL_pressAt wsL_pressAt) := goodIn_app (goodIn_of _ (by decide +kernel)) ggL_isDraft_L_pressAt
theorem dL_isDraft_0 : decode cL_isDraft 0 = .ok (.bipush 12, 2) := by decide +kernel
theorem dL_isDraft_2 : decode cL_isDraft 2 = .ok (.newarray .int, 2) := by decide +kernel
theorem dL_isDraft_4 : decode cL_isDraft 4 = .ok (.astore 9, 2) := by decide +kernel
theorem dL_isDraft_6 : decode cL_isDraft 6 = .ok (.bipush 12, 2) := by decide +kernel
theorem dL_isDraft_8 : decode cL_isDraft 8 = .ok (.newarray .int, 2) := by decide +kernel
theorem dL_isDraft_10 : decode cL_isDraft 10 = .ok (.astore 10, 2) := by decide +kernel
theorem dL_isDraft_12 : decode cL_isDraft 12 = .ok (.iload_n 1, 1) := by decide +kernel
theorem dL_isDraft_13 : decode cL_isDraft 13 = .ok (.aload_n 3, 1) := by decide +kernel
theorem dL_isDraft_14 : decode cL_isDraft 14 = .ok (.aload 4, 2) := by decide +kernel
theorem dL_isDraft_16 : decode cL_isDraft 16 = .ok (.aload 7, 2) := by decide +kernel
theorem dL_isDraft_18 : decode cL_isDraft 18 = .ok (.aload 8, 2) := by decide +kernel
theorem dL_isDraft_20 : decode cL_isDraft 20 = .ok (.aload 9, 2) := by decide +kernel
theorem dL_isDraft_22 : decode cL_isDraft 22 = .ok (.invokestatic 97, 3) := by decide +kernel
theorem dL_isDraft_25 : decode cL_isDraft 25 = .ok (.iconst 0, 1) := by decide +kernel
theorem dL_isDraft_26 : decode cL_isDraft 26 = .ok (.istore 11, 2) := by decide +kernel
theorem dL_isDraft_28 : decode cL_isDraft 28 = .ok (.iconst 0, 1) := by decide +kernel
theorem dL_isDraft_29 : decode cL_isDraft 29 = .ok (.istore 12, 2) := by decide +kernel
theorem dL_isDraft_31 : decode cL_isDraft 31 = .ok (.iconst 0, 1) := by decide +kernel
theorem dL_isDraft_32 : decode cL_isDraft 32 = .ok (.istore 13, 2) := by decide +kernel
theorem dL_isDraft_34 : decode cL_isDraft 34 = .ok (.iload 13, 2) := by decide +kernel
theorem dL_isDraft_36 : decode cL_isDraft 36 = .ok (.bipush 12, 2) := by decide +kernel
theorem dL_isDraft_38 : decode cL_isDraft 38 = .ok (.if_icmp .ge 81, 3) := by decide +kernel
theorem dL_isDraft_41 : decode cL_isDraft 41 = .ok (.aload 10, 2) := by decide +kernel
theorem dL_isDraft_43 : decode cL_isDraft 43 = .ok (.iload 13, 2) := by decide +kernel
theorem dL_isDraft_45 : decode cL_isDraft 45 = .ok (.aload 5, 2) := by decide +kernel
theorem dL_isDraft_47 : decode cL_isDraft 47 = .ok (.iload 13, 2) := by decide +kernel
theorem dL_isDraft_49 : decode cL_isDraft 49 = .ok (.iaload, 1) := by decide +kernel
theorem dL_isDraft_50 : decode cL_isDraft 50 = .ok (.iastore, 1) := by decide +kernel
theorem dL_isDraft_51 : decode cL_isDraft 51 = .ok (.iload 11, 2) := by decide +kernel
theorem dL_isDraft_53 : decode cL_isDraft 53 = .ok (.aload 9, 2) := by decide +kernel
theorem dL_isDraft_55 : decode cL_isDraft 55 = .ok (.iload 13, 2) := by decide +kernel
theorem dL_isDraft_57 : decode cL_isDraft 57 = .ok (.iaload, 1) := by decide +kernel
theorem dL_isDraft_58 : decode cL_isDraft 58 = .ok (.iload 13, 2) := by decide +kernel
theorem dL_isDraft_60 : decode cL_isDraft 60 = .ok (.if_icmp .ne 10, 3) := by decide +kernel
theorem dL_isDraft_63 : decode cL_isDraft 63 = .ok (.iconst 1, 1) := by decide +kernel
theorem dL_isDraft_64 : decode cL_isDraft 64 = .ok (.iload 13, 2) := by decide +kernel
theorem dL_isDraft_66 : decode cL_isDraft 66 = .ok (.ishl, 1) := by decide +kernel
theorem dL_isDraft_67 : decode cL_isDraft 67 = .ok (.goto 4, 3) := by decide +kernel
theorem dL_isDraft_70 : decode cL_isDraft 70 = .ok (.iconst 0, 1) := by decide +kernel
theorem dL_isDraft_71 : decode cL_isDraft 71 = .ok (.ior, 1) := by decide +kernel
theorem dL_isDraft_72 : decode cL_isDraft 72 = .ok (.istore 11, 2) := by decide +kernel
theorem dL_isDraft_74 : decode cL_isDraft 74 = .ok (.iconst 0, 1) := by decide +kernel
theorem dL_isDraft_75 : decode cL_isDraft 75 = .ok (.istore 14, 2) := by decide +kernel
theorem dL_isDraft_77 : decode cL_isDraft 77 = .ok (.iload 14, 2) := by decide +kernel
theorem dL_isDraft_79 : decode cL_isDraft 79 = .ok (.iload 13, 2) := by decide +kernel
theorem dL_isDraft_81 : decode cL_isDraft 81 = .ok (.if_icmp .ge 32, 3) := by decide +kernel
theorem dL_isDraft_84 : decode cL_isDraft 84 = .ok (.iload 12, 2) := by decide +kernel
theorem dL_isDraft_86 : decode cL_isDraft 86 = .ok (.aload 9, 2) := by decide +kernel
theorem dL_isDraft_88 : decode cL_isDraft 88 = .ok (.iload 14, 2) := by decide +kernel
theorem dL_isDraft_90 : decode cL_isDraft 90 = .ok (.iaload, 1) := by decide +kernel
theorem dL_isDraft_91 : decode cL_isDraft 91 = .ok (.aload 9, 2) := by decide +kernel
theorem dL_isDraft_93 : decode cL_isDraft 93 = .ok (.iload 13, 2) := by decide +kernel
theorem dL_isDraft_95 : decode cL_isDraft 95 = .ok (.iaload, 1) := by decide +kernel
theorem dL_isDraft_96 : decode cL_isDraft 96 = .ok (.if_icmp .le 7, 3) := by decide +kernel
theorem dL_isDraft_99 : decode cL_isDraft 99 = .ok (.iconst 1, 1) := by decide +kernel
theorem dL_isDraft_100 : decode cL_isDraft 100 = .ok (.goto 4, 3) := by decide +kernel
theorem dL_isDraft_103 : decode cL_isDraft 103 = .ok (.iconst 0, 1) := by decide +kernel
theorem dL_isDraft_104 : decode cL_isDraft 104 = .ok (.iadd, 1) := by decide +kernel
theorem dL_isDraft_105 : decode cL_isDraft 105 = .ok (.istore 12, 2) := by decide +kernel
theorem dL_isDraft_107 : decode cL_isDraft 107 = .ok (.iinc 14 1, 3) := by decide +kernel
theorem dL_isDraft_110 : decode cL_isDraft 110 = .ok (.goto (-33), 3) := by decide +kernel
theorem dL_isDraft_113 : decode cL_isDraft 113 = .ok (.iinc 13 1, 3) := by decide +kernel
theorem dL_isDraft_116 : decode cL_isDraft 116 = .ok (.goto (-82), 3) := by decide +kernel
theorem dL_isDraft_119 : decode cL_isDraft 119 = .ok (.iconst 0, 1) := by decide +kernel
theorem dL_isDraft_120 : decode cL_isDraft 120 = .ok (.istore 13, 2) := by decide +kernel
theorem dL_isDraft_122 : decode cL_isDraft 122 = .ok (.iconst 0, 1) := by decide +kernel
theorem dL_isDraft_123 : decode cL_isDraft 123 = .ok (.istore 14, 2) := by decide +kernel
theorem dL_isDraft_125 : decode cL_isDraft 125 = .ok (.iconst 0, 1) := by decide +kernel
theorem dL_isDraft_126 : decode cL_isDraft 126 = .ok (.istore 15, 2) := by decide +kernel
theorem dL_isDraft_128 : decode cL_isDraft 128 = .ok (.iload 15, 2) := by decide +kernel
theorem dL_isDraft_130 : decode cL_isDraft 130 = .ok (.bipush 12, 2) := by decide +kernel
theorem dL_isDraft_132 : decode cL_isDraft 132 = .ok (.if_icmp .ge 104, 3) := by decide +kernel
theorem dL_isDraft_135 : decode cL_isDraft 135 = .ok (.iconst 1, 1) := by decide +kernel
theorem dL_isDraft_136 : decode cL_isDraft 136 = .ok (.istore 16, 2) := by decide +kernel
theorem dL_isDraft_138 : decode cL_isDraft 138 = .ok (.iconst 1, 1) := by decide +kernel
theorem dL_isDraft_139 : decode cL_isDraft 139 = .ok (.istore 17, 2) := by decide +kernel
theorem dL_isDraft_141 : decode cL_isDraft 141 = .ok (.aload 9, 2) := by decide +kernel
theorem dL_isDraft_143 : decode cL_isDraft 143 = .ok (.iload 15, 2) := by decide +kernel
theorem dL_isDraft_145 : decode cL_isDraft 145 = .ok (.iaload, 1) := by decide +kernel
theorem dL_isDraft_146 : decode cL_isDraft 146 = .ok (.istore 18, 2) := by decide +kernel
theorem dL_isDraft_148 : decode cL_isDraft 148 = .ok (.iload 18, 2) := by decide +kernel
theorem dL_isDraft_150 : decode cL_isDraft 150 = .ok (.iload 15, 2) := by decide +kernel
theorem dL_isDraft_152 : decode cL_isDraft 152 = .ok (.if_icmp .eq 35, 3) := by decide +kernel
theorem dL_isDraft_155 : decode cL_isDraft 155 = .ok (.iinc 16 1, 3) := by decide +kernel
theorem dL_isDraft_158 : decode cL_isDraft 158 = .ok (.iload 17, 2) := by decide +kernel
theorem dL_isDraft_160 : decode cL_isDraft 160 = .ok (.ifCond .eq 14, 3) := by decide +kernel
theorem dL_isDraft_163 : decode cL_isDraft 163 = .ok (.iload 18, 2) := by decide +kernel
theorem dL_isDraft_165 : decode cL_isDraft 165 = .ok (.iload 15, 2) := by decide +kernel
theorem dL_isDraft_167 : decode cL_isDraft 167 = .ok (.if_icmp .le 7, 3) := by decide +kernel
theorem dL_isDraft_170 : decode cL_isDraft 170 = .ok (.iconst 1, 1) := by decide +kernel
theorem dL_isDraft_171 : decode cL_isDraft 171 = .ok (.goto 4, 3) := by decide +kernel
theorem dL_isDraft_174 : decode cL_isDraft 174 = .ok (.iconst 0, 1) := by decide +kernel
theorem dL_isDraft_175 : decode cL_isDraft 175 = .ok (.istore 17, 2) := by decide +kernel
theorem dL_isDraft_177 : decode cL_isDraft 177 = .ok (.aload 9, 2) := by decide +kernel
theorem dL_isDraft_179 : decode cL_isDraft 179 = .ok (.iload 18, 2) := by decide +kernel
theorem dL_isDraft_181 : decode cL_isDraft 181 = .ok (.iaload, 1) := by decide +kernel
theorem dL_isDraft_182 : decode cL_isDraft 182 = .ok (.istore 18, 2) := by decide +kernel
theorem dL_isDraft_184 : decode cL_isDraft 184 = .ok (.goto (-36), 3) := by decide +kernel
theorem dL_isDraft_187 : decode cL_isDraft 187 = .ok (.iload 13, 2) := by decide +kernel
theorem dL_isDraft_189 : decode cL_isDraft 189 = .ok (.iload 17, 2) := by decide +kernel
theorem dL_isDraft_191 : decode cL_isDraft 191 = .ok (.ifCond .eq 13, 3) := by decide +kernel
theorem dL_isDraft_194 : decode cL_isDraft 194 = .ok (.iload 16, 2) := by decide +kernel
theorem dL_isDraft_196 : decode cL_isDraft 196 = .ok (.iconst 1, 1) := by decide +kernel
theorem dL_isDraft_197 : decode cL_isDraft 197 = .ok (.if_icmp .le 7, 3) := by decide +kernel
theorem dL_isDraft_200 : decode cL_isDraft 200 = .ok (.iconst 1, 1) := by decide +kernel
theorem dL_isDraft_201 : decode cL_isDraft 201 = .ok (.goto 4, 3) := by decide +kernel
theorem dL_isDraft_204 : decode cL_isDraft 204 = .ok (.iconst 0, 1) := by decide +kernel
theorem dL_isDraft_205 : decode cL_isDraft 205 = .ok (.iadd, 1) := by decide +kernel
theorem dL_isDraft_206 : decode cL_isDraft 206 = .ok (.istore 13, 2) := by decide +kernel
theorem dL_isDraft_208 : decode cL_isDraft 208 = .ok (.iload 16, 2) := by decide +kernel
theorem dL_isDraft_210 : decode cL_isDraft 210 = .ok (.iconst 1, 1) := by decide +kernel
theorem dL_isDraft_211 : decode cL_isDraft 211 = .ok (.if_icmp .le 15, 3) := by decide +kernel
theorem dL_isDraft_214 : decode cL_isDraft 214 = .ok (.iload 16, 2) := by decide +kernel
theorem dL_isDraft_216 : decode cL_isDraft 216 = .ok (.iload 14, 2) := by decide +kernel
theorem dL_isDraft_218 : decode cL_isDraft 218 = .ok (.if_icmp .le 8, 3) := by decide +kernel
theorem dL_isDraft_221 : decode cL_isDraft 221 = .ok (.iload 16, 2) := by decide +kernel
theorem dL_isDraft_223 : decode cL_isDraft 223 = .ok (.goto 5, 3) := by decide +kernel
theorem dL_isDraft_226 : decode cL_isDraft 226 = .ok (.iload 14, 2) := by decide +kernel
