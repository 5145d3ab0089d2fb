theorem dX8_homeNow_31 : decode cX8_homeNow 31 = .ok (.goto (-27), 3) := by decide +kernel
theorem dX8_homeNow_34 : decode cX8_homeNow 34 = .ok (.iload_n 1, 1) := by decide +kernel
theorem dX8_homeNow_35 : decode cX8_homeNow 35 = .ok (.ireturn, 1) := by decide +kernel
set_option maxRecDepth 20000 in
theorem ggX8_put_X8_isPlace : GoodIn wsX8_put wsX8_isPlace := goodIn_r _ [5, 6, 7, 4, 8] (by decide +kernel) (by decide +kernel)
set_option maxRecDepth 20000 in
theorem gX8_put_X8_isPlace : GoodIn wsX8_put (va_wsS RX8 89 yX8_isPlace wsX8_isPlace) := goodIn_app (goodIn_of _ (by decide +kernel)) ggX8_put_X8_isPlace
set_option maxRecDepth 20000 in
theorem ggX8_put_X8_within : GoodIn wsX8_put wsX8_within := goodIn_r _ [8] (by decide +kernel) (by decide +kernel)
set_option maxRecDepth 20000 in
theorem gX8_put_X8_within : GoodIn wsX8_put (va_wsS RX8 40 yX8_within wsX8_within) := goodIn_app (goodIn_of _ (by decide +kernel)) ggX8_put_X8_within
set_option maxRecDepth 20000 in
theorem ggX8_put_X8_record : GoodIn wsX8_put wsX8_record := goodIn_r _ [12, 13, 14, 1, 15, 16, 17, 18, 19, 20, 21, 22, 23, 24, 25, 26, 27, 28, 29] (by decide +kernel) (by decide +kernel)
set_option maxRecDepth 20000 in
theorem gX8_put_X8_record : GoodIn wsX8_put (wsV RX8 52 RX8 yX8_record wsX8_record) := goodIn_app (goodIn_of _ (by decide +kernel)) ggX8_put_X8_record
theorem dX8_put_0 : decode cX8_put 0 = .ok (.iload_n 1, 1) := by decide +kernel
theorem dX8_put_1 : decode cX8_put 1 = .ok (.invokestatic 89, 3) := by decide +kernel
theorem dX8_put_4 : decode cX8_put 4 = .ok (.ifCond .eq 12, 3) := by decide +kernel
theorem dX8_put_7 : decode cX8_put 7 = .ok (.iload_n 2, 1) := by decide +kernel
theorem dX8_put_8 : decode cX8_put 8 = .ok (.iconst 0, 1) := by decide +kernel
theorem dX8_put_9 : decode cX8_put 9 = .ok (.iconst 5, 1) := by decide +kernel
theorem dX8_put_10 : decode cX8_put 10 = .ok (.invokestatic 40, 3) := by decide +kernel
theorem dX8_put_13 : decode cX8_put 13 = .ok (.ifCond .ne 5, 3) := by decide +kernel
theorem dX8_put_16 : decode cX8_put 16 = .ok (.iconst (-1), 1) := by decide +kernel
theorem dX8_put_17 : decode cX8_put 17 = .ok (.ireturn, 1) := by decide +kernel
theorem dX8_put_18 : decode cX8_put 18 = .ok (.aload_n 0, 1) := by decide +kernel
theorem dX8_put_19 : decode cX8_put 19 = .ok (.invokevirtual 52, 3) := by decide +kernel
theorem dX8_put_22 : decode cX8_put 22 = .ok (.aload_n 0, 1) := by decide +kernel
theorem dX8_put_23 : decode cX8_put 23 = .ok (.getfield 7, 3) := by decide +kernel
theorem dX8_put_26 : decode cX8_put 26 = .ok (.iconst 0, 1) := by decide +kernel
theorem dX8_put_27 : decode cX8_put 27 = .ok (.iload_n 1, 1) := by decide +kernel
theorem dX8_put_28 : decode cX8_put 28 = .ok (.iadd, 1) := by decide +kernel
theorem dX8_put_29 : decode cX8_put 29 = .ok (.iaload, 1) := by decide +kernel
theorem dX8_put_30 : decode cX8_put 30 = .ok (.istore_n 3, 1) := by decide +kernel
theorem dX8_put_31 : decode cX8_put 31 = .ok (.aload_n 0, 1) := by decide +kernel
theorem dX8_put_32 : decode cX8_put 32 = .ok (.getfield 7, 3) := by decide +kernel
theorem dX8_put_35 : decode cX8_put 35 = .ok (.iconst 0, 1) := by decide +kernel
theorem dX8_put_36 : decode cX8_put 36 = .ok (.iload_n 1, 1) := by decide +kernel
theorem dX8_put_37 : decode cX8_put 37 = .ok (.iadd, 1) := by decide +kernel
theorem dX8_put_38 : decode cX8_put 38 = .ok (.iload_n 2, 1) := by decide +kernel
theorem dX8_put_39 : decode cX8_put 39 = .ok (.iastore, 1) := by decide +kernel
theorem dX8_put_40 : decode cX8_put 40 = .ok (.iload_n 3, 1) := by decide +kernel
theorem dX8_put_41 : decode cX8_put 41 = .ok (.ireturn, 1) := by decide +kernel
set_option maxRecDepth 20000 in
theorem ggX8_tie_X8_within : GoodIn wsX8_tie wsX8_within := goodIn_r _ [5] (by decide +kernel) (by decide +kernel)
set_option maxRecDepth 20000 in
theorem gX8_tie_X8_within : GoodIn wsX8_tie (va_wsS RX8 40 yX8_within wsX8_within) := goodIn_app (goodIn_of _ (by decide +kernel)) ggX8_tie_X8_within
set_option maxRecDepth 20000 in
theorem ggX8_tie_X8_record : GoodIn wsX8_tie wsX8_record := goodIn_r _ [9, 10, 11, 1, 19, 20, 21, 22, 23, 24, 25, 26, 27, 28, 29, 30, 31, 32, 33] (by decide +kernel) (by decide +kernel)
set_option maxRecDepth 20000 in
theorem gX8_tie_X8_record : GoodIn wsX8_tie (wsV RX8 52 RX8 yX8_record wsX8_record) := goodIn_app (goodIn_of _ (by decide +kernel)) ggX8_tie_X8_record
set_option maxRecDepth 20000 in
theorem ggX8_tie_X8_raised : GoodIn wsX8_tie wsX8_raised := goodIn_r _ [15, 1, 19, 20, 21, 22, 23, 24, 25, 26, 27, 28, 29, 30, 31, 32, 33] (by decide +kernel) (by decide +kernel)
set_option maxRecDepth 20000 in
theorem gX8_tie_X8_raised : GoodIn wsX8_tie (wsV RX8 55 RX8 yX8_raised wsX8_raised) := goodIn_app (goodIn_of _ (by decide +kernel)) ggX8_tie_X8_raised
set_option maxRecDepth 20000 in
theorem ggX8_tie_X8_ones : GoodIn wsX8_tie wsX8_ones := goodIn_r _ [18] (by decide +kernel) (by decide +kernel)
set_option maxRecDepth 20000 in
theorem gX8_tie_X8_ones : GoodIn wsX8_tie (va_wsS RX8 93 yX8_ones wsX8_ones) := goodIn_app (goodIn_of _ (by decide +kernel)) ggX8_tie_X8_ones
theorem dX8_tie_0 : decode cX8_tie 0 = .ok (.iload_n 1, 1) := by decide +kernel
theorem dX8_tie_1 : decode cX8_tie 1 = .ok (.iconst 0, 1) := by decide +kernel
theorem dX8_tie_2 : decode cX8_tie 2 = .ok (.iconst 5, 1) := by decide +kernel
theorem dX8_tie_3 : decode cX8_tie 3 = .ok (.invokestatic 40, 3) := by decide +kernel
theorem dX8_tie_6 : decode cX8_tie 6 = .ok (.ifCond .ne 5, 3) := by decide +kernel
theorem dX8_tie_9 : decode cX8_tie 9 = .ok (.iconst (-1), 1) := by decide +kernel
theorem dX8_tie_10 : decode cX8_tie 10 = .ok (.ireturn, 1) := by decide +kernel
theorem dX8_tie_11 : decode cX8_tie 11 = .ok (.iload_n 2, 1) := by decide +kernel
theorem dX8_tie_12 : decode cX8_tie 12 = .ok (.iconst 0, 1) := by decide +kernel
theorem dX8_tie_13 : decode cX8_tie 13 = .ok (.bipush 63, 2) := by decide +kernel
theorem dX8_tie_15 : decode cX8_tie 15 = .ok (.invokestatic 40, 3) := by decide +kernel
theorem dX8_tie_18 : decode cX8_tie 18 = .ok (.ifCond .ne 6, 3) := by decide +kernel
theorem dX8_tie_21 : decode cX8_tie 21 = .ok (.bipush (-2), 2) := by decide +kernel
theorem dX8_tie_23 : decode cX8_tie 23 = .ok (.ireturn, 1) := by decide +kernel
theorem dX8_tie_24 : decode cX8_tie 24 = .ok (.aload_n 0, 1) := by decide +kernel
theorem dX8_tie_25 : decode cX8_tie 25 = .ok (.invokevirtual 52, 3) := by decide +kernel
theorem dX8_tie_28 : decode cX8_tie 28 = .ok (.aload_n 0, 1) := by decide +kernel
theorem dX8_tie_29 : decode cX8_tie 29 = .ok (.getfield 7, 3) := by decide +kernel
theorem dX8_tie_32 : decode cX8_tie 32 = .ok (.bipush 12, 2) := by decide +kernel
theorem dX8_tie_34 : decode cX8_tie 34 = .ok (.iload_n 1, 1) := by decide +kernel
theorem dX8_tie_35 : decode cX8_tie 35 = .ok (.iadd, 1) := by decide +kernel
theorem dX8_tie_36 : decode cX8_tie 36 = .ok (.iload_n 2, 1) := by decide +kernel
theorem dX8_tie_37 : decode cX8_tie 37 = .ok (.iastore, 1) := by decide +kernel
theorem dX8_tie_38 : decode cX8_tie 38 = .ok (.aload_n 0, 1) := by decide +kernel
theorem dX8_tie_39 : decode cX8_tie 39 = .ok (.iload_n 1, 1) := by decide +kernel
theorem dX8_tie_40 : decode cX8_tie 40 = .ok (.invokevirtual 55, 3) := by decide +kernel
theorem dX8_tie_43 : decode cX8_tie 43 = .ok (.invokestatic 93, 3) := by decide +kernel
theorem dX8_tie_46 : decode cX8_tie 46 = .ok (.ireturn, 1) := by decide +kernel
set_option maxRecDepth 20000 in
theorem ggX8_make_X8_record : GoodIn wsX8_make wsX8_record := goodIn_r _ [8, 9, 10, 1, 11, 12, 13, 14, 15, 16, 17, 18, 19, 20, 21, 22, 23, 24, 25] (by decide +kernel) (by decide +kernel)
set_option maxRecDepth 20000 in
theorem gX8_make_X8_record : GoodIn wsX8_make (wsV RX8 52 RX8 yX8_record wsX8_record) := goodIn_app (goodIn_of _ (by decide +kernel)) ggX8_make_X8_record
theorem dX8_make_0 : decode cX8_make 0 = .ok (.aload_n 0, 1) := by decide +kernel
theorem dX8_make_1 : decode cX8_make 1 = .ok (.invokevirtual 52, 3) := by decide +kernel
theorem dX8_make_4 : decode cX8_make 4 = .ok (.aload_n 0, 1) := by decide +kernel
theorem dX8_make_5 : decode cX8_make 5 = .ok (.getfield 7, 3) := by decide +kernel
theorem dX8_make_8 : decode cX8_make 8 = .ok (.bipush 42, 2) := by decide +kernel
theorem dX8_make_10 : decode cX8_make 10 = .ok (.iload_n 1, 1) := by decide +kernel
theorem dX8_make_11 : decode cX8_make 11 = .ok (.iadd, 1) := by decide +kernel
theorem dX8_make_12 : decode cX8_make 12 = .ok (.aload_n 0, 1) := by decide +kernel
theorem dX8_make_13 : decode cX8_make 13 = .ok (.getfield 96, 3) := by decide +kernel
theorem dX8_make_16 : decode cX8_make 16 = .ok (.iastore, 1) := by decide +kernel
theorem dX8_make_17 : decode cX8_make 17 = .ok (.iconst 0, 1) := by decide +kernel
theorem dX8_make_18 : decode cX8_make 18 = .ok (.istore_n 2, 1) := by decide +kernel
theorem dX8_make_19 : decode cX8_make 19 = .ok (.iload_n 2, 1) := by decide +kernel
theorem dX8_make_20 : decode cX8_make 20 = .ok (.bipush 24, 2) := by decide +kernel
theorem dX8_make_22 : decode cX8_make 22 = .ok (.if_icmp .ge 41, 3) := by decide +kernel
theorem dX8_make_25 : decode cX8_make 25 = .ok (.aload_n 0, 1) := by decide +kernel
theorem dX8_make_26 : decode cX8_make 26 = .ok (.getfield 7, 3) := by decide +kernel
theorem dX8_make_29 : decode cX8_make 29 = .ok (.bipush 48, 2) := by decide +kernel
theorem dX8_make_31 : decode cX8_make 31 = .ok (.bipush 24, 2) := by decide +kernel
theorem dX8_make_33 : decode cX8_make 33 = .ok (.iload_n 1, 1) := by decide +kernel
theorem dX8_make_34 : decode cX8_make 34 = .ok (.imul, 1) := by decide +kernel
theorem dX8_make_35 : decode cX8_make 35 = .ok (.iadd, 1) := by decide +kernel
theorem dX8_make_36 : decode cX8_make 36 = .ok (.iload_n 2, 1) := by decide +kernel
theorem dX8_make_37 : decode cX8_make 37 = .ok (.iadd, 1) := by decide +kernel
theorem dX8_make_38 : decode cX8_make 38 = .ok (.iload_n 2, 1) := by decide +kernel
theorem dX8_make_39 : decode cX8_make 39 = .ok (.aload_n 0, 1) := by decide +kernel
theorem dX8_make_40 : decode cX8_make 40 = .ok (.getfield 96, 3) := by decide +kernel
theorem dX8_make_43 : decode cX8_make 43 = .ok (.if_icmp .ge 12, 3) := by decide +kernel
theorem dX8_make_46 : decode cX8_make 46 = .ok (.aload_n 0, 1) := by decide +kernel
theorem dX8_make_47 : decode cX8_make 47 = .ok (.getfield 25, 3) := by decide +kernel
theorem dX8_make_50 : decode cX8_make 50 = .ok (.iload_n 2, 1) := by decide +kernel
theorem dX8_make_51 : decode cX8_make 51 = .ok (.iaload, 1) := by decide +kernel
theorem dX8_make_52 : decode cX8_make 52 = .ok (.goto 4, 3) := by decide +kernel
theorem dX8_make_55 : decode cX8_make 55 = .ok (.iconst 0, 1) := by decide +kernel
theorem dX8_make_56 : decode cX8_make 56 = .ok (.iastore, 1) := by decide +kernel
theorem dX8_make_57 : decode cX8_make 57 = .ok (.iinc 2 1, 3) := by decide +kernel
theorem dX8_make_60 : decode cX8_make 60 = .ok (.goto (-41), 3) := by decide +kernel
theorem dX8_make_63 : decode cX8_make 63 = .ok (.aload_n 0, 1) := by decide +kernel
theorem dX8_make_64 : decode cX8_make 64 = .ok (.getfield 96, 3) := by decide +kernel
theorem dX8_make_67 : decode cX8_make 67 = .ok (.ireturn, 1) := by decide +kernel
set_option maxRecDepth 20000 in
theorem ggX8_addRow_X8_lengthOf : GoodIn wsX8_addRow wsX8_lengthOf := goodIn_r _ [7, 8, 13, 14, 15, 16, 17, 18, 19, 20, 21, 22, 23, 24, 25, 26, 27] (by decide +kernel) (by decide +kernel)
set_option maxRecDepth 20000 in
theorem gX8_addRow_X8_lengthOf : GoodIn wsX8_addRow (wsV RX8 59 RX8 yX8_lengthOf wsX8_lengthOf) := goodIn_app (goodIn_of _ (by decide +kernel)) ggX8_addRow_X8_lengthOf
set_option maxRecDepth 20000 in
theorem ggX8_addRow_X8_pressOf : GoodIn wsX8_addRow wsX8_pressOf := goodIn_r _ [12, 8, 13, 14, 15, 16, 17, 18, 19, 20, 21, 22, 23, 24, 25, 26, 27] (by decide +kernel) (by decide +kernel)
set_option maxRecDepth 20000 in
theorem gX8_addRow_X8_pressOf : GoodIn wsX8_addRow (wsV RX8 62 RX8 yX8_pressOf wsX8_pressOf) := goodIn_app (goodIn_of _ (by decide +kernel)) ggX8_addRow_X8_pressOf
theorem dX8_addRow_0 : decode cX8_addRow 0 = .ok (.iconst 0, 1) := by decide +kernel
theorem dX8_addRow_1 : decode cX8_addRow 1 = .ok (.istore_n 2, 1) := by decide +kernel
theorem dX8_addRow_2 : decode cX8_addRow 2 = .ok (.iload_n 2, 1) := by decide +kernel
theorem dX8_addRow_3 : decode cX8_addRow 3 = .ok (.aload_n 0, 1) := by decide +kernel
theorem dX8_addRow_4 : decode cX8_addRow 4 = .ok (.iload_n 1, 1) := by decide +kernel
theorem dX8_addRow_5 : decode cX8_addRow 5 = .ok (.invokevirtual 59, 3) := by decide +kernel
theorem dX8_addRow_8 : decode cX8_addRow 8 = .ok (.if_icmp .ge 34, 3) := by decide +kernel
theorem dX8_addRow_11 : decode cX8_addRow 11 = .ok (.aload_n 0, 1) := by decide +kernel
theorem dX8_addRow_12 : decode cX8_addRow 12 = .ok (.getfield 25, 3) := by decide +kernel
theorem dX8_addRow_15 : decode cX8_addRow 15 = .ok (.aload_n 0, 1) := by decide +kernel
theorem dX8_addRow_16 : decode cX8_addRow 16 = .ok (.getfield 96, 3) := by decide +kernel
theorem dX8_addRow_19 : decode cX8_addRow 19 = .ok (.aload_n 0, 1) := by decide +kernel
theorem dX8_addRow_20 : decode cX8_addRow 20 = .ok (.iload_n 1, 1) := by decide +kernel
theorem dX8_addRow_21 : decode cX8_addRow 21 = .ok (.iload_n 2, 1) := by decide +kernel
theorem dX8_addRow_22 : decode cX8_addRow 22 = .ok (.invokevirtual 62, 3) := by decide +kernel
theorem dX8_addRow_25 : decode cX8_addRow 25 = .ok (.iastore, 1) := by decide +kernel
theorem dX8_addRow_26 : decode cX8_addRow 26 = .ok (.aload_n 0, 1) := by decide +kernel
theorem dX8_addRow_27 : decode cX8_addRow 27 = .ok (.dup, 1) := by decide +kernel
theorem dX8_addRow_28 : decode cX8_addRow 28 = .ok (.getfield 96, 3) := by decide +kernel
theorem dX8_addRow_31 : decode cX8_addRow 31 = .ok (.iconst 1, 1) := by decide +kernel
theorem dX8_addRow_32 : decode cX8_addRow 32 = .ok (.iadd, 1) := by decide +kernel
theorem dX8_addRow_33 : decode cX8_addRow 33 = .ok (.putfield 96, 3) := by decide +kernel
theorem dX8_addRow_36 : decode cX8_addRow 36 = .ok (.iinc 2 1, 3) := by decide +kernel
theorem dX8_addRow_39 : decode cX8_addRow 39 = .ok (.goto (-37), 3) := by decide +kernel
theorem dX8_addRow_42 : decode cX8_addRow 42 = .ok (.return_, 1) := by decide +kernel
set_option maxRecDepth 20000 in
theorem ggX8_read_X8_isDraft : GoodIn wsX8_read wsX8_isDraft := goodIn_r _ [5, 6, 7, 4, 8] (by decide +kernel) (by decide +kernel)
set_option maxRecDepth 20000 in
theorem gX8_read_X8_isDraft : GoodIn wsX8_read (va_wsS RX8 99 yX8_isDraft wsX8_isDraft) := goodIn_app (goodIn_of _ (by decide +kernel)) ggX8_read_X8_isDraft
set_option maxRecDepth 20000 in
theorem ggX8_read_X8_findFault : GoodIn wsX8_read wsX8_findFault := goodIn_r _ [12, 13, 14, 1, 15, 16, 17, 4, 18, 19, 20, 21, 22, 23, 24, 6, 7, 8, 36, 37, 38, 39, 40, 41, 42, 43, 44, 45, 46, 47, 48, 49, 50] (by decide +kernel) (by decide +kernel)
set_option maxRecDepth 20000 in
theorem gX8_read_X8_findFault : GoodIn wsX8_read (wsV RX8 102 RX8 yX8_findFault wsX8_findFault) := goodIn_app (goodIn_of _ (by decide +kernel)) ggX8_read_X8_findFault
set_option maxRecDepth 20000 in
theorem ggX8_read_X8_make : GoodIn wsX8_read wsX8_make := goodIn_r _ [28, 29, 14, 19, 30, 31, 32, 4, 33, 34, 35, 36, 37, 38, 39, 40, 41, 42, 43, 44, 45, 46, 47, 48, 49, 50] (by decide +kernel) (by decide +kernel)
set_option maxRecDepth 20000 in
theorem gX8_read_X8_make : GoodIn wsX8_read (wsV RX8 108 RX8 yX8_make wsX8_make) := goodIn_app (goodIn_of _ (by decide +kernel)) ggX8_read_X8_make
theorem dX8_read_0 : decode cX8_read 0 = .ok (.iload_n 1, 1) := by decide +kernel
theorem dX8_read_1 : decode cX8_read 1 = .ok (.invokestatic 99, 3) := by decide +kernel
theorem dX8_read_4 : decode cX8_read 4 = .ok (.ifCond .ne 5, 3) := by decide +kernel
theorem dX8_read_7 : decode cX8_read 7 = .ok (.iconst (-1), 1) := by decide +kernel
theorem dX8_read_8 : decode cX8_read 8 = .ok (.ireturn, 1) := by decide +kernel
theorem dX8_read_9 : decode cX8_read 9 = .ok (.aload_n 0, 1) := by decide +kernel
theorem dX8_read_10 : decode cX8_read 10 = .ok (.invokevirtual 102, 3) := by decide +kernel
theorem dX8_read_13 : decode cX8_read 13 = .ok (.bipush (-6), 2) := by decide +kernel
theorem dX8_read_15 : decode cX8_read 15 = .ok (.if_icmp .eq 6, 3) := by decide +kernel
theorem dX8_read_18 : decode cX8_read 18 = .ok (.bipush (-3), 2) := by decide +kernel
theorem dX8_read_20 : decode cX8_read 20 = .ok (.ireturn, 1) := by decide +kernel
theorem dX8_read_21 : decode cX8_read 21 = .ok (.aload_n 0, 1) := by decide +kernel
theorem dX8_read_22 : decode cX8_read 22 = .ok (.iconst 0, 1) := by decide +kernel
theorem dX8_read_23 : decode cX8_read 23 = .ok (.putfield 105, 3) := by decide +kernel
theorem dX8_read_26 : decode cX8_read 26 = .ok (.aload_n 0, 1) := by decide +kernel
theorem dX8_read_27 : decode cX8_read 27 = .ok (.iload_n 1, 1) := by decide +kernel
theorem dX8_read_28 : decode cX8_read 28 = .ok (.invokevirtual 108, 3) := by decide +kernel
theorem dX8_read_31 : decode cX8_read 31 = .ok (.ireturn, 1) := by decide +kernel
set_option maxRecDepth 20000 in
theorem ggX8_compose_X8_isDraft : GoodIn wsX8_compose wsX8_isDraft := goodIn_r _ [5, 6, 7, 4, 8] (by decide +kernel) (by decide +kernel)
set_option maxRecDepth 20000 in
theorem gX8_compose_X8_isDraft : GoodIn wsX8_compose (va_wsS RX8 99 yX8_isDraft wsX8_isDraft) := goodIn_app (goodIn_of _ (by decide +kernel)) ggX8_compose_X8_isDraft
set_option maxRecDepth 20000 in
theorem ggX8_compose_X8_lengthOf : GoodIn wsX8_compose wsX8_lengthOf := goodIn_r _ [12, 13, 33, 34, 35, 36, 37, 38, 39, 40, 41, 42, 43, 44, 45, 46, 47] (by decide +kernel) (by decide +kernel)
set_option maxRecDepth 20000 in
theorem gX8_compose_X8_lengthOf : GoodIn wsX8_compose (wsV RX8 59 RX8 yX8_lengthOf wsX8_lengthOf) := goodIn_app (goodIn_of _ (by decide +kernel)) ggX8_compose_X8_lengthOf
set_option maxRecDepth 20000 in
theorem ggX8_compose_X8_addRow : GoodIn wsX8_compose wsX8_addRow := goodIn_r _ [17, 18, 1, 9, 10, 11, 4, 12, 13, 19, 20, 21, 22, 33, 34, 35, 36, 37, 38, 39, 40, 41, 42, 43, 44, 45, 46, 47] (by decide +kernel) (by decide +kernel)
set_option maxRecDepth 20000 in
theorem gX8_compose_X8_addRow : GoodIn wsX8_compose (wsV RX8 111 RX8 yX8_addRow wsX8_addRow) := goodIn_app (goodIn_of _ (by decide +kernel)) ggX8_compose_X8_addRow
set_option maxRecDepth 20000 in
theorem ggX8_compose_X8_make : GoodIn wsX8_compose wsX8_make := goodIn_r _ [26, 13, 1, 18, 27, 28, 29, 4, 30, 31, 32, 33, 34, 35, 36, 37, 38, 39, 40, 41, 42, 43, 44, 45, 46, 47] (by decide +kernel) (by decide +kernel)
set_option maxRecDepth 20000 in
theorem gX8_compose_X8_make : GoodIn wsX8_compose (wsV RX8 108 RX8 yX8_make wsX8_make) := goodIn_app (goodIn_of _ (by decide +kernel)) ggX8_compose_X8_make
theorem dX8_compose_0 : decode cX8_compose 0 = .ok (.iload_n 1, 1) := by decide +kernel
theorem dX8_compose_1 : decode cX8_compose 1 = .ok (.invokestatic 99, 3) := by decide +kernel
theorem dX8_compose_4 : decode cX8_compose 4 = .ok (.ifCond .eq 17, 3) := by decide +kernel
theorem dX8_compose_7 : decode cX8_compose 7 = .ok (.iload_n 2, 1) := by decide +kernel
theorem dX8_compose_8 : decode cX8_compose 8 = .ok (.invokestatic 99, 3) := by decide +kernel
theorem dX8_compose_11 : decode cX8_compose 11 = .ok (.ifCond .eq 10, 3) := by decide +kernel
theorem dX8_compose_14 : decode cX8_compose 14 = .ok (.iload_n 3, 1) := by decide +kernel
theorem dX8_compose_15 : decode cX8_compose 15 = .ok (.invokestatic 99, 3) := by decide +kernel
theorem dX8_compose_18 : decode cX8_compose 18 = .ok (.ifCond .ne 5, 3) := by decide +kernel
theorem dX8_compose_21 : decode cX8_compose 21 = .ok (.iconst (-1), 1) := by decide +kernel
theorem dX8_compose_22 : decode cX8_compose 22 = .ok (.ireturn, 1) := by decide +kernel
theorem dX8_compose_23 : decode cX8_compose 23 = .ok (.aload_n 0, 1) := by decide +kernel
theorem dX8_compose_24 : decode cX8_compose 24 = .ok (.iload_n 2, 1) := by decide +kernel
theorem dX8_compose_25 : decode cX8_compose 25 = .ok (.invokevirtual 59, 3) := by decide +kernel
theorem dX8_compose_28 : decode cX8_compose 28 = .ok (.aload_n 0, 1) := by decide +kernel
theorem dX8_compose_29 : decode cX8_compose 29 = .ok (.iload_n 3, 1) := by decide +kernel
theorem dX8_compose_30 : decode cX8_compose 30 = .ok (.invokevirtual 59, 3) := by decide +kernel
theorem dX8_compose_33 : decode cX8_compose 33 = .ok (.iadd, 1) := by decide +kernel
theorem dX8_compose_34 : decode cX8_compose 34 = .ok (.bipush 24, 2) := by decide +kernel
theorem dX8_compose_36 : decode cX8_compose 36 = .ok (.if_icmp .le 6, 3) := by decide +kernel
theorem dX8_compose_39 : decode cX8_compose 39 = .ok (.bipush (-4), 2) := by decide +kernel
theorem dX8_compose_41 : decode cX8_compose 41 = .ok (.ireturn, 1) := by decide +kernel
theorem dX8_compose_42 : decode cX8_compose 42 = .ok (.aload_n 0, 1) := by decide +kernel
theorem dX8_compose_43 : decode cX8_compose 43 = .ok (.iconst 0, 1) := by decide +kernel
theorem dX8_compose_44 : decode cX8_compose 44 = .ok (.putfield 96, 3) := by decide +kernel
theorem dX8_compose_47 : decode cX8_compose 47 = .ok (.aload_n 0, 1) := by decide +kernel
theorem dX8_compose_48 : decode cX8_compose 48 = .ok (.iload_n 2, 1) := by decide +kernel
theorem dX8_compose_49 : decode cX8_compose 49 = .ok (.invokevirtual 111, 3) := by decide +kernel
theorem dX8_compose_52 : decode cX8_compose 52 = .ok (.aload_n 0, 1) := by decide +kernel
theorem dX8_compose_53 : decode cX8_compose 53 = .ok (.iload_n 3, 1) := by decide +kernel
theorem dX8_compose_54 : decode cX8_compose 54 = .ok (.invokevirtual 111, 3) := by decide +kernel
theorem dX8_compose_57 : decode cX8_compose 57 = .ok (.aload_n 0, 1) := by decide +kernel
theorem dX8_compose_58 : decode cX8_compose 58 = .ok (.iload_n 1, 1) := by decide +kernel
theorem dX8_compose_59 : decode cX8_compose 59 = .ok (.invokevirtual 108, 3) := by decide +kernel
theorem dX8_compose_62 : decode cX8_compose 62 = .ok (.ireturn, 1) := by decide +kernel
set_option maxRecDepth 20000 in
theorem ggX8_turnRound_X8_isDraft : GoodIn wsX8_turnRound wsX8_isDraft := goodIn_r _ [6, 7, 8, 5, 9] (by decide +kernel) (by decide +kernel)
set_option maxRecDepth 20000 in
theorem gX8_turnRound_X8_isDraft : GoodIn wsX8_turnRound (va_wsS RX8 99 yX8_isDraft wsX8_isDraft) := goodIn_app (goodIn_of _ (by decide +kernel)) ggX8_turnRound_X8_isDraft
set_option maxRecDepth 20000 in
theorem ggX8_turnRound_X8_lengthOf : GoodIn wsX8_turnRound wsX8_lengthOf := goodIn_r _ [13, 14, 29, 30, 31, 32, 33, 34, 35, 36, 37, 38, 39, 40, 41, 42, 43] (by decide +kernel) (by decide +kernel)
set_option maxRecDepth 20000 in
theorem gX8_turnRound_X8_lengthOf : GoodIn wsX8_turnRound (wsV RX8 59 RX8 yX8_lengthOf wsX8_lengthOf) := goodIn_app (goodIn_of _ (by decide +kernel)) ggX8_turnRound_X8_lengthOf
set_option maxRecDepth 20000 in
theorem ggX8_turnRound_X8_pressOf : GoodIn wsX8_turnRound wsX8_pressOf := goodIn_r _ [18, 14, 29, 30, 31, 32, 33, 34, 35, 36, 37, 38, 39, 40, 41, 42, 43] (by decide +kernel) (by decide +kernel)
set_option maxRecDepth 20000 in
theorem gX8_turnRound_X8_pressOf : GoodIn wsX8_turnRound (wsV RX8 62 RX8 yX8_pressOf wsX8_pressOf) := goodIn_app (goodIn_of _ (by decide +kernel)) ggX8_turnRound_X8_pressOf
set_option maxRecDepth 20000 in
theorem ggX8_turnRound_X8_make : GoodIn wsX8_turnRound wsX8_make := goodIn_r _ [22, 14, 1, 2, 23, 24, 25, 5, 26, 27, 28, 29, 30, 31, 32, 33, 34, 35, 36, 37, 38, 39, 40, 41, 42, 43] (by decide +kernel) (by decide +kernel)
set_option maxRecDepth 20000 in
theorem gX8_turnRound_X8_make : GoodIn wsX8_turnRound (wsV RX8 108 RX8 yX8_make wsX8_make) := goodIn_app (goodIn_of _ (by decide +kernel)) ggX8_turnRound_X8_make
theorem dX8_turnRound_0 : decode cX8_turnRound 0 = .ok (.iload_n 1, 1) := by decide +kernel
theorem dX8_turnRound_1 : decode cX8_turnRound 1 = .ok (.invokestatic 99, 3) := by decide +kernel
theorem dX8_turnRound_4 : decode cX8_turnRound 4 = .ok (.ifCond .eq 10, 3) := by decide +kernel
theorem dX8_turnRound_7 : decode cX8_turnRound 7 = .ok (.iload_n 2, 1) := by decide +kernel
theorem dX8_turnRound_8 : decode cX8_turnRound 8 = .ok (.invokestatic 99, 3) := by decide +kernel
theorem dX8_turnRound_11 : decode cX8_turnRound 11 = .ok (.ifCond .ne 5, 3) := by decide +kernel
theorem dX8_turnRound_14 : decode cX8_turnRound 14 = .ok (.iconst (-1), 1) := by decide +kernel
theorem dX8_turnRound_15 : decode cX8_turnRound 15 = .ok (.ireturn, 1) := by decide +kernel
theorem dX8_turnRound_16 : decode cX8_turnRound 16 = .ok (.aload_n 0, 1) := by decide +kernel
theorem dX8_turnRound_17 : decode cX8_turnRound 17 = .ok (.iconst 0, 1) := by decide +kernel
theorem dX8_turnRound_18 : decode cX8_turnRound 18 = .ok (.putfield 96, 3) := by decide +kernel
theorem dX8_turnRound_21 : decode cX8_turnRound 21 = .ok (.aload_n 0, 1) := by decide +kernel
theorem dX8_turnRound_22 : decode cX8_turnRound 22 = .ok (.iload_n 2, 1) := by decide +kernel
theorem dX8_turnRound_23 : decode cX8_turnRound 23 = .ok (.invokevirtual 59, 3) := by decide +kernel
theorem dX8_turnRound_26 : decode cX8_turnRound 26 = .ok (.iconst 1, 1) := by decide +kernel
theorem dX8_turnRound_27 : decode cX8_turnRound 27 = .ok (.isub, 1) := by decide +kernel
theorem dX8_turnRound_28 : decode cX8_turnRound 28 = .ok (.istore_n 3, 1) := by decide +kernel
theorem dX8_turnRound_29 : decode cX8_turnRound 29 = .ok (.iload_n 3, 1) := by decide +kernel
theorem dX8_turnRound_30 : decode cX8_turnRound 30 = .ok (.ifCond .lt 40, 3) := by decide +kernel
theorem dX8_turnRound_33 : decode cX8_turnRound 33 = .ok (.aload_n 0, 1) := by decide +kernel
theorem dX8_turnRound_34 : decode cX8_turnRound 34 = .ok (.getfield 25, 3) := by decide +kernel
theorem dX8_turnRound_37 : decode cX8_turnRound 37 = .ok (.aload_n 0, 1) := by decide +kernel
theorem dX8_turnRound_38 : decode cX8_turnRound 38 = .ok (.getfield 96, 3) := by decide +kernel
theorem dX8_turnRound_41 : decode cX8_turnRound 41 = .ok (.aload_n 0, 1) := by decide +kernel
theorem dX8_turnRound_42 : decode cX8_turnRound 42 = .ok (.iload_n 2, 1) := by decide +kernel
theorem dX8_turnRound_43 : decode cX8_turnRound 43 = .ok (.iload_n 3, 1) := by decide +kernel
theorem dX8_turnRound_44 : decode cX8_turnRound 44 = .ok (.invokevirtual 62, 3) := by decide +kernel
theorem dX8_turnRound_47 : decode cX8_turnRound 47 = .ok (.bipush 6, 2) := by decide +kernel
theorem dX8_turnRound_49 : decode cX8_turnRound 49 = .ok (.iadd, 1) := by decide +kernel
theorem dX8_turnRound_50 : decode cX8_turnRound 50 = .ok (.bipush 12, 2) := by decide +kernel
theorem dX8_turnRound_52 : decode cX8_turnRound 52 = .ok (.irem, 1) := by decide +kernel
theorem dX8_turnRound_53 : decode cX8_turnRound 53 = .ok (.iastore, 1) := by decide +kernel
theorem dX8_turnRound_54 : decode cX8_turnRound 54 = .ok (.aload_n 0, 1) := by decide +kernel
theorem dX8_turnRound_55 : decode cX8_turnRound 55 = .ok (.dup, 1) := by decide +kernel
theorem dX8_turnRound_56 : decode cX8_turnRound 56 = .ok (.getfield 96, 3) := by decide +kernel
theorem dX8_turnRound_59 : decode cX8_turnRound 59 = .ok (.iconst 1, 1) := by decide +kernel
theorem dX8_turnRound_60 : decode cX8_turnRound 60 = .ok (.iadd, 1) := by decide +kernel
theorem dX8_turnRound_61 : decode cX8_turnRound 61 = .ok (.putfield 96, 3) := by decide +kernel
theorem dX8_turnRound_64 : decode cX8_turnRound 64 = .ok (.iinc 3 (-1), 3) := by decide +kernel
theorem dX8_turnRound_67 : decode cX8_turnRound 67 = .ok (.goto (-38), 3) := by decide +kernel
theorem dX8_turnRound_70 : decode cX8_turnRound 70 = .ok (.aload_n 0, 1) := by decide +kernel
theorem dX8_turnRound_71 : decode cX8_turnRound 71 = .ok (.iload_n 1, 1) := by decide +kernel
theorem dX8_turnRound_72 : decode cX8_turnRound 72 = .ok (.invokevirtual 108, 3) := by decide +kernel
theorem dX8_turnRound_75 : decode cX8_turnRound 75 = .ok (.ireturn, 1) := by decide +kernel
set_option maxRecDepth 20000 in
theorem ggX8_repeat_X8_isDraft : GoodIn wsX8_repeat wsX8_isDraft := goodIn_r _ [5, 6, 7, 4, 8] (by decide +kernel) (by decide +kernel)
set_option maxRecDepth 20000 in
theorem gX8_repeat_X8_isDraft : GoodIn wsX8_repeat (va_wsS RX8 99 yX8_isDraft wsX8_isDraft) := goodIn_app (goodIn_of _ (by decide +kernel)) ggX8_repeat_X8_isDraft
set_option maxRecDepth 20000 in
theorem ggX8_repeat_X8_within : GoodIn wsX8_repeat wsX8_within := goodIn_r _ [8] (by decide +kernel) (by decide +kernel)
set_option maxRecDepth 20000 in
theorem gX8_repeat_X8_within : GoodIn wsX8_repeat (va_wsS RX8 40 yX8_within wsX8_within) := goodIn_app (goodIn_of _ (by decide +kernel)) ggX8_repeat_X8_within
set_option maxRecDepth 20000 in
theorem ggX8_repeat_X8_lengthOf : GoodIn wsX8_repeat wsX8_lengthOf := goodIn_r _ [12, 13, 33, 34, 35, 36, 37, 38, 39, 40, 41, 42, 43, 44, 45, 46, 47] (by decide +kernel) (by decide +kernel)
set_option maxRecDepth 20000 in
theorem gX8_repeat_X8_lengthOf : GoodIn wsX8_repeat (wsV RX8 59 RX8 yX8_lengthOf wsX8_lengthOf) := goodIn_app (goodIn_of _ (by decide +kernel)) ggX8_repeat_X8_lengthOf
set_option maxRecDepth 20000 in
theorem ggX8_repeat_X8_addRow : GoodIn wsX8_repeat wsX8_addRow := goodIn_r _ [17, 18, 1, 9, 10, 11, 4, 12, 13, 19, 20, 21, 22, 33, 34, 35, 36, 37, 38, 39, 40, 41, 42, 43, 44, 45, 46, 47] (by decide +kernel) (by decide +kernel)
set_option maxRecDepth 20000 in
theorem gX8_repeat_X8_addRow : GoodIn wsX8_repeat (wsV RX8 111 RX8 yX8_addRow wsX8_addRow) := goodIn_app (goodIn_of _ (by decide +kernel)) ggX8_repeat_X8_addRow
set_option maxRecDepth 20000 in
theorem ggX8_repeat_X8_make : GoodIn wsX8_repeat wsX8_make := goodIn_r _ [26, 13, 1, 18, 27, 28, 29, 4, 30, 31, 32, 33, 34, 35, 36, 37, 38, 39, 40, 41, 42, 43, 44, 45, 46, 47] (by decide +kernel) (by decide +kernel)
set_option maxRecDepth 20000 in
theorem gX8_repeat_X8_make : GoodIn wsX8_repeat (wsV RX8 108 RX8 yX8_make wsX8_make) := goodIn_app (goodIn_of _ (by decide +kernel)) ggX8_repeat_X8_make
theorem dX8_repeat_0 : decode cX8_repeat 0 = .ok (.iload_n 1, 1) := by decide +kernel
theorem dX8_repeat_1 : decode cX8_repeat 1 = .ok (.invokestatic 99, 3) := by decide +kernel
theorem dX8_repeat_4 : decode cX8_repeat 4 = .ok (.ifCond .eq 10, 3) := by decide +kernel
theorem dX8_repeat_7 : decode cX8_repeat 7 = .ok (.iload_n 2, 1) := by decide +kernel
theorem dX8_repeat_8 : decode cX8_repeat 8 = .ok (.invokestatic 99, 3) := by decide +kernel
theorem dX8_repeat_11 : decode cX8_repeat 11 = .ok (.ifCond .ne 5, 3) := by decide +kernel
theorem dX8_repeat_14 : decode cX8_repeat 14 = .ok (.iconst (-1), 1) := by decide +kernel
theorem dX8_repeat_15 : decode cX8_repeat 15 = .ok (.ireturn, 1) := by decide +kernel
theorem dX8_repeat_16 : decode cX8_repeat 16 = .ok (.iload_n 3, 1) := by decide +kernel
theorem dX8_repeat_17 : decode cX8_repeat 17 = .ok (.iconst 0, 1) := by decide +kernel
theorem dX8_repeat_18 : decode cX8_repeat 18 = .ok (.bipush 24, 2) := by decide +kernel
theorem dX8_repeat_20 : decode cX8_repeat 20 = .ok (.invokestatic 40, 3) := by decide +kernel
theorem dX8_repeat_23 : decode cX8_repeat 23 = .ok (.ifCond .ne 6, 3) := by decide +kernel
theorem dX8_repeat_26 : decode cX8_repeat 26 = .ok (.bipush (-2), 2) := by decide +kernel
theorem dX8_repeat_28 : decode cX8_repeat 28 = .ok (.ireturn, 1) := by decide +kernel
theorem dX8_repeat_29 : decode cX8_repeat 29 = .ok (.iload_n 3, 1) := by decide +kernel
theorem dX8_repeat_30 : decode cX8_repeat 30 = .ok (.aload_n 0, 1) := by decide +kernel
theorem dX8_repeat_31 : decode cX8_repeat 31 = .ok (.iload_n 2, 1) := by decide +kernel
theorem dX8_repeat_32 : decode cX8_repeat 32 = .ok (.invokevirtual 59, 3) := by decide +kernel
theorem dX8_repeat_35 : decode cX8_repeat 35 = .ok (.imul, 1) := by decide +kernel
theorem dX8_repeat_36 : decode cX8_repeat 36 = .ok (.bipush 24, 2) := by decide +kernel
theorem dX8_repeat_38 : decode cX8_repeat 38 = .ok (.if_icmp .le 6, 3) := by decide +kernel
theorem dX8_repeat_41 : decode cX8_repeat 41 = .ok (.bipush (-4), 2) := by decide +kernel
theorem dX8_repeat_43 : decode cX8_repeat 43 = .ok (.ireturn, 1) := by decide +kernel
theorem dX8_repeat_44 : decode cX8_repeat 44 = .ok (.aload_n 0, 1) := by decide +kernel
theorem dX8_repeat_45 : decode cX8_repeat 45 = .ok (.iconst 0, 1) := by decide +kernel
theorem dX8_repeat_46 : decode cX8_repeat 46 = .ok (.putfield 96, 3) := by decide +kernel
theorem dX8_repeat_49 : decode cX8_repeat 49 = .ok (.iconst 0, 1) := by decide +kernel
theorem dX8_repeat_50 : decode cX8_repeat 50 = .ok (.istore 4, 2) := by decide +kernel
theorem dX8_repeat_52 : decode cX8_repeat 52 = .ok (.iload 4, 2) := by decide +kernel
theorem dX8_repeat_54 : decode cX8_repeat 54 = .ok (.iload_n 3, 1) := by decide +kernel
theorem dX8_repeat_55 : decode cX8_repeat 55 = .ok (.if_icmp .ge 14, 3) := by decide +kernel
theorem dX8_repeat_58 : decode cX8_repeat 58 = .ok (.aload_n 0, 1) := by decide +kernel
theorem dX8_repeat_59 : decode cX8_repeat 59 = .ok (.iload_n 2, 1) := by decide +kernel
theorem dX8_repeat_60 : decode cX8_repeat 60 = .ok (.invokevirtual 111, 3) := by decide +kernel
theorem dX8_repeat_63 : decode cX8_repeat 63 = .ok (.iinc 4 1, 3) := by decide +kernel
theorem dX8_repeat_66 : decode cX8_repeat 66 = .ok (.goto (-14), 3) := by decide +kernel
theorem dX8_repeat_69 : decode cX8_repeat 69 = .ok (.aload_n 0, 1) := by decide +kernel
theorem dX8_repeat_70 : decode cX8_repeat 70 = .ok (.iload_n 1, 1) := by decide +kernel
theorem dX8_repeat_71 : decode cX8_repeat 71 = .ok (.invokevirtual 108, 3) := by decide +kernel
theorem dX8_repeat_74 : decode cX8_repeat 74 = .ok (.ireturn, 1) := by decide +kernel
set_option maxRecDepth 20000 in
theorem ggX8_weave_X8_isDraft : GoodIn wsX8_weave wsX8_isDraft := goodIn_r _ [6, 7, 8, 5, 9] (by decide +kernel) (by decide +kernel)
set_option maxRecDepth 20000 in
theorem gX8_weave_X8_isDraft : GoodIn wsX8_weave (va_wsS RX8 99 yX8_isDraft wsX8_isDraft) := goodIn_app (goodIn_of _ (by decide +kernel)) ggX8_weave_X8_isDraft
set_option maxRecDepth 20000 in
theorem ggX8_weave_X8_within : GoodIn wsX8_weave wsX8_within := goodIn_r _ [9] (by decide +kernel) (by decide +kernel)
set_option maxRecDepth 20000 in
theorem gX8_weave_X8_within : GoodIn wsX8_weave (va_wsS RX8 40 yX8_within wsX8_within) := goodIn_app (goodIn_of _ (by decide +kernel)) ggX8_weave_X8_within
set_option maxRecDepth 20000 in
theorem ggX8_weave_X8_record : GoodIn wsX8_weave wsX8_record := goodIn_r _ [13, 14, 15, 1, 54, 55, 56, 57, 58, 59, 60, 61, 62, 63, 64, 65, 66, 67, 68] (by decide +kernel) (by decide +kernel)
set_option maxRecDepth 20000 in
theorem gX8_weave_X8_record : GoodIn wsX8_weave (wsV RX8 52 RX8 yX8_record wsX8_record) := goodIn_app (goodIn_of _ (by decide +kernel)) ggX8_weave_X8_record
set_option maxRecDepth 20000 in
theorem ggX8_weave_X8_lay : GoodIn wsX8_weave wsX8_lay := goodIn_r _ [19, 20, 21, 22, 23, 5, 24, 1, 25, 26, 27, 28, 29, 30, 31, 32, 33, 34, 35, 36, 54, 55, 56, 57, 58, 59, 60, 61, 62, 63, 64, 65, 66, 67, 68] (by decide +kernel) (by decide +kernel)
set_option maxRecDepth 20000 in
theorem gX8_weave_X8_lay : GoodIn wsX8_weave (wsV RX8 69 RX8 yX8_lay wsX8_lay) := goodIn_app (goodIn_of _ (by decide +kernel)) ggX8_weave_X8_lay
set_option maxRecDepth 20000 in
theorem ggX8_weave_X8_takeThreads : GoodIn wsX8_weave wsX8_takeThreads := goodIn_r _ [40, 2, 1, 54, 55, 56, 57, 58, 59, 60, 61, 62, 63, 64, 65, 66, 67, 68] (by decide +kernel) (by decide +kernel)
set_option maxRecDepth 20000 in
theorem gX8_weave_X8_takeThreads : GoodIn wsX8_weave (wsV RX8 79 RX8 yX8_takeThreads wsX8_takeThreads) := goodIn_app (goodIn_of _ (by decide +kernel)) ggX8_weave_X8_takeThreads
set_option maxRecDepth 20000 in
theorem ggX8_weave_X8_weaveOnce : GoodIn wsX8_weave wsX8_weaveOnce := goodIn_r _ [44, 45, 2, 46, 47, 48, 5, 49, 20, 54, 55, 56, 57, 58, 59, 60, 61, 62, 63, 64, 65, 66, 67, 68] (by decide +kernel) (by decide +kernel)
set_option maxRecDepth 20000 in
theorem gX8_weave_X8_weaveOnce : GoodIn wsX8_weave (wsV RX8 82 RX8 yX8_weaveOnce wsX8_weaveOnce) := goodIn_app (goodIn_of _ (by decide +kernel)) ggX8_weave_X8_weaveOnce
set_option maxRecDepth 20000 in
theorem ggX8_weave_X8_lengthOf : GoodIn wsX8_weave wsX8_lengthOf := goodIn_r _ [24, 1, 54, 55, 56, 57, 58, 59, 60, 61, 62, 63, 64, 65, 66, 67, 68] (by decide +kernel) (by decide +kernel)
set_option maxRecDepth 20000 in
theorem gX8_weave_X8_lengthOf : GoodIn wsX8_weave (wsV RX8 59 RX8 yX8_lengthOf wsX8_lengthOf) := goodIn_app (goodIn_of _ (by decide +kernel)) ggX8_weave_X8_lengthOf
set_option maxRecDepth 20000 in
theorem ggX8_weave_X8_atHome : GoodIn wsX8_weave wsX8_atHome := goodIn_r _ [53, 1, 54, 55, 56, 57, 58, 59, 60, 61, 62, 63, 64, 65, 66, 67, 68] (by decide +kernel) (by decide +kernel)
set_option maxRecDepth 20000 in
theorem gX8_weave_X8_atHome : GoodIn wsX8_weave (wsV RX8 48 RX8 yX8_atHome wsX8_atHome) := goodIn_app (goodIn_of _ (by decide +kernel)) ggX8_weave_X8_atHome
theorem dX8_weave_0 : decode cX8_weave 0 = .ok (.iload_n 1, 1) := by decide +kernel
theorem dX8_weave_1 : decode cX8_weave 1 = .ok (.invokestatic 99, 3) := by decide +kernel
theorem dX8_weave_4 : decode cX8_weave 4 = .ok (.ifCond .ne 5, 3) := by decide +kernel
theorem dX8_weave_7 : decode cX8_weave 7 = .ok (.iconst (-1), 1) := by decide +kernel
theorem dX8_weave_8 : decode cX8_weave 8 = .ok (.ireturn, 1) := by decide +kernel
theorem dX8_weave_9 : decode cX8_weave 9 = .ok (.iload_n 2, 1) := by decide +kernel
theorem dX8_weave_10 : decode cX8_weave 10 = .ok (.iconst 1, 1) := by decide +kernel
theorem dX8_weave_11 : decode cX8_weave 11 = .ok (.sipush 1000, 3) := by decide +kernel
theorem dX8_weave_14 : decode cX8_weave 14 = .ok (.invokestatic 40, 3) := by decide +kernel
theorem dX8_weave_17 : decode cX8_weave 17 = .ok (.ifCond .ne 6, 3) := by decide +kernel
theorem dX8_weave_20 : decode cX8_weave 20 = .ok (.bipush (-2), 2) := by decide +kernel
theorem dX8_weave_22 : decode cX8_weave 22 = .ok (.ireturn, 1) := by decide +kernel
theorem dX8_weave_23 : decode cX8_weave 23 = .ok (.aload_n 0, 1) := by decide +kernel
theorem dX8_weave_24 : decode cX8_weave 24 = .ok (.invokevirtual 52, 3) := by decide +kernel
theorem dX8_weave_27 : decode cX8_weave 27 = .ok (.aload_n 0, 1) := by decide +kernel
theorem dX8_weave_28 : decode cX8_weave 28 = .ok (.iload_n 1, 1) := by decide +kernel
theorem dX8_weave_29 : decode cX8_weave 29 = .ok (.invokevirtual 69, 3) := by decide +kernel
theorem dX8_weave_32 : decode cX8_weave 32 = .ok (.aload_n 0, 1) := by decide +kernel
theorem dX8_weave_33 : decode cX8_weave 33 = .ok (.invokevirtual 79, 3) := by decide +kernel
theorem dX8_weave_36 : decode cX8_weave 36 = .ok (.iconst 0, 1) := by decide +kernel
theorem dX8_weave_37 : decode cX8_weave 37 = .ok (.istore_n 3, 1) := by decide +kernel
theorem dX8_weave_38 : decode cX8_weave 38 = .ok (.iload_n 3, 1) := by decide +kernel
theorem dX8_weave_39 : decode cX8_weave 39 = .ok (.iload_n 2, 1) := by decide +kernel
theorem dX8_weave_40 : decode cX8_weave 40 = .ok (.if_icmp .ge 14, 3) := by decide +kernel
theorem dX8_weave_43 : decode cX8_weave 43 = .ok (.aload_n 0, 1) := by decide +kernel
theorem dX8_weave_44 : decode cX8_weave 44 = .ok (.iload_n 1, 1) := by decide +kernel
theorem dX8_weave_45 : decode cX8_weave 45 = .ok (.invokevirtual 82, 3) := by decide +kernel
theorem dX8_weave_48 : decode cX8_weave 48 = .ok (.iinc 3 1, 3) := by decide +kernel
theorem dX8_weave_51 : decode cX8_weave 51 = .ok (.goto (-13), 3) := by decide +kernel
theorem dX8_weave_54 : decode cX8_weave 54 = .ok (.iconst 0, 1) := by decide +kernel
theorem dX8_weave_55 : decode cX8_weave 55 = .ok (.istore_n 3, 1) := by decide +kernel
theorem dX8_weave_56 : decode cX8_weave 56 = .ok (.iload_n 3, 1) := by decide +kernel
theorem dX8_weave_57 : decode cX8_weave 57 = .ok (.bipush 12, 2) := by decide +kernel
theorem dX8_weave_59 : decode cX8_weave 59 = .ok (.if_icmp .ge 24, 3) := by decide +kernel
theorem dX8_weave_62 : decode cX8_weave 62 = .ok (.aload_n 0, 1) := by decide +kernel
theorem dX8_weave_63 : decode cX8_weave 63 = .ok (.getfield 7, 3) := by decide +kernel
theorem dX8_weave_66 : decode cX8_weave 66 = .ok (.bipush 18, 2) := by decide +kernel
theorem dX8_weave_68 : decode cX8_weave 68 = .ok (.iload_n 3, 1) := by decide +kernel
theorem dX8_weave_69 : decode cX8_weave 69 = .ok (.iadd, 1) := by decide +kernel
theorem dX8_weave_70 : decode cX8_weave 70 = .ok (.aload_n 0, 1) := by decide +kernel
theorem dX8_weave_71 : decode cX8_weave 71 = .ok (.getfield 31, 3) := by decide +kernel
theorem dX8_weave_74 : decode cX8_weave 74 = .ok (.iload_n 3, 1) := by decide +kernel
theorem dX8_weave_75 : decode cX8_weave 75 = .ok (.iaload, 1) := by decide +kernel
theorem dX8_weave_76 : decode cX8_weave 76 = .ok (.iastore, 1) := by decide +kernel
theorem dX8_weave_77 : decode cX8_weave 77 = .ok (.iinc 3 1, 3) := by decide +kernel
theorem dX8_weave_80 : decode cX8_weave 80 = .ok (.goto (-24), 3) := by decide +kernel
theorem dX8_weave_83 : decode cX8_weave 83 = .ok (.aload_n 0, 1) := by decide +kernel
theorem dX8_weave_84 : decode cX8_weave 84 = .ok (.getfield 7, 3) := by decide +kernel
theorem dX8_weave_87 : decode cX8_weave 87 = .ok (.sipush 192, 3) := by decide +kernel
theorem dX8_weave_90 : decode cX8_weave 90 = .ok (.dup2, 1) := by decide +kernel
theorem dX8_weave_91 : decode cX8_weave 91 = .ok (.iaload, 1) := by decide +kernel
theorem dX8_weave_92 : decode cX8_weave 92 = .ok (.iload_n 2, 1) := by decide +kernel
theorem dX8_weave_93 : decode cX8_weave 93 = .ok (.aload_n 0, 1) := by decide +kernel
theorem dX8_weave_94 : decode cX8_weave 94 = .ok (.iload_n 1, 1) := by decide +kernel
theorem dX8_weave_95 : decode cX8_weave 95 = .ok (.invokevirtual 59, 3) := by decide +kernel
theorem dX8_weave_98 : decode cX8_weave 98 = .ok (.imul, 1) := by decide +kernel
theorem dX8_weave_99 : decode cX8_weave 99 = .ok (.iadd, 1) := by decide +kernel
theorem dX8_weave_100 : decode cX8_weave 100 = .ok (.iastore, 1) := by decide +kernel
theorem dX8_weave_101 : decode cX8_weave 101 = .ok (.aload_n 0, 1) := by decide +kernel
theorem dX8_weave_102 : decode cX8_weave 102 = .ok (.getfield 7, 3) := by decide +kernel
theorem dX8_weave_105 : decode cX8_weave 105 = .ok (.sipush 193, 3) := by decide +kernel
theorem dX8_weave_108 : decode cX8_weave 108 = .ok (.dup2, 1) := by decide +kernel
theorem dX8_weave_109 : decode cX8_weave 109 = .ok (.iaload, 1) := by decide +kernel
theorem dX8_weave_110 : decode cX8_weave 110 = .ok (.iload_n 2, 1) := by decide +kernel
theorem dX8_weave_111 : decode cX8_weave 111 = .ok (.iadd, 1) := by decide +kernel
theorem dX8_weave_112 : decode cX8_weave 112 = .ok (.iastore, 1) := by decide +kernel
theorem dX8_weave_113 : decode cX8_weave 113 = .ok (.aload_n 0, 1) := by decide +kernel
theorem dX8_weave_114 : decode cX8_weave 114 = .ok (.invokevirtual 48, 3) := by decide +kernel
theorem dX8_weave_117 : decode cX8_weave 117 = .ok (.ireturn, 1) := by decide +kernel
set_option maxRecDepth 20000 in
theorem ggX8_dye_X8_isPlace : GoodIn wsX8_dye wsX8_isPlace := goodIn_r _ [5, 6, 7, 4, 8] (by decide +kernel) (by decide +kernel)
set_option maxRecDepth 20000 in
theorem gX8_dye_X8_isPlace : GoodIn wsX8_dye (va_wsS RX8 89 yX8_isPlace wsX8_isPlace) := goodIn_app (goodIn_of _ (by decide +kernel)) ggX8_dye_X8_isPlace
set_option maxRecDepth 20000 in
theorem ggX8_dye_X8_within : GoodIn wsX8_dye wsX8_within := goodIn_r _ [8] (by decide +kernel) (by decide +kernel)
set_option maxRecDepth 20000 in
theorem gX8_dye_X8_within : GoodIn wsX8_dye (va_wsS RX8 40 yX8_within wsX8_within) := goodIn_app (goodIn_of _ (by decide +kernel)) ggX8_dye_X8_within
set_option maxRecDepth 20000 in
theorem ggX8_dye_X8_record : GoodIn wsX8_dye wsX8_record := goodIn_r _ [12, 13, 14, 1, 15, 16, 17, 18, 19, 20, 21, 22, 23, 24, 25, 26, 27, 28, 29] (by decide +kernel) (by decide +kernel)
set_option maxRecDepth 20000 in
theorem gX8_dye_X8_record : GoodIn wsX8_dye (wsV RX8 52 RX8 yX8_record wsX8_record) := goodIn_app (goodIn_of _ (by decide +kernel)) ggX8_dye_X8_record
theorem dX8_dye_0 : decode cX8_dye 0 = .ok (.iload_n 1, 1) := by decide +kernel
theorem dX8_dye_1 : decode cX8_dye 1 = .ok (.invokestatic 89, 3) := by decide +kernel
theorem dX8_dye_4 : decode cX8_dye 4 = .ok (.ifCond .ne 5, 3) := by decide +kernel
theorem dX8_dye_7 : decode cX8_dye 7 = .ok (.iconst (-1), 1) := by decide +kernel
theorem dX8_dye_8 : decode cX8_dye 8 = .ok (.ireturn, 1) := by decide +kernel
theorem dX8_dye_9 : decode cX8_dye 9 = .ok (.iload_n 2, 1) := by decide +kernel
theorem dX8_dye_10 : decode cX8_dye 10 = .ok (.iconst 0, 1) := by decide +kernel
theorem dX8_dye_11 : decode cX8_dye 11 = .ok (.iconst 3, 1) := by decide +kernel
theorem dX8_dye_12 : decode cX8_dye 12 = .ok (.invokestatic 40, 3) := by decide +kernel
theorem dX8_dye_15 : decode cX8_dye 15 = .ok (.ifCond .ne 6, 3) := by decide +kernel
theorem dX8_dye_18 : decode cX8_dye 18 = .ok (.bipush (-2), 2) := by decide +kernel
theorem dX8_dye_20 : decode cX8_dye 20 = .ok (.ireturn, 1) := by decide +kernel
theorem dX8_dye_21 : decode cX8_dye 21 = .ok (.aload_n 0, 1) := by decide +kernel
theorem dX8_dye_22 : decode cX8_dye 22 = .ok (.invokevirtual 52, 3) := by decide +kernel
theorem dX8_dye_25 : decode cX8_dye 25 = .ok (.aload_n 0, 1) := by decide +kernel
theorem dX8_dye_26 : decode cX8_dye 26 = .ok (.getfield 7, 3) := by decide +kernel
theorem dX8_dye_29 : decode cX8_dye 29 = .ok (.bipush 30, 2) := by decide +kernel
theorem dX8_dye_31 : decode cX8_dye 31 = .ok (.iload_n 1, 1) := by decide +kernel
theorem dX8_dye_32 : decode cX8_dye 32 = .ok (.iadd, 1) := by decide +kernel
theorem dX8_dye_33 : decode cX8_dye 33 = .ok (.iaload, 1) := by decide +kernel
theorem dX8_dye_34 : decode cX8_dye 34 = .ok (.istore_n 3, 1) := by decide +kernel
theorem dX8_dye_35 : decode cX8_dye 35 = .ok (.aload_n 0, 1) := by decide +kernel
theorem dX8_dye_36 : decode cX8_dye 36 = .ok (.getfield 7, 3) := by decide +kernel
theorem dX8_dye_39 : decode cX8_dye 39 = .ok (.bipush 30, 2) := by decide +kernel
theorem dX8_dye_41 : decode cX8_dye 41 = .ok (.iload_n 1, 1) := by decide +kernel
theorem dX8_dye_42 : decode cX8_dye 42 = .ok (.iadd, 1) := by decide +kernel
theorem dX8_dye_43 : decode cX8_dye 43 = .ok (.iload_n 2, 1) := by decide +kernel
theorem dX8_dye_44 : decode cX8_dye 44 = .ok (.iastore, 1) := by decide +kernel
theorem dX8_dye_45 : decode cX8_dye 45 = .ok (.iload_n 3, 1) := by decide +kernel
theorem dX8_dye_46 : decode cX8_dye 46 = .ok (.ireturn, 1) := by decide +kernel
set_option maxRecDepth 20000 in
theorem ggX8_raising_X8_raised : GoodIn wsX8_raising wsX8_raised := goodIn_r _ [5, 6, 7, 8, 9, 10, 11, 12, 13, 14, 15, 16, 17, 18, 19, 20, 21] (by decide +kernel) (by decide +kernel)
set_option maxRecDepth 20000 in
theorem gX8_raising_X8_raised : GoodIn wsX8_raising (wsV RX8 55 RX8 yX8_raised wsX8_raised) := goodIn_app (goodIn_of _ (by decide +kernel)) ggX8_raising_X8_raised
theorem dX8_raising_0 : decode cX8_raising 0 = .ok (.iconst 0, 1) := by decide +kernel
theorem dX8_raising_1 : decode cX8_raising 1 = .ok (.istore_n 2, 1) := by decide +kernel
theorem dX8_raising_2 : decode cX8_raising 2 = .ok (.iconst 0, 1) := by decide +kernel
theorem dX8_raising_3 : decode cX8_raising 3 = .ok (.istore_n 3, 1) := by decide +kernel
theorem dX8_raising_4 : decode cX8_raising 4 = .ok (.iload_n 3, 1) := by decide +kernel
theorem dX8_raising_5 : decode cX8_raising 5 = .ok (.bipush 6, 2) := by decide +kernel
theorem dX8_raising_7 : decode cX8_raising 7 = .ok (.if_icmp .ge 32, 3) := by decide +kernel
theorem dX8_raising_10 : decode cX8_raising 10 = .ok (.iload_n 2, 1) := by decide +kernel
theorem dX8_raising_11 : decode cX8_raising 11 = .ok (.aload_n 0, 1) := by decide +kernel
theorem dX8_raising_12 : decode cX8_raising 12 = .ok (.iload_n 3, 1) := by decide +kernel
theorem dX8_raising_13 : decode cX8_raising 13 = .ok (.invokevirtual 55, 3) := by decide +kernel
theorem dX8_raising_16 : decode cX8_raising 16 = .ok (.iload_n 1, 1) := by decide +kernel
theorem dX8_raising_17 : decode cX8_raising 17 = .ok (.ishr, 1) := by decide +kernel
theorem dX8_raising_18 : decode cX8_raising 18 = .ok (.iconst 1, 1) := by decide +kernel
theorem dX8_raising_19 : decode cX8_raising 19 = .ok (.iand, 1) := by decide +kernel
theorem dX8_raising_20 : decode cX8_raising 20 = .ok (.iconst 1, 1) := by decide +kernel
theorem dX8_raising_21 : decode cX8_raising 21 = .ok (.if_icmp .ne 9, 3) := by decide +kernel
theorem dX8_raising_24 : decode cX8_raising 24 = .ok (.iconst 1, 1) := by decide +kernel
theorem dX8_raising_25 : decode cX8_raising 25 = .ok (.iload_n 3, 1) := by decide +kernel
theorem dX8_raising_26 : decode cX8_raising 26 = .ok (.ishl, 1) := by decide +kernel
theorem dX8_raising_27 : decode cX8_raising 27 = .ok (.goto 4, 3) := by decide +kernel
theorem dX8_raising_30 : decode cX8_raising 30 = .ok (.iconst 0, 1) := by decide +kernel
theorem dX8_raising_31 : decode cX8_raising 31 = .ok (.ior, 1) := by decide +kernel
theorem dX8_raising_32 : decode cX8_raising 32 = .ok (.istore_n 2, 1) := by decide +kernel
theorem dX8_raising_33 : decode cX8_raising 33 = .ok (.iinc 3 1, 3) := by decide +kernel
theorem dX8_raising_36 : decode cX8_raising 36 = .ok (.goto (-32), 3) := by decide +kernel
theorem dX8_raising_39 : decode cX8_raising 39 = .ok (.iload_n 2, 1) := by decide +kernel
theorem dX8_raising_40 : decode cX8_raising 40 = .ok (.ireturn, 1) := by decide +kernel
set_option maxRecDepth 20000 in
theorem ggX8_place_X8_isPlace : GoodIn wsX8_place wsX8_isPlace := goodIn_r _ [5, 6, 7, 4, 8] (by decide +kernel) (by decide +kernel)
set_option maxRecDepth 20000 in
theorem gX8_place_X8_isPlace : GoodIn wsX8_place (va_wsS RX8 89 yX8_isPlace wsX8_isPlace) := goodIn_app (goodIn_of _ (by decide +kernel)) ggX8_place_X8_isPlace
set_option maxRecDepth 20000 in
theorem ggX8_place_X8_raising : GoodIn wsX8_place wsX8_raising := goodIn_r _ [12, 13, 14, 15, 4, 16, 1, 17, 18, 19, 20, 21, 22, 23, 24, 25, 26, 27, 28, 29, 30, 31] (by decide +kernel) (by decide +kernel)
set_option maxRecDepth 20000 in
theorem gX8_place_X8_raising : GoodIn wsX8_place (wsV RX8 114 RX8 yX8_raising wsX8_raising) := goodIn_app (goodIn_of _ (by decide +kernel)) ggX8_place_X8_raising
theorem dX8_place_0 : decode cX8_place 0 = .ok (.iload_n 1, 1) := by decide +kernel
theorem dX8_place_1 : decode cX8_place 1 = .ok (.invokestatic 89, 3) := by decide +kernel
theorem dX8_place_4 : decode cX8_place 4 = .ok (.ifCond .ne 5, 3) := by decide +kernel
theorem dX8_place_7 : decode cX8_place 7 = .ok (.iconst (-1), 1) := by decide +kernel
theorem dX8_place_8 : decode cX8_place 8 = .ok (.ireturn, 1) := by decide +kernel
theorem dX8_place_9 : decode cX8_place 9 = .ok (.aload_n 0, 1) := by decide +kernel
theorem dX8_place_10 : decode cX8_place 10 = .ok (.getfield 7, 3) := by decide +kernel
theorem dX8_place_13 : decode cX8_place 13 = .ok (.bipush 18, 2) := by decide +kernel
theorem dX8_place_15 : decode cX8_place 15 = .ok (.iload_n 1, 1) := by decide +kernel
theorem dX8_place_16 : decode cX8_place 16 = .ok (.iadd, 1) := by decide +kernel
theorem dX8_place_17 : decode cX8_place 17 = .ok (.iaload, 1) := by decide +kernel
theorem dX8_place_18 : decode cX8_place 18 = .ok (.istore_n 3, 1) := by decide +kernel
theorem dX8_place_19 : decode cX8_place 19 = .ok (.iload_n 2, 1) := by decide +kernel
theorem dX8_place_20 : decode cX8_place 20 = .ok (.tableswitch 59 0 3 #[32, 41, 43, 53], 32) := by decide +kernel
theorem dX8_place_52 : decode cX8_place 52 = .ok (.aload_n 0, 1) := by decide +kernel
theorem dX8_place_53 : decode cX8_place 53 = .ok (.getfield 7, 3) := by decide +kernel
theorem dX8_place_56 : decode cX8_place 56 = .ok (.iconst 0, 1) := by decide +kernel
theorem dX8_place_57 : decode cX8_place 57 = .ok (.iload_n 1, 1) := by decide +kernel
theorem dX8_place_58 : decode cX8_place 58 = .ok (.iadd, 1) := by decide +kernel
theorem dX8_place_59 : decode cX8_place 59 = .ok (.iaload, 1) := by decide +kernel
theorem dX8_place_60 : decode cX8_place 60 = .ok (.ireturn, 1) := by decide +kernel
theorem dX8_place_61 : decode cX8_place 61 = .ok (.iload_n 3, 1) := by decide +kernel
theorem dX8_place_62 : decode cX8_place 62 = .ok (.ireturn, 1) := by decide +kernel
theorem dX8_place_63 : decode cX8_place 63 = .ok (.aload_n 0, 1) := by decide +kernel
theorem dX8_place_64 : decode cX8_place 64 = .ok (.getfield 7, 3) := by decide +kernel
theorem dX8_place_67 : decode cX8_place 67 = .ok (.bipush 30, 2) := by decide +kernel
theorem dX8_place_69 : decode cX8_place 69 = .ok (.iload_n 3, 1) := by decide +kernel
theorem dX8_place_70 : decode cX8_place 70 = .ok (.iadd, 1) := by decide +kernel
theorem dX8_place_71 : decode cX8_place 71 = .ok (.iaload, 1) := by decide +kernel
theorem dX8_place_72 : decode cX8_place 72 = .ok (.ireturn, 1) := by decide +kernel
theorem dX8_place_73 : decode cX8_place 73 = .ok (.aload_n 0, 1) := by decide +kernel
theorem dX8_place_74 : decode cX8_place 74 = .ok (.iload_n 1, 1) := by decide +kernel
theorem dX8_place_75 : decode cX8_place 75 = .ok (.invokevirtual 114, 3) := by decide +kernel
theorem dX8_place_78 : decode cX8_place 78 = .ok (.ireturn, 1) := by decide +kernel
theorem dX8_place_79 : decode cX8_place 79 = .ok (.bipush (-2), 2) := by decide +kernel
theorem dX8_place_81 : decode cX8_place 81 = .ok (.ireturn, 1) := by decide +kernel
set_option maxRecDepth 20000 in
theorem ggX8_treadle_X8_within : GoodIn wsX8_treadle wsX8_within := goodIn_r _ [5] (by decide +kernel) (by decide +kernel)
set_option maxRecDepth 20000 in
theorem gX8_treadle_X8_within : GoodIn wsX8_treadle (va_wsS RX8 40 yX8_within wsX8_within) := goodIn_app (goodIn_of _ (by decide +kernel)) ggX8_treadle_X8_within
set_option maxRecDepth 20000 in
theorem ggX8_treadle_X8_raised : GoodIn wsX8_treadle wsX8_raised := goodIn_r _ [9, 1, 10, 11, 12, 13, 14, 15, 16, 17, 18, 19, 20, 21, 22, 23, 24] (by decide +kernel) (by decide +kernel)
set_option maxRecDepth 20000 in
theorem gX8_treadle_X8_raised : GoodIn wsX8_treadle (wsV RX8 55 RX8 yX8_raised wsX8_raised) := goodIn_app (goodIn_of _ (by decide +kernel)) ggX8_treadle_X8_raised
theorem dX8_treadle_0 : decode cX8_treadle 0 = .ok (.iload_n 1, 1) := by decide +kernel
theorem dX8_treadle_1 : decode cX8_treadle 1 = .ok (.iconst 0, 1) := by decide +kernel
theorem dX8_treadle_2 : decode cX8_treadle 2 = .ok (.iconst 5, 1) := by decide +kernel
theorem dX8_treadle_3 : decode cX8_treadle 3 = .ok (.invokestatic 40, 3) := by decide +kernel
theorem dX8_treadle_6 : decode cX8_treadle 6 = .ok (.ifCond .ne 5, 3) := by decide +kernel
theorem dX8_treadle_9 : decode cX8_treadle 9 = .ok (.iconst (-1), 1) := by decide +kernel
theorem dX8_treadle_10 : decode cX8_treadle 10 = .ok (.ireturn, 1) := by decide +kernel
theorem dX8_treadle_11 : decode cX8_treadle 11 = .ok (.iload_n 2, 1) := by decide +kernel
theorem dX8_treadle_12 : decode cX8_treadle 12 = .ok (.iconst 0, 1) := by decide +kernel
theorem dX8_treadle_13 : decode cX8_treadle 13 = .ok (.iconst 1, 1) := by decide +kernel
theorem dX8_treadle_14 : decode cX8_treadle 14 = .ok (.invokestatic 40, 3) := by decide +kernel
theorem dX8_treadle_17 : decode cX8_treadle 17 = .ok (.ifCond .ne 6, 3) := by decide +kernel
theorem dX8_treadle_20 : decode cX8_treadle 20 = .ok (.bipush (-2), 2) := by decide +kernel
theorem dX8_treadle_22 : decode cX8_treadle 22 = .ok (.ireturn, 1) := by decide +kernel
theorem dX8_treadle_23 : decode cX8_treadle 23 = .ok (.iload_n 2, 1) := by decide +kernel
theorem dX8_treadle_24 : decode cX8_treadle 24 = .ok (.ifCond .ne 15, 3) := by decide +kernel
theorem dX8_treadle_27 : decode cX8_treadle 27 = .ok (.aload_n 0, 1) := by decide +kernel
theorem dX8_treadle_28 : decode cX8_treadle 28 = .ok (.getfield 7, 3) := by decide +kernel
theorem dX8_treadle_31 : decode cX8_treadle 31 = .ok (.bipush 12, 2) := by decide +kernel
theorem dX8_treadle_33 : decode cX8_treadle 33 = .ok (.iload_n 1, 1) := by decide +kernel
theorem dX8_treadle_34 : decode cX8_treadle 34 = .ok (.iadd, 1) := by decide +kernel
theorem dX8_treadle_35 : decode cX8_treadle 35 = .ok (.iaload, 1) := by decide +kernel
theorem dX8_treadle_36 : decode cX8_treadle 36 = .ok (.goto 8, 3) := by decide +kernel
theorem dX8_treadle_39 : decode cX8_treadle 39 = .ok (.aload_n 0, 1) := by decide +kernel
theorem dX8_treadle_40 : decode cX8_treadle 40 = .ok (.iload_n 1, 1) := by decide +kernel
theorem dX8_treadle_41 : decode cX8_treadle 41 = .ok (.invokevirtual 55, 3) := by decide +kernel
theorem dX8_treadle_44 : decode cX8_treadle 44 = .ok (.ireturn, 1) := by decide +kernel
set_option maxRecDepth 20000 in
theorem ggX8_draft_X8_isDraft : GoodIn wsX8_draft wsX8_isDraft := goodIn_r _ [4, 5, 6, 3, 7] (by decide +kernel) (by decide +kernel)
set_option maxRecDepth 20000 in
theorem gX8_draft_X8_isDraft : GoodIn wsX8_draft (va_wsS RX8 99 yX8_isDraft wsX8_isDraft) := goodIn_app (goodIn_of _ (by decide +kernel)) ggX8_draft_X8_isDraft
set_option maxRecDepth 20000 in
theorem ggX8_draft_X8_lay : GoodIn wsX8_draft wsX8_lay := goodIn_r _ [11, 12, 13, 14, 15, 3, 16, 17, 18, 19, 20, 21, 22, 23, 24, 25, 26, 27, 28, 29, 76, 77, 78, 79, 80, 81, 82, 83, 84, 85, 86, 87, 88, 89, 90] (by decide +kernel) (by decide +kernel)
set_option maxRecDepth 20000 in
theorem gX8_draft_X8_lay : GoodIn wsX8_draft (wsV RX8 69 RX8 yX8_lay wsX8_lay) := goodIn_app (goodIn_of _ (by decide +kernel)) ggX8_draft_X8_lay
set_option maxRecDepth 20000 in
theorem ggX8_draft_X8_lengthOf : GoodIn wsX8_draft wsX8_lengthOf := goodIn_r _ [16, 17, 76, 77, 78, 79, 80, 81, 82, 83, 84, 85, 86, 87, 88, 89, 90] (by decide +kernel) (by decide +kernel)
set_option maxRecDepth 20000 in
theorem gX8_draft_X8_lengthOf : GoodIn wsX8_draft (wsV RX8 59 RX8 yX8_lengthOf wsX8_lengthOf) := goodIn_app (goodIn_of _ (by decide +kernel)) ggX8_draft_X8_lengthOf
set_option maxRecDepth 20000 in
theorem ggX8_draft_X8_orderOf : GoodIn wsX8_draft wsX8_orderOf := goodIn_r _ [33, 34, 35, 36, 3, 37, 38, 39, 40, 41, 12, 76, 77, 78, 79, 80, 81, 82, 83, 84, 85, 86, 87, 88, 89, 90] (by decide +kernel) (by decide +kernel)
set_option maxRecDepth 20000 in
theorem gX8_draft_X8_orderOf : GoodIn wsX8_draft (wsV RX8 117 RX8 yX8_orderOf wsX8_orderOf) := goodIn_app (goodIn_of _ (by decide +kernel)) ggX8_draft_X8_orderOf
set_option maxRecDepth 20000 in
theorem ggX8_draft_X8_stays : GoodIn wsX8_draft wsX8_stays := goodIn_r _ [45, 38, 39, 40, 3, 41, 12, 76, 77, 78, 79, 80, 81, 82, 83, 84, 85, 86, 87, 88, 89, 90] (by decide +kernel) (by decide +kernel)
set_option maxRecDepth 20000 in
theorem gX8_draft_X8_stays : GoodIn wsX8_draft (wsV RX8 120 RX8 yX8_stays wsX8_stays) := goodIn_app (goodIn_of _ (by decide +kernel)) ggX8_draft_X8_stays
set_option maxRecDepth 20000 in
theorem ggX8_draft_X8_cycles : GoodIn wsX8_draft wsX8_cycles := goodIn_r _ [49, 34, 35, 36, 3, 37, 38, 39, 40, 41, 12, 76, 77, 78, 79, 80, 81, 82, 83, 84, 85, 86, 87, 88, 89, 90] (by decide +kernel) (by decide +kernel)
set_option maxRecDepth 20000 in
theorem gX8_draft_X8_cycles : GoodIn wsX8_draft (wsV RX8 123 RX8 yX8_cycles wsX8_cycles) := goodIn_app (goodIn_of _ (by decide +kernel)) ggX8_draft_X8_cycles
set_option maxRecDepth 20000 in
theorem ggX8_draft_X8_longest : GoodIn wsX8_draft wsX8_longest := goodIn_r _ [53, 34, 35, 36, 3, 37, 38, 39, 40, 41, 12, 76, 77, 78, 79, 80, 81, 82, 83, 84, 85, 86, 87, 88, 89, 90] (by decide +kernel) (by decide +kernel)
set_option maxRecDepth 20000 in
theorem gX8_draft_X8_longest : GoodIn wsX8_draft (wsV RX8 126 RX8 yX8_longest wsX8_longest) := goodIn_app (goodIn_of _ (by decide +kernel)) ggX8_draft_X8_longest
set_option maxRecDepth 20000 in
theorem ggX8_draft_X8_turnedPairs : GoodIn wsX8_draft wsX8_turnedPairs := goodIn_r _ [57, 38, 39, 40, 3, 41, 12, 76, 77, 78, 79, 80, 81, 82, 83, 84, 85, 86, 87, 88, 89, 90] (by decide +kernel) (by decide +kernel)
set_option maxRecDepth 20000 in
theorem gX8_draft_X8_turnedPairs : GoodIn wsX8_draft (wsV RX8 129 RX8 yX8_turnedPairs wsX8_turnedPairs) := goodIn_app (goodIn_of _ (by decide +kernel)) ggX8_draft_X8_turnedPairs
set_option maxRecDepth 20000 in
theorem ggX8_draft_X8_repeats : GoodIn wsX8_draft wsX8_repeats := goodIn_r _ [61, 62, 63, 64, 3, 65, 66, 17, 67, 68, 69, 70, 71, 38, 39, 40, 41, 12, 72, 73, 74, 75, 76, 77, 78, 79, 80, 81, 82, 83, 84, 85, 86, 87, 88, 89, 90] (by decide +kernel) (by decide +kernel)
set_option maxRecDepth 20000 in
theorem gX8_draft_X8_repeats : GoodIn wsX8_draft (wsV RX8 132 RX8 yX8_repeats wsX8_repeats) := goodIn_app (goodIn_of _ (by decide +kernel)) ggX8_draft_X8_repeats
theorem dX8_draft_0 : decode cX8_draft 0 = .ok (.iload_n 1, 1) := by decide +kernel
theorem dX8_draft_1 : decode cX8_draft 1 = .ok (.invokestatic 99, 3) := by decide +kernel
theorem dX8_draft_4 : decode cX8_draft 4 = .ok (.ifCond .ne 5, 3) := by decide +kernel
theorem dX8_draft_7 : decode cX8_draft 7 = .ok (.iconst (-1), 1) := by decide +kernel
theorem dX8_draft_8 : decode cX8_draft 8 = .ok (.ireturn, 1) := by decide +kernel
theorem dX8_draft_9 : decode cX8_draft 9 = .ok (.aload_n 0, 1) := by decide +kernel
theorem dX8_draft_10 : decode cX8_draft 10 = .ok (.iload_n 1, 1) := by decide +kernel
theorem dX8_draft_11 : decode cX8_draft 11 = .ok (.invokevirtual 69, 3) := by decide +kernel
theorem dX8_draft_14 : decode cX8_draft 14 = .ok (.iload_n 2, 1) := by decide +kernel
theorem dX8_draft_15 : decode cX8_draft 15 = .ok (.tableswitch 83 0 6 #[41, 47, 53, 59, 65, 71, 77], 41) := by decide +kernel
theorem dX8_draft_56 : decode cX8_draft 56 = .ok (.aload_n 0, 1) := by decide +kernel
theorem dX8_draft_57 : decode cX8_draft 57 = .ok (.iload_n 1, 1) := by decide +kernel
theorem dX8_draft_58 : decode cX8_draft 58 = .ok (.invokevirtual 59, 3) := by decide +kernel
theorem dX8_draft_61 : decode cX8_draft 61 = .ok (.ireturn, 1) := by decide +kernel
theorem dX8_draft_62 : decode cX8_draft 62 = .ok (.aload_n 0, 1) := by decide +kernel
theorem dX8_draft_63 : decode cX8_draft 63 = .ok (.iload_n 1, 1) := by decide +kernel
theorem dX8_draft_64 : decode cX8_draft 64 = .ok (.invokevirtual 117, 3) := by decide +kernel
theorem dX8_draft_67 : decode cX8_draft 67 = .ok (.ireturn, 1) := by decide +kernel
theorem dX8_draft_68 : decode cX8_draft 68 = .ok (.aload_n 0, 1) := by decide +kernel
theorem dX8_draft_69 : decode cX8_draft 69 = .ok (.iload_n 1, 1) := by decide +kernel
theorem dX8_draft_70 : decode cX8_draft 70 = .ok (.invokevirtual 120, 3) := by decide +kernel
theorem dX8_draft_73 : decode cX8_draft 73 = .ok (.ireturn, 1) := by decide +kernel
theorem dX8_draft_74 : decode cX8_draft 74 = .ok (.aload_n 0, 1) := by decide +kernel
theorem dX8_draft_75 : decode cX8_draft 75 = .ok (.iload_n 1, 1) := by decide +kernel
theorem dX8_draft_76 : decode cX8_draft 76 = .ok (.invokevirtual 123, 3) := by decide +kernel
theorem dX8_draft_79 : decode cX8_draft 79 = .ok (.ireturn, 1) := by decide +kernel
theorem dX8_draft_80 : decode cX8_draft 80 = .ok (.aload_n 0, 1) := by decide +kernel
theorem dX8_draft_81 : decode cX8_draft 81 = .ok (.iload_n 1, 1) := by decide +kernel
theorem dX8_draft_82 : decode cX8_draft 82 = .ok (.invokevirtual 126, 3) := by decide +kernel
theorem dX8_draft_85 : decode cX8_draft 85 = .ok (.ireturn, 1) := by decide +kernel
theorem dX8_draft_86 : decode cX8_draft 86 = .ok (.aload_n 0, 1) := by decide +kernel
theorem dX8_draft_87 : decode cX8_draft 87 = .ok (.iload_n 1, 1) := by decide +kernel
theorem dX8_draft_88 : decode cX8_draft 88 = .ok (.invokevirtual 129, 3) := by decide +kernel
theorem dX8_draft_91 : decode cX8_draft 91 = .ok (.ireturn, 1) := by decide +kernel
theorem dX8_draft_92 : decode cX8_draft 92 = .ok (.aload_n 0, 1) := by decide +kernel
theorem dX8_draft_93 : decode cX8_draft 93 = .ok (.iload_n 1, 1) := by decide +kernel
theorem dX8_draft_94 : decode cX8_draft 94 = .ok (.invokevirtual 132, 3) := by decide +kernel
theorem dX8_draft_97 : decode cX8_draft 97 = .ok (.ireturn, 1) := by decide +kernel
theorem dX8_draft_98 : decode cX8_draft 98 = .ok (.bipush (-2), 2) := by decide +kernel
theorem dX8_draft_100 : decode cX8_draft 100 = .ok (.ireturn, 1) := by decide +kernel
set_option maxRecDepth 20000 in
theorem ggX8_press_X8_isDraft : GoodIn wsX8_press wsX8_isDraft := goodIn_r _ [4, 5, 6, 3, 7] (by decide +kernel) (by decide +kernel)
set_option maxRecDepth 20000 in
theorem gX8_press_X8_isDraft : GoodIn wsX8_press (va_wsS RX8 99 yX8_isDraft wsX8_isDraft) := goodIn_app (goodIn_of _ (by decide +kernel)) ggX8_press_X8_isDraft
set_option maxRecDepth 20000 in
theorem ggX8_press_X8_lengthOf : GoodIn wsX8_press wsX8_lengthOf := goodIn_r _ [11, 12, 17, 18, 19, 20, 21, 22, 23, 24, 25, 26, 27, 28, 29, 30, 31] (by decide +kernel) (by decide +kernel)
set_option maxRecDepth 20000 in
theorem gX8_press_X8_lengthOf : GoodIn wsX8_press (wsV RX8 59 RX8 yX8_lengthOf wsX8_lengthOf) := goodIn_app (goodIn_of _ (by decide +kernel)) ggX8_press_X8_lengthOf
set_option maxRecDepth 20000 in
theorem ggX8_press_X8_within : GoodIn wsX8_press wsX8_within := goodIn_r _ [7] (by decide +kernel) (by decide +kernel)
set_option maxRecDepth 20000 in
theorem gX8_press_X8_within : GoodIn wsX8_press (va_wsS RX8 40 yX8_within wsX8_within) := goodIn_app (goodIn_of _ (by decide +kernel)) ggX8_press_X8_within
set_option maxRecDepth 20000 in
theorem ggX8_press_X8_pressOf : GoodIn wsX8_press wsX8_pressOf := goodIn_r _ [16, 12, 17, 18, 19, 20, 21, 22, 23, 24, 25, 26, 27, 28, 29, 30, 31] (by decide +kernel) (by decide +kernel)
set_option maxRecDepth 20000 in
theorem gX8_press_X8_pressOf : GoodIn wsX8_press (wsV RX8 62 RX8 yX8_pressOf wsX8_pressOf) := goodIn_app (goodIn_of _ (by decide +kernel)) ggX8_press_X8_pressOf
theorem dX8_press_0 : decode cX8_press 0 = .ok (.iload_n 1, 1) := by decide +kernel
theorem dX8_press_1 : decode cX8_press 1 = .ok (.invokestatic 99, 3) := by decide +kernel
theorem dX8_press_4 : decode cX8_press 4 = .ok (.ifCond .eq 18, 3) := by decide +kernel
theorem dX8_press_7 : decode cX8_press 7 = .ok (.iload_n 2, 1) := by decide +kernel
theorem dX8_press_8 : decode cX8_press 8 = .ok (.iconst 0, 1) := by decide +kernel
theorem dX8_press_9 : decode cX8_press 9 = .ok (.aload_n 0, 1) := by decide +kernel
theorem dX8_press_10 : decode cX8_press 10 = .ok (.iload_n 1, 1) := by decide +kernel
theorem dX8_press_11 : decode cX8_press 11 = .ok (.invokevirtual 59, 3) := by decide +kernel
theorem dX8_press_14 : decode cX8_press 14 = .ok (.iconst 1, 1) := by decide +kernel
theorem dX8_press_15 : decode cX8_press 15 = .ok (.isub, 1) := by decide +kernel
theorem dX8_press_16 : decode cX8_press 16 = .ok (.invokestatic 40, 3) := by decide +kernel
theorem dX8_press_19 : decode cX8_press 19 = .ok (.ifCond .ne 5, 3) := by decide +kernel
theorem dX8_press_22 : decode cX8_press 22 = .ok (.iconst (-1), 1) := by decide +kernel
theorem dX8_press_23 : decode cX8_press 23 = .ok (.ireturn, 1) := by decide +kernel
theorem dX8_press_24 : decode cX8_press 24 = .ok (.aload_n 0, 1) := by decide +kernel
theorem dX8_press_25 : decode cX8_press 25 = .ok (.iload_n 1, 1) := by decide +kernel
theorem dX8_press_26 : decode cX8_press 26 = .ok (.iload_n 2, 1) := by decide +kernel
theorem dX8_press_27 : decode cX8_press 27 = .ok (.invokevirtual 62, 3) := by decide +kernel
theorem dX8_press_30 : decode cX8_press 30 = .ok (.ireturn, 1) := by decide +kernel
set_option maxRecDepth 20000 in
theorem ggX8_comesTo_X8_isDraft : GoodIn wsX8_comesTo wsX8_isDraft := goodIn_r _ [5, 6, 7, 4, 8] (by decide +kernel) (by decide +kernel)
set_option maxRecDepth 20000 in
theorem gX8_comesTo_X8_isDraft : GoodIn wsX8_comesTo (va_wsS RX8 99 yX8_isDraft wsX8_isDraft) := goodIn_app (goodIn_of _ (by decide +kernel)) ggX8_comesTo_X8_isDraft
set_option maxRecDepth 20000 in
theorem ggX8_comesTo_X8_isPlace : GoodIn wsX8_comesTo wsX8_isPlace := goodIn_r _ [11, 6, 7, 4, 8] (by decide +kernel) (by decide +kernel)
set_option maxRecDepth 20000 in
theorem gX8_comesTo_X8_isPlace : GoodIn wsX8_comesTo (va_wsS RX8 89 yX8_isPlace wsX8_isPlace) := goodIn_app (goodIn_of _ (by decide +kernel)) ggX8_comesTo_X8_isPlace
set_option maxRecDepth 20000 in
theorem ggX8_comesTo_X8_within : GoodIn wsX8_comesTo wsX8_within := goodIn_r _ [8] (by decide +kernel) (by decide +kernel)
set_option maxRecDepth 20000 in
theorem gX8_comesTo_X8_within : GoodIn wsX8_comesTo (va_wsS RX8 40 yX8_within wsX8_within) := goodIn_app (goodIn_of _ (by decide +kernel)) ggX8_comesTo_X8_within
set_option maxRecDepth 20000 in
theorem ggX8_comesTo_X8_lay : GoodIn wsX8_comesTo wsX8_lay := goodIn_r _ [15, 16, 17, 18, 19, 4, 20, 21, 22, 23, 24, 25, 26, 27, 28, 29, 30, 31, 32, 33, 42, 43, 44, 45, 46, 47, 48, 49, 50, 51, 52, 53, 54, 55, 56] (by decide +kernel) (by decide +kernel)
set_option maxRecDepth 20000 in
theorem gX8_comesTo_X8_lay : GoodIn wsX8_comesTo (wsV RX8 69 RX8 yX8_lay wsX8_lay) := goodIn_app (goodIn_of _ (by decide +kernel)) ggX8_comesTo_X8_lay
set_option maxRecDepth 20000 in
theorem ggX8_comesTo_X8_cycleOf : GoodIn wsX8_comesTo wsX8_cycleOf := goodIn_r _ [37, 38, 39, 40, 4, 41, 16, 42, 43, 44, 45, 46, 47, 48, 49, 50, 51, 52, 53, 54, 55, 56] (by decide +kernel) (by decide +kernel)
set_option maxRecDepth 20000 in
theorem gX8_comesTo_X8_cycleOf : GoodIn wsX8_comesTo (wsV RX8 76 RX8 yX8_cycleOf wsX8_cycleOf) := goodIn_app (goodIn_of _ (by decide +kernel)) ggX8_comesTo_X8_cycleOf
set_option maxRecDepth 20000 in
theorem ggX8_comesTo_X8_comesBy : GoodIn wsX8_comesTo wsX8_comesBy := goodIn_r _ [41, 16, 42, 43, 44, 45, 46, 47, 48, 49, 50, 51, 52, 53, 54, 55, 56] (by decide +kernel) (by decide +kernel)
set_option maxRecDepth 20000 in
theorem gX8_comesTo_X8_comesBy : GoodIn wsX8_comesTo (wsV RX8 73 RX8 yX8_comesBy wsX8_comesBy) := goodIn_app (goodIn_of _ (by decide +kernel)) ggX8_comesTo_X8_comesBy
theorem dX8_comesTo_0 : decode cX8_comesTo 0 = .ok (.iload_n 1, 1) := by decide +kernel
theorem dX8_comesTo_1 : decode cX8_comesTo 1 = .ok (.invokestatic 99, 3) := by decide +kernel
theorem dX8_comesTo_4 : decode cX8_comesTo 4 = .ok (.ifCond .eq 10, 3) := by decide +kernel
theorem dX8_comesTo_7 : decode cX8_comesTo 7 = .ok (.iload_n 2, 1) := by decide +kernel
theorem dX8_comesTo_8 : decode cX8_comesTo 8 = .ok (.invokestatic 89, 3) := by decide +kernel
theorem dX8_comesTo_11 : decode cX8_comesTo 11 = .ok (.ifCond .ne 5, 3) := by decide +kernel
theorem dX8_comesTo_14 : decode cX8_comesTo 14 = .ok (.iconst (-1), 1) := by decide +kernel
theorem dX8_comesTo_15 : decode cX8_comesTo 15 = .ok (.ireturn, 1) := by decide +kernel
theorem dX8_comesTo_16 : decode cX8_comesTo 16 = .ok (.iload_n 3, 1) := by decide +kernel
theorem dX8_comesTo_17 : decode cX8_comesTo 17 = .ok (.iconst 0, 1) := by decide +kernel
theorem dX8_comesTo_18 : decode cX8_comesTo 18 = .ok (.ldc 135, 2) := by decide +kernel
theorem dX8_comesTo_20 : decode cX8_comesTo 20 = .ok (.invokestatic 40, 3) := by decide +kernel
theorem dX8_comesTo_23 : decode cX8_comesTo 23 = .ok (.ifCond .ne 6, 3) := by decide +kernel
theorem dX8_comesTo_26 : decode cX8_comesTo 26 = .ok (.bipush (-2), 2) := by decide +kernel
theorem dX8_comesTo_28 : decode cX8_comesTo 28 = .ok (.ireturn, 1) := by decide +kernel
theorem dX8_comesTo_29 : decode cX8_comesTo 29 = .ok (.aload_n 0, 1) := by decide +kernel
theorem dX8_comesTo_30 : decode cX8_comesTo 30 = .ok (.iload_n 1, 1) := by decide +kernel
theorem dX8_comesTo_31 : decode cX8_comesTo 31 = .ok (.invokevirtual 69, 3) := by decide +kernel
theorem dX8_comesTo_34 : decode cX8_comesTo 34 = .ok (.iload_n 2, 1) := by decide +kernel
theorem dX8_comesTo_35 : decode cX8_comesTo 35 = .ok (.istore 4, 2) := by decide +kernel
theorem dX8_comesTo_37 : decode cX8_comesTo 37 = .ok (.iconst 0, 1) := by decide +kernel
theorem dX8_comesTo_38 : decode cX8_comesTo 38 = .ok (.istore 5, 2) := by decide +kernel
theorem dX8_comesTo_40 : decode cX8_comesTo 40 = .ok (.iload 5, 2) := by decide +kernel
theorem dX8_comesTo_42 : decode cX8_comesTo 42 = .ok (.iload_n 3, 1) := by decide +kernel
theorem dX8_comesTo_43 : decode cX8_comesTo 43 = .ok (.aload_n 0, 1) := by decide +kernel
theorem dX8_comesTo_44 : decode cX8_comesTo 44 = .ok (.iload_n 1, 1) := by decide +kernel
theorem dX8_comesTo_45 : decode cX8_comesTo 45 = .ok (.iload_n 2, 1) := by decide +kernel
theorem dX8_comesTo_46 : decode cX8_comesTo 46 = .ok (.invokevirtual 76, 3) := by decide +kernel
theorem dX8_comesTo_49 : decode cX8_comesTo 49 = .ok (.irem, 1) := by decide +kernel
theorem dX8_comesTo_50 : decode cX8_comesTo 50 = .ok (.if_icmp .ge 18, 3) := by decide +kernel
theorem dX8_comesTo_53 : decode cX8_comesTo 53 = .ok (.aload_n 0, 1) := by decide +kernel
theorem dX8_comesTo_54 : decode cX8_comesTo 54 = .ok (.iload_n 1, 1) := by decide +kernel
theorem dX8_comesTo_55 : decode cX8_comesTo 55 = .ok (.iload 4, 2) := by decide +kernel
theorem dX8_comesTo_57 : decode cX8_comesTo 57 = .ok (.invokevirtual 73, 3) := by decide +kernel
theorem dX8_comesTo_60 : decode cX8_comesTo 60 = .ok (.istore 4, 2) := by decide +kernel
theorem dX8_comesTo_62 : decode cX8_comesTo 62 = .ok (.iinc 5 1, 3) := by decide +kernel
theorem dX8_comesTo_65 : decode cX8_comesTo 65 = .ok (.goto (-25), 3) := by decide +kernel
theorem dX8_comesTo_68 : decode cX8_comesTo 68 = .ok (.iload 4, 2) := by decide +kernel
theorem dX8_comesTo_70 : decode cX8_comesTo 70 = .ok (.ireturn, 1) := by decide +kernel
set_option maxRecDepth 20000 in
theorem ggX8_neverRaised_X8_raising : GoodIn wsX8_neverRaised wsX8_raising := goodIn_r _ [5, 6, 7, 8, 4, 9, 10, 11, 12, 13, 14, 15, 16, 17, 18, 19, 20, 21, 22, 23, 24, 25] (by decide +kernel) (by decide +kernel)
set_option maxRecDepth 20000 in
theorem gX8_neverRaised_X8_raising : GoodIn wsX8_neverRaised (wsV RX8 114 RX8 yX8_raising wsX8_raising) := goodIn_app (goodIn_of _ (by decide +kernel)) ggX8_neverRaised_X8_raising
theorem dX8_neverRaised_0 : decode cX8_neverRaised 0 = .ok (.iconst 0, 1) := by decide +kernel
theorem dX8_neverRaised_1 : decode cX8_neverRaised 1 = .ok (.istore_n 1, 1) := by decide +kernel
theorem dX8_neverRaised_2 : decode cX8_neverRaised 2 = .ok (.iconst 0, 1) := by decide +kernel
theorem dX8_neverRaised_3 : decode cX8_neverRaised 3 = .ok (.istore_n 2, 1) := by decide +kernel
theorem dX8_neverRaised_4 : decode cX8_neverRaised 4 = .ok (.iload_n 2, 1) := by decide +kernel
theorem dX8_neverRaised_5 : decode cX8_neverRaised 5 = .ok (.bipush 12, 2) := by decide +kernel
theorem dX8_neverRaised_7 : decode cX8_neverRaised 7 = .ok (.if_icmp .ge 27, 3) := by decide +kernel
theorem dX8_neverRaised_10 : decode cX8_neverRaised 10 = .ok (.iload_n 1, 1) := by decide +kernel
theorem dX8_neverRaised_11 : decode cX8_neverRaised 11 = .ok (.aload_n 0, 1) := by decide +kernel
theorem dX8_neverRaised_12 : decode cX8_neverRaised 12 = .ok (.iload_n 2, 1) := by decide +kernel
theorem dX8_neverRaised_13 : decode cX8_neverRaised 13 = .ok (.invokevirtual 114, 3) := by decide +kernel
theorem dX8_neverRaised_16 : decode cX8_neverRaised 16 = .ok (.ifCond .ne 9, 3) := by decide +kernel
theorem dX8_neverRaised_19 : decode cX8_neverRaised 19 = .ok (.iconst 1, 1) := by decide +kernel
theorem dX8_neverRaised_20 : decode cX8_neverRaised 20 = .ok (.iload_n 2, 1) := by decide +kernel
theorem dX8_neverRaised_21 : decode cX8_neverRaised 21 = .ok (.ishl, 1) := by decide +kernel
theorem dX8_neverRaised_22 : decode cX8_neverRaised 22 = .ok (.goto 4, 3) := by decide +kernel
theorem dX8_neverRaised_25 : decode cX8_neverRaised 25 = .ok (.iconst 0, 1) := by decide +kernel
theorem dX8_neverRaised_26 : decode cX8_neverRaised 26 = .ok (.ior, 1) := by decide +kernel
theorem dX8_neverRaised_27 : decode cX8_neverRaised 27 = .ok (.istore_n 1, 1) := by decide +kernel
theorem dX8_neverRaised_28 : decode cX8_neverRaised 28 = .ok (.iinc 2 1, 3) := by decide +kernel
theorem dX8_neverRaised_31 : decode cX8_neverRaised 31 = .ok (.goto (-27), 3) := by decide +kernel
theorem dX8_neverRaised_34 : decode cX8_neverRaised 34 = .ok (.iload_n 1, 1) := by decide +kernel
theorem dX8_neverRaised_35 : decode cX8_neverRaised 35 = .ok (.ireturn, 1) := by decide +kernel
set_option maxRecDepth 20000 in
theorem ggX8_pressedDrafts_X8_lengthOf : GoodIn wsX8_pressedDrafts wsX8_lengthOf := goodIn_r _ [5, 6, 7, 8, 9, 10, 11, 12, 13, 14, 15, 16, 17, 18, 19, 20, 21] (by decide +kernel) (by decide +kernel)
set_option maxRecDepth 20000 in
theorem gX8_pressedDrafts_X8_lengthOf : GoodIn wsX8_pressedDrafts (wsV RX8 59 RX8 yX8_lengthOf wsX8_lengthOf) := goodIn_app (goodIn_of _ (by decide +kernel)) ggX8_pressedDrafts_X8_lengthOf
theorem dX8_pressedDrafts_0 : decode cX8_pressedDrafts 0 = .ok (.iconst 0, 1) := by decide +kernel
theorem dX8_pressedDrafts_1 : decode cX8_pressedDrafts 1 = .ok (.istore_n 1, 1) := by decide +kernel
theorem dX8_pressedDrafts_2 : decode cX8_pressedDrafts 2 = .ok (.iconst 0, 1) := by decide +kernel
theorem dX8_pressedDrafts_3 : decode cX8_pressedDrafts 3 = .ok (.istore_n 2, 1) := by decide +kernel
theorem dX8_pressedDrafts_4 : decode cX8_pressedDrafts 4 = .ok (.iload_n 2, 1) := by decide +kernel
theorem dX8_pressedDrafts_5 : decode cX8_pressedDrafts 5 = .ok (.bipush 6, 2) := by decide +kernel
theorem dX8_pressedDrafts_7 : decode cX8_pressedDrafts 7 = .ok (.if_icmp .ge 27, 3) := by decide +kernel
theorem dX8_pressedDrafts_10 : decode cX8_pressedDrafts 10 = .ok (.iload_n 1, 1) := by decide +kernel
theorem dX8_pressedDrafts_11 : decode cX8_pressedDrafts 11 = .ok (.aload_n 0, 1) := by decide +kernel
theorem dX8_pressedDrafts_12 : decode cX8_pressedDrafts 12 = .ok (.iload_n 2, 1) := by decide +kernel
theorem dX8_pressedDrafts_13 : decode cX8_pressedDrafts 13 = .ok (.invokevirtual 59, 3) := by decide +kernel
theorem dX8_pressedDrafts_16 : decode cX8_pressedDrafts 16 = .ok (.ifCond .le 9, 3) := by decide +kernel
theorem dX8_pressedDrafts_19 : decode cX8_pressedDrafts 19 = .ok (.iconst 1, 1) := by decide +kernel
theorem dX8_pressedDrafts_20 : decode cX8_pressedDrafts 20 = .ok (.iload_n 2, 1) := by decide +kernel
theorem dX8_pressedDrafts_21 : decode cX8_pressedDrafts 21 = .ok (.ishl, 1) := by decide +kernel
theorem dX8_pressedDrafts_22 : decode cX8_pressedDrafts 22 = .ok (.goto 4, 3) := by decide +kernel
theorem dX8_pressedDrafts_25 : decode cX8_pressedDrafts 25 = .ok (.iconst 0, 1) := by decide +kernel
theorem dX8_pressedDrafts_26 : decode cX8_pressedDrafts 26 = .ok (.ior, 1) := by decide +kernel
theorem dX8_pressedDrafts_27 : decode cX8_pressedDrafts 27 = .ok (.istore_n 1, 1) := by decide +kernel
theorem dX8_pressedDrafts_28 : decode cX8_pressedDrafts 28 = .ok (.iinc 2 1, 3) := by decide +kernel
theorem dX8_pressedDrafts_31 : decode cX8_pressedDrafts 31 = .ok (.goto (-27), 3) := by decide +kernel
theorem dX8_pressedDrafts_34 : decode cX8_pressedDrafts 34 = .ok (.iload_n 1, 1) := by decide +kernel
theorem dX8_pressedDrafts_35 : decode cX8_pressedDrafts 35 = .ok (.ireturn, 1) := by decide +kernel
set_option maxRecDepth 20000 in
theorem ggX8_count_X8_atHome : GoodIn wsX8_count wsX8_atHome := goodIn_r _ [8, 1, 29, 30, 31, 32, 33, 34, 35, 36, 37, 38, 39, 40, 41, 42, 43] (by decide +kernel) (by decide +kernel)
set_option maxRecDepth 20000 in
theorem gX8_count_X8_atHome : GoodIn wsX8_count (wsV RX8 48 RX8 yX8_atHome wsX8_atHome) := goodIn_app (goodIn_of _ (by decide +kernel)) ggX8_count_X8_atHome
set_option maxRecDepth 20000 in
theorem ggX8_count_X8_neverRaised : GoodIn wsX8_count wsX8_neverRaised := goodIn_r _ [12, 13, 14, 15, 7, 16, 17, 18, 19, 20, 1, 29, 30, 31, 32, 33, 34, 35, 36, 37, 38, 39, 40, 41, 42, 43] (by decide +kernel) (by decide +kernel)
set_option maxRecDepth 20000 in
theorem gX8_count_X8_neverRaised : GoodIn wsX8_count (wsV RX8 136 RX8 yX8_neverRaised wsX8_neverRaised) := goodIn_app (goodIn_of _ (by decide +kernel)) ggX8_count_X8_neverRaised
set_option maxRecDepth 20000 in
theorem ggX8_count_X8_pressedDrafts : GoodIn wsX8_count wsX8_pressedDrafts := goodIn_r _ [24, 25, 26, 27, 7, 28, 1, 29, 30, 31, 32, 33, 34, 35, 36, 37, 38, 39, 40, 41, 42, 43] (by decide +kernel) (by decide +kernel)
set_option maxRecDepth 20000 in
theorem gX8_count_X8_pressedDrafts : GoodIn wsX8_count (wsV RX8 139 RX8 yX8_pressedDrafts wsX8_pressedDrafts) := goodIn_app (goodIn_of _ (by decide +kernel)) ggX8_count_X8_pressedDrafts
theorem dX8_count_0 : decode cX8_count 0 = .ok (.iload_n 1, 1) := by decide +kernel
theorem dX8_count_1 : decode cX8_count 1 = .ok (.tableswitch 86 0 6 #[43, 48, 57, 66, 71, 76, 81], 43) := by decide +kernel
theorem dX8_count_44 : decode cX8_count 44 = .ok (.aload_n 0, 1) := by decide +kernel
theorem dX8_count_45 : decode cX8_count 45 = .ok (.invokevirtual 48, 3) := by decide +kernel
theorem dX8_count_48 : decode cX8_count 48 = .ok (.ireturn, 1) := by decide +kernel
theorem dX8_count_49 : decode cX8_count 49 = .ok (.aload_n 0, 1) := by decide +kernel
theorem dX8_count_50 : decode cX8_count 50 = .ok (.getfield 7, 3) := by decide +kernel
theorem dX8_count_53 : decode cX8_count 53 = .ok (.sipush 192, 3) := by decide +kernel
theorem dX8_count_56 : decode cX8_count 56 = .ok (.iaload, 1) := by decide +kernel
theorem dX8_count_57 : decode cX8_count 57 = .ok (.ireturn, 1) := by decide +kernel
theorem dX8_count_58 : decode cX8_count 58 = .ok (.aload_n 0, 1) := by decide +kernel
theorem dX8_count_59 : decode cX8_count 59 = .ok (.getfield 7, 3) := by decide +kernel
theorem dX8_count_62 : decode cX8_count 62 = .ok (.sipush 193, 3) := by decide +kernel
theorem dX8_count_65 : decode cX8_count 65 = .ok (.iaload, 1) := by decide +kernel
theorem dX8_count_66 : decode cX8_count 66 = .ok (.ireturn, 1) := by decide +kernel
theorem dX8_count_67 : decode cX8_count 67 = .ok (.aload_n 0, 1) := by decide +kernel
theorem dX8_count_68 : decode cX8_count 68 = .ok (.invokevirtual 136, 3) := by decide +kernel
theorem dX8_count_71 : decode cX8_count 71 = .ok (.ireturn, 1) := by decide +kernel
theorem dX8_count_72 : decode cX8_count 72 = .ok (.aload_n 0, 1) := by decide +kernel
theorem dX8_count_73 : decode cX8_count 73 = .ok (.invokevirtual 139, 3) := by decide +kernel
theorem dX8_count_76 : decode cX8_count 76 = .ok (.ireturn, 1) := by decide +kernel
theorem dX8_count_77 : decode cX8_count 77 = .ok (.aload_n 0, 1) := by decide +kernel
theorem dX8_count_78 : decode cX8_count 78 = .ok (.getfield 105, 3) := by decide +kernel
theorem dX8_count_81 : decode cX8_count 81 = .ok (.ireturn, 1) := by decide +kernel
theorem dX8_count_82 : decode cX8_count 82 = .ok (.aload_n 0, 1) := by decide +kernel
theorem dX8_count_83 : decode cX8_count 83 = .ok (.getfield 44, 3) := by decide +kernel
theorem dX8_count_86 : decode cX8_count 86 = .ok (.ireturn, 1) := by decide +kernel
theorem dX8_count_87 : decode cX8_count 87 = .ok (.bipush (-2), 2) := by decide +kernel
theorem dX8_count_89 : decode cX8_count 89 = .ok (.ireturn, 1) := by decide +kernel
set_option maxRecDepth 20000 in
theorem ggX8_kernel_X8_areDrafts : GoodIn wsX8_kernel wsX8_areDrafts := goodIn_r _ [4, 5, 6, 3, 7] (by decide +kernel) (by decide +kernel)
set_option maxRecDepth 20000 in
theorem gX8_kernel_X8_areDrafts : GoodIn wsX8_kernel (va_wsS RX8 142 yX8_areDrafts wsX8_areDrafts) := goodIn_app (goodIn_of _ (by decide +kernel)) ggX8_kernel_X8_areDrafts
set_option maxRecDepth 20000 in
theorem ggX8_kernel_X8_layAll : GoodIn wsX8_kernel wsX8_layAll := goodIn_r _ [11, 12, 13, 14, 3, 15, 16, 17, 18, 19, 20, 21, 22, 23, 24, 25, 26, 27, 28, 29, 30, 31, 32, 33, 42, 43, 44, 45, 46, 47, 48, 49, 50, 51, 52, 53, 54, 55, 56] (by decide +kernel) (by decide +kernel)
set_option maxRecDepth 20000 in
theorem gX8_kernel_X8_layAll : GoodIn wsX8_kernel (wsV RX8 145 RX8 yX8_layAll wsX8_layAll) := goodIn_app (goodIn_of _ (by decide +kernel)) ggX8_kernel_X8_layAll
set_option maxRecDepth 20000 in
theorem ggX8_kernel_X8_stays : GoodIn wsX8_kernel wsX8_stays := goodIn_r _ [37, 38, 39, 40, 3, 41, 16, 42, 43, 44, 45, 46, 47, 48, 49, 50, 51, 52, 53, 54, 55, 56] (by decide +kernel) (by decide +kernel)
set_option maxRecDepth 20000 in
theorem gX8_kernel_X8_stays : GoodIn wsX8_kernel (wsV RX8 120 RX8 yX8_stays wsX8_stays) := goodIn_app (goodIn_of _ (by decide +kernel)) ggX8_kernel_X8_stays
