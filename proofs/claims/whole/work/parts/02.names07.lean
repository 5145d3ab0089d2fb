theorem dX8_kernel_0 : decode cX8_kernel 0 = .ok (.iload_n 1, 1) := by decide +kernel
theorem dX8_kernel_1 : decode cX8_kernel 1 = .ok (.invokestatic 142, 3) := by decide +kernel
theorem dX8_kernel_4 : decode cX8_kernel 4 = .ok (.ifCond .ne 6, 3) := by decide +kernel
theorem dX8_kernel_7 : decode cX8_kernel 7 = .ok (.bipush (-2), 2) := by decide +kernel
theorem dX8_kernel_9 : decode cX8_kernel 9 = .ok (.ireturn, 1) := by decide +kernel
theorem dX8_kernel_10 : decode cX8_kernel 10 = .ok (.aload_n 0, 1) := by decide +kernel
theorem dX8_kernel_11 : decode cX8_kernel 11 = .ok (.invokevirtual 145, 3) := by decide +kernel
theorem dX8_kernel_14 : decode cX8_kernel 14 = .ok (.sipush 4095, 3) := by decide +kernel
theorem dX8_kernel_17 : decode cX8_kernel 17 = .ok (.istore_n 2, 1) := by decide +kernel
theorem dX8_kernel_18 : decode cX8_kernel 18 = .ok (.iconst 0, 1) := by decide +kernel
theorem dX8_kernel_19 : decode cX8_kernel 19 = .ok (.istore_n 3, 1) := by decide +kernel
theorem dX8_kernel_20 : decode cX8_kernel 20 = .ok (.iload_n 3, 1) := by decide +kernel
theorem dX8_kernel_21 : decode cX8_kernel 21 = .ok (.bipush 6, 2) := by decide +kernel
theorem dX8_kernel_23 : decode cX8_kernel 23 = .ok (.if_icmp .ge 30, 3) := by decide +kernel
theorem dX8_kernel_26 : decode cX8_kernel 26 = .ok (.iload_n 2, 1) := by decide +kernel
theorem dX8_kernel_27 : decode cX8_kernel 27 = .ok (.iload_n 1, 1) := by decide +kernel
theorem dX8_kernel_28 : decode cX8_kernel 28 = .ok (.iload_n 3, 1) := by decide +kernel
theorem dX8_kernel_29 : decode cX8_kernel 29 = .ok (.ishr, 1) := by decide +kernel
theorem dX8_kernel_30 : decode cX8_kernel 30 = .ok (.iconst 1, 1) := by decide +kernel
theorem dX8_kernel_31 : decode cX8_kernel 31 = .ok (.iand, 1) := by decide +kernel
theorem dX8_kernel_32 : decode cX8_kernel 32 = .ok (.iconst 1, 1) := by decide +kernel
theorem dX8_kernel_33 : decode cX8_kernel 33 = .ok (.if_icmp .ne 11, 3) := by decide +kernel
theorem dX8_kernel_36 : decode cX8_kernel 36 = .ok (.aload_n 0, 1) := by decide +kernel
theorem dX8_kernel_37 : decode cX8_kernel 37 = .ok (.iload_n 3, 1) := by decide +kernel
theorem dX8_kernel_38 : decode cX8_kernel 38 = .ok (.invokevirtual 120, 3) := by decide +kernel
theorem dX8_kernel_41 : decode cX8_kernel 41 = .ok (.goto 4, 3) := by decide +kernel
theorem dX8_kernel_44 : decode cX8_kernel 44 = .ok (.iload_n 2, 1) := by decide +kernel
theorem dX8_kernel_45 : decode cX8_kernel 45 = .ok (.iand, 1) := by decide +kernel
theorem dX8_kernel_46 : decode cX8_kernel 46 = .ok (.istore_n 2, 1) := by decide +kernel
theorem dX8_kernel_47 : decode cX8_kernel 47 = .ok (.iinc 3 1, 3) := by decide +kernel
theorem dX8_kernel_50 : decode cX8_kernel 50 = .ok (.goto (-30), 3) := by decide +kernel
theorem dX8_kernel_53 : decode cX8_kernel 53 = .ok (.iload_n 2, 1) := by decide +kernel
theorem dX8_kernel_54 : decode cX8_kernel 54 = .ok (.ireturn, 1) := by decide +kernel
set_option maxRecDepth 20000 in
theorem ggX8_orbit_X8_isPlace : GoodIn wsX8_orbit wsX8_isPlace := goodIn_r _ [5, 6, 7, 4, 8] (by decide +kernel) (by decide +kernel)
set_option maxRecDepth 20000 in
theorem gX8_orbit_X8_isPlace : GoodIn wsX8_orbit (va_wsS RX8 89 yX8_isPlace wsX8_isPlace) := goodIn_app (goodIn_of _ (by decide +kernel)) ggX8_orbit_X8_isPlace
set_option maxRecDepth 20000 in
theorem ggX8_orbit_X8_areDrafts : GoodIn wsX8_orbit wsX8_areDrafts := goodIn_r _ [11, 6, 7, 4, 8] (by decide +kernel) (by decide +kernel)
set_option maxRecDepth 20000 in
theorem gX8_orbit_X8_areDrafts : GoodIn wsX8_orbit (va_wsS RX8 142 yX8_areDrafts wsX8_areDrafts) := goodIn_app (goodIn_of _ (by decide +kernel)) ggX8_orbit_X8_areDrafts
set_option maxRecDepth 20000 in
theorem ggX8_orbit_X8_layAll : GoodIn wsX8_orbit wsX8_layAll := goodIn_r _ [15, 16, 17, 18, 4, 19, 1, 20, 21, 22, 23, 24, 25, 26, 27, 28, 29, 30, 31, 32, 33, 34, 35, 36, 37, 38, 39, 40, 41, 42, 43, 44, 45, 46, 47, 48, 49, 50, 51] (by decide +kernel) (by decide +kernel)
set_option maxRecDepth 20000 in
theorem gX8_orbit_X8_layAll : GoodIn wsX8_orbit (wsV RX8 145 RX8 yX8_layAll wsX8_layAll) := goodIn_app (goodIn_of _ (by decide +kernel)) ggX8_orbit_X8_layAll
theorem dX8_orbit_0 : decode cX8_orbit 0 = .ok (.iload_n 2, 1) := by decide +kernel
theorem dX8_orbit_1 : decode cX8_orbit 1 = .ok (.invokestatic 89, 3) := by decide +kernel
theorem dX8_orbit_4 : decode cX8_orbit 4 = .ok (.ifCond .ne 5, 3) := by decide +kernel
theorem dX8_orbit_7 : decode cX8_orbit 7 = .ok (.iconst (-1), 1) := by decide +kernel
theorem dX8_orbit_8 : decode cX8_orbit 8 = .ok (.ireturn, 1) := by decide +kernel
theorem dX8_orbit_9 : decode cX8_orbit 9 = .ok (.iload_n 1, 1) := by decide +kernel
theorem dX8_orbit_10 : decode cX8_orbit 10 = .ok (.invokestatic 142, 3) := by decide +kernel
theorem dX8_orbit_13 : decode cX8_orbit 13 = .ok (.ifCond .ne 6, 3) := by decide +kernel
theorem dX8_orbit_16 : decode cX8_orbit 16 = .ok (.bipush (-2), 2) := by decide +kernel
theorem dX8_orbit_18 : decode cX8_orbit 18 = .ok (.ireturn, 1) := by decide +kernel
theorem dX8_orbit_19 : decode cX8_orbit 19 = .ok (.aload_n 0, 1) := by decide +kernel
theorem dX8_orbit_20 : decode cX8_orbit 20 = .ok (.invokevirtual 145, 3) := by decide +kernel
theorem dX8_orbit_23 : decode cX8_orbit 23 = .ok (.iconst 1, 1) := by decide +kernel
theorem dX8_orbit_24 : decode cX8_orbit 24 = .ok (.iload_n 2, 1) := by decide +kernel
theorem dX8_orbit_25 : decode cX8_orbit 25 = .ok (.ishl, 1) := by decide +kernel
theorem dX8_orbit_26 : decode cX8_orbit 26 = .ok (.istore_n 3, 1) := by decide +kernel
theorem dX8_orbit_27 : decode cX8_orbit 27 = .ok (.iconst 0, 1) := by decide +kernel
theorem dX8_orbit_28 : decode cX8_orbit 28 = .ok (.istore 4, 2) := by decide +kernel
theorem dX8_orbit_30 : decode cX8_orbit 30 = .ok (.iload 4, 2) := by decide +kernel
theorem dX8_orbit_32 : decode cX8_orbit 32 = .ok (.bipush 12, 2) := by decide +kernel
theorem dX8_orbit_34 : decode cX8_orbit 34 = .ok (.if_icmp .ge 79, 3) := by decide +kernel
theorem dX8_orbit_37 : decode cX8_orbit 37 = .ok (.iconst 0, 1) := by decide +kernel
theorem dX8_orbit_38 : decode cX8_orbit 38 = .ok (.istore 5, 2) := by decide +kernel
theorem dX8_orbit_40 : decode cX8_orbit 40 = .ok (.iload 5, 2) := by decide +kernel
theorem dX8_orbit_42 : decode cX8_orbit 42 = .ok (.bipush 72, 2) := by decide +kernel
theorem dX8_orbit_44 : decode cX8_orbit 44 = .ok (.if_icmp .ge 63, 3) := by decide +kernel
theorem dX8_orbit_47 : decode cX8_orbit 47 = .ok (.iload_n 3, 1) := by decide +kernel
theorem dX8_orbit_48 : decode cX8_orbit 48 = .ok (.iload 5, 2) := by decide +kernel
theorem dX8_orbit_50 : decode cX8_orbit 50 = .ok (.bipush 12, 2) := by decide +kernel
theorem dX8_orbit_52 : decode cX8_orbit 52 = .ok (.irem, 1) := by decide +kernel
theorem dX8_orbit_53 : decode cX8_orbit 53 = .ok (.ishr, 1) := by decide +kernel
theorem dX8_orbit_54 : decode cX8_orbit 54 = .ok (.iconst 1, 1) := by decide +kernel
theorem dX8_orbit_55 : decode cX8_orbit 55 = .ok (.iand, 1) := by decide +kernel
theorem dX8_orbit_56 : decode cX8_orbit 56 = .ok (.iconst 1, 1) := by decide +kernel
theorem dX8_orbit_57 : decode cX8_orbit 57 = .ok (.if_icmp .ne 20, 3) := by decide +kernel
theorem dX8_orbit_60 : decode cX8_orbit 60 = .ok (.iload_n 1, 1) := by decide +kernel
theorem dX8_orbit_61 : decode cX8_orbit 61 = .ok (.iload 5, 2) := by decide +kernel
theorem dX8_orbit_63 : decode cX8_orbit 63 = .ok (.bipush 12, 2) := by decide +kernel
theorem dX8_orbit_65 : decode cX8_orbit 65 = .ok (.idiv, 1) := by decide +kernel
theorem dX8_orbit_66 : decode cX8_orbit 66 = .ok (.ishr, 1) := by decide +kernel
theorem dX8_orbit_67 : decode cX8_orbit 67 = .ok (.iconst 1, 1) := by decide +kernel
theorem dX8_orbit_68 : decode cX8_orbit 68 = .ok (.iand, 1) := by decide +kernel
theorem dX8_orbit_69 : decode cX8_orbit 69 = .ok (.iconst 1, 1) := by decide +kernel
theorem dX8_orbit_70 : decode cX8_orbit 70 = .ok (.if_icmp .ne 7, 3) := by decide +kernel
theorem dX8_orbit_73 : decode cX8_orbit 73 = .ok (.iconst 1, 1) := by decide +kernel
theorem dX8_orbit_74 : decode cX8_orbit 74 = .ok (.goto 4, 3) := by decide +kernel
theorem dX8_orbit_77 : decode cX8_orbit 77 = .ok (.iconst 0, 1) := by decide +kernel
theorem dX8_orbit_78 : decode cX8_orbit 78 = .ok (.istore 6, 2) := by decide +kernel
theorem dX8_orbit_80 : decode cX8_orbit 80 = .ok (.iload_n 3, 1) := by decide +kernel
theorem dX8_orbit_81 : decode cX8_orbit 81 = .ok (.iload 6, 2) := by decide +kernel
theorem dX8_orbit_83 : decode cX8_orbit 83 = .ok (.ifCond .eq 15, 3) := by decide +kernel
theorem dX8_orbit_86 : decode cX8_orbit 86 = .ok (.iconst 1, 1) := by decide +kernel
theorem dX8_orbit_87 : decode cX8_orbit 87 = .ok (.aload_n 0, 1) := by decide +kernel
theorem dX8_orbit_88 : decode cX8_orbit 88 = .ok (.getfield 28, 3) := by decide +kernel
theorem dX8_orbit_91 : decode cX8_orbit 91 = .ok (.iload 5, 2) := by decide +kernel
theorem dX8_orbit_93 : decode cX8_orbit 93 = .ok (.iaload, 1) := by decide +kernel
theorem dX8_orbit_94 : decode cX8_orbit 94 = .ok (.ishl, 1) := by decide +kernel
theorem dX8_orbit_95 : decode cX8_orbit 95 = .ok (.goto 4, 3) := by decide +kernel
theorem dX8_orbit_98 : decode cX8_orbit 98 = .ok (.iconst 0, 1) := by decide +kernel
theorem dX8_orbit_99 : decode cX8_orbit 99 = .ok (.ior, 1) := by decide +kernel
theorem dX8_orbit_100 : decode cX8_orbit 100 = .ok (.istore_n 3, 1) := by decide +kernel
theorem dX8_orbit_101 : decode cX8_orbit 101 = .ok (.iinc 5 1, 3) := by decide +kernel
theorem dX8_orbit_104 : decode cX8_orbit 104 = .ok (.goto (-64), 3) := by decide +kernel
theorem dX8_orbit_107 : decode cX8_orbit 107 = .ok (.iinc 4 1, 3) := by decide +kernel
theorem dX8_orbit_110 : decode cX8_orbit 110 = .ok (.goto (-80), 3) := by decide +kernel
theorem dX8_orbit_113 : decode cX8_orbit 113 = .ok (.iload_n 3, 1) := by decide +kernel
theorem dX8_orbit_114 : decode cX8_orbit 114 = .ok (.ireturn, 1) := by decide +kernel
set_option maxRecDepth 20000 in
theorem ggX8_unlike_X8_comesBy : GoodIn wsX8_unlike wsX8_comesBy := goodIn_r _ [5, 6, 7, 8, 9, 10, 11, 12, 13, 14, 15, 16, 17, 18, 19, 20, 21] (by decide +kernel) (by decide +kernel)
set_option maxRecDepth 20000 in
theorem gX8_unlike_X8_comesBy : GoodIn wsX8_unlike (wsV RX8 73 RX8 yX8_comesBy wsX8_comesBy) := goodIn_app (goodIn_of _ (by decide +kernel)) ggX8_unlike_X8_comesBy
theorem dX8_unlike_0 : decode cX8_unlike 0 = .ok (.iconst 0, 1) := by decide +kernel
theorem dX8_unlike_1 : decode cX8_unlike 1 = .ok (.istore 4, 2) := by decide +kernel
theorem dX8_unlike_3 : decode cX8_unlike 3 = .ok (.iconst 0, 1) := by decide +kernel
theorem dX8_unlike_4 : decode cX8_unlike 4 = .ok (.istore 5, 2) := by decide +kernel
theorem dX8_unlike_6 : decode cX8_unlike 6 = .ok (.iload 5, 2) := by decide +kernel
theorem dX8_unlike_8 : decode cX8_unlike 8 = .ok (.bipush 12, 2) := by decide +kernel
theorem dX8_unlike_10 : decode cX8_unlike 10 = .ok (.if_icmp .ge 94, 3) := by decide +kernel
theorem dX8_unlike_13 : decode cX8_unlike 13 = .ok (.aload_n 0, 1) := by decide +kernel
theorem dX8_unlike_14 : decode cX8_unlike 14 = .ok (.iload_n 1, 1) := by decide +kernel
theorem dX8_unlike_15 : decode cX8_unlike 15 = .ok (.iload 5, 2) := by decide +kernel
theorem dX8_unlike_17 : decode cX8_unlike 17 = .ok (.invokevirtual 73, 3) := by decide +kernel
theorem dX8_unlike_20 : decode cX8_unlike 20 = .ok (.istore 6, 2) := by decide +kernel
theorem dX8_unlike_22 : decode cX8_unlike 22 = .ok (.iload_n 3, 1) := by decide +kernel
theorem dX8_unlike_23 : decode cX8_unlike 23 = .ok (.iconst 2, 1) := by decide +kernel
theorem dX8_unlike_24 : decode cX8_unlike 24 = .ok (.if_icmp .ne 8, 3) := by decide +kernel
theorem dX8_unlike_27 : decode cX8_unlike 27 = .ok (.iload 5, 2) := by decide +kernel
theorem dX8_unlike_29 : decode cX8_unlike 29 = .ok (.goto 10, 3) := by decide +kernel
theorem dX8_unlike_32 : decode cX8_unlike 32 = .ok (.aload_n 0, 1) := by decide +kernel
theorem dX8_unlike_33 : decode cX8_unlike 33 = .ok (.iload_n 2, 1) := by decide +kernel
theorem dX8_unlike_34 : decode cX8_unlike 34 = .ok (.iload 5, 2) := by decide +kernel
theorem dX8_unlike_36 : decode cX8_unlike 36 = .ok (.invokevirtual 73, 3) := by decide +kernel
theorem dX8_unlike_39 : decode cX8_unlike 39 = .ok (.istore 7, 2) := by decide +kernel
theorem dX8_unlike_41 : decode cX8_unlike 41 = .ok (.iload_n 3, 1) := by decide +kernel
theorem dX8_unlike_42 : decode cX8_unlike 42 = .ok (.ifCond .ne 8, 3) := by decide +kernel
theorem dX8_unlike_45 : decode cX8_unlike 45 = .ok (.iload 6, 2) := by decide +kernel
theorem dX8_unlike_47 : decode cX8_unlike 47 = .ok (.goto 10, 3) := by decide +kernel
theorem dX8_unlike_50 : decode cX8_unlike 50 = .ok (.aload_n 0, 1) := by decide +kernel
theorem dX8_unlike_51 : decode cX8_unlike 51 = .ok (.iload_n 2, 1) := by decide +kernel
theorem dX8_unlike_52 : decode cX8_unlike 52 = .ok (.iload 6, 2) := by decide +kernel
theorem dX8_unlike_54 : decode cX8_unlike 54 = .ok (.invokevirtual 73, 3) := by decide +kernel
theorem dX8_unlike_57 : decode cX8_unlike 57 = .ok (.istore 6, 2) := by decide +kernel
theorem dX8_unlike_59 : decode cX8_unlike 59 = .ok (.iload_n 3, 1) := by decide +kernel
theorem dX8_unlike_60 : decode cX8_unlike 60 = .ok (.iconst 1, 1) := by decide +kernel
theorem dX8_unlike_61 : decode cX8_unlike 61 = .ok (.if_icmp .ne 13, 3) := by decide +kernel
theorem dX8_unlike_64 : decode cX8_unlike 64 = .ok (.aload_n 0, 1) := by decide +kernel
theorem dX8_unlike_65 : decode cX8_unlike 65 = .ok (.iload_n 1, 1) := by decide +kernel
theorem dX8_unlike_66 : decode cX8_unlike 66 = .ok (.iload 7, 2) := by decide +kernel
theorem dX8_unlike_68 : decode cX8_unlike 68 = .ok (.invokevirtual 73, 3) := by decide +kernel
theorem dX8_unlike_71 : decode cX8_unlike 71 = .ok (.goto 5, 3) := by decide +kernel
theorem dX8_unlike_74 : decode cX8_unlike 74 = .ok (.iload 7, 2) := by decide +kernel
theorem dX8_unlike_76 : decode cX8_unlike 76 = .ok (.istore 7, 2) := by decide +kernel
theorem dX8_unlike_78 : decode cX8_unlike 78 = .ok (.iload 4, 2) := by decide +kernel
theorem dX8_unlike_80 : decode cX8_unlike 80 = .ok (.iload 6, 2) := by decide +kernel
theorem dX8_unlike_82 : decode cX8_unlike 82 = .ok (.iload 7, 2) := by decide +kernel
theorem dX8_unlike_84 : decode cX8_unlike 84 = .ok (.if_icmp .ne 7, 3) := by decide +kernel
theorem dX8_unlike_87 : decode cX8_unlike 87 = .ok (.iconst 0, 1) := by decide +kernel
theorem dX8_unlike_88 : decode cX8_unlike 88 = .ok (.goto 7, 3) := by decide +kernel
theorem dX8_unlike_91 : decode cX8_unlike 91 = .ok (.iconst 1, 1) := by decide +kernel
theorem dX8_unlike_92 : decode cX8_unlike 92 = .ok (.iload 5, 2) := by decide +kernel
theorem dX8_unlike_94 : decode cX8_unlike 94 = .ok (.ishl, 1) := by decide +kernel
theorem dX8_unlike_95 : decode cX8_unlike 95 = .ok (.ior, 1) := by decide +kernel
theorem dX8_unlike_96 : decode cX8_unlike 96 = .ok (.istore 4, 2) := by decide +kernel
theorem dX8_unlike_98 : decode cX8_unlike 98 = .ok (.iinc 5 1, 3) := by decide +kernel
theorem dX8_unlike_101 : decode cX8_unlike 101 = .ok (.goto (-95), 3) := by decide +kernel
theorem dX8_unlike_104 : decode cX8_unlike 104 = .ok (.iload 4, 2) := by decide +kernel
theorem dX8_unlike_106 : decode cX8_unlike 106 = .ok (.ireturn, 1) := by decide +kernel
set_option maxRecDepth 20000 in
theorem ggX8_pair_X8_isDraft : GoodIn wsX8_pair wsX8_isDraft := goodIn_r _ [4, 5, 6, 3, 7] (by decide +kernel) (by decide +kernel)
set_option maxRecDepth 20000 in
theorem gX8_pair_X8_isDraft : GoodIn wsX8_pair (va_wsS RX8 99 yX8_isDraft wsX8_isDraft) := goodIn_app (goodIn_of _ (by decide +kernel)) ggX8_pair_X8_isDraft
set_option maxRecDepth 20000 in
theorem ggX8_pair_X8_within : GoodIn wsX8_pair wsX8_within := goodIn_r _ [7] (by decide +kernel) (by decide +kernel)
set_option maxRecDepth 20000 in
theorem gX8_pair_X8_within : GoodIn wsX8_pair (va_wsS RX8 40 yX8_within wsX8_within) := goodIn_app (goodIn_of _ (by decide +kernel)) ggX8_pair_X8_within
set_option maxRecDepth 20000 in
theorem ggX8_pair_X8_lay : GoodIn wsX8_pair wsX8_lay := goodIn_r _ [11, 12, 13, 14, 15, 3, 16, 17, 18, 19, 20, 21, 22, 23, 24, 25, 26, 27, 28, 29, 38, 39, 40, 41, 42, 43, 44, 45, 46, 47, 48, 49, 50, 51, 52] (by decide +kernel) (by decide +kernel)
set_option maxRecDepth 20000 in
theorem gX8_pair_X8_lay : GoodIn wsX8_pair (wsV RX8 69 RX8 yX8_lay wsX8_lay) := goodIn_app (goodIn_of _ (by decide +kernel)) ggX8_pair_X8_lay
set_option maxRecDepth 20000 in
theorem ggX8_pair_X8_unlike : GoodIn wsX8_pair wsX8_unlike := goodIn_r _ [33, 34, 35, 36, 3, 37, 12, 38, 39, 40, 41, 42, 43, 44, 45, 46, 47, 48, 49, 50, 51, 52] (by decide +kernel) (by decide +kernel)
set_option maxRecDepth 20000 in
theorem gX8_pair_X8_unlike : GoodIn wsX8_pair (wsV RX8 148 RX8 yX8_unlike wsX8_unlike) := goodIn_app (goodIn_of _ (by decide +kernel)) ggX8_pair_X8_unlike
theorem dX8_pair_0 : decode cX8_pair 0 = .ok (.iload_n 1, 1) := by decide +kernel
theorem dX8_pair_1 : decode cX8_pair 1 = .ok (.invokestatic 99, 3) := by decide +kernel
theorem dX8_pair_4 : decode cX8_pair 4 = .ok (.ifCond .eq 10, 3) := by decide +kernel
theorem dX8_pair_7 : decode cX8_pair 7 = .ok (.iload_n 2, 1) := by decide +kernel
theorem dX8_pair_8 : decode cX8_pair 8 = .ok (.invokestatic 99, 3) := by decide +kernel
theorem dX8_pair_11 : decode cX8_pair 11 = .ok (.ifCond .ne 5, 3) := by decide +kernel
theorem dX8_pair_14 : decode cX8_pair 14 = .ok (.iconst (-1), 1) := by decide +kernel
theorem dX8_pair_15 : decode cX8_pair 15 = .ok (.ireturn, 1) := by decide +kernel
theorem dX8_pair_16 : decode cX8_pair 16 = .ok (.iload_n 3, 1) := by decide +kernel
theorem dX8_pair_17 : decode cX8_pair 17 = .ok (.iconst 0, 1) := by decide +kernel
theorem dX8_pair_18 : decode cX8_pair 18 = .ok (.iconst 3, 1) := by decide +kernel
theorem dX8_pair_19 : decode cX8_pair 19 = .ok (.invokestatic 40, 3) := by decide +kernel
theorem dX8_pair_22 : decode cX8_pair 22 = .ok (.ifCond .ne 6, 3) := by decide +kernel
theorem dX8_pair_25 : decode cX8_pair 25 = .ok (.bipush (-2), 2) := by decide +kernel
theorem dX8_pair_27 : decode cX8_pair 27 = .ok (.ireturn, 1) := by decide +kernel
theorem dX8_pair_28 : decode cX8_pair 28 = .ok (.aload_n 0, 1) := by decide +kernel
theorem dX8_pair_29 : decode cX8_pair 29 = .ok (.iload_n 1, 1) := by decide +kernel
theorem dX8_pair_30 : decode cX8_pair 30 = .ok (.invokevirtual 69, 3) := by decide +kernel
theorem dX8_pair_33 : decode cX8_pair 33 = .ok (.aload_n 0, 1) := by decide +kernel
theorem dX8_pair_34 : decode cX8_pair 34 = .ok (.iload_n 2, 1) := by decide +kernel
theorem dX8_pair_35 : decode cX8_pair 35 = .ok (.invokevirtual 69, 3) := by decide +kernel
theorem dX8_pair_38 : decode cX8_pair 38 = .ok (.iload_n 3, 1) := by decide +kernel
theorem dX8_pair_39 : decode cX8_pair 39 = .ok (.iconst 3, 1) := by decide +kernel
theorem dX8_pair_40 : decode cX8_pair 40 = .ok (.if_icmp .ne 11, 3) := by decide +kernel
theorem dX8_pair_43 : decode cX8_pair 43 = .ok (.aload_n 0, 1) := by decide +kernel
theorem dX8_pair_44 : decode cX8_pair 44 = .ok (.iload_n 1, 1) := by decide +kernel
theorem dX8_pair_45 : decode cX8_pair 45 = .ok (.iload_n 2, 1) := by decide +kernel
theorem dX8_pair_46 : decode cX8_pair 46 = .ok (.iconst 0, 1) := by decide +kernel
theorem dX8_pair_47 : decode cX8_pair 47 = .ok (.invokevirtual 148, 3) := by decide +kernel
theorem dX8_pair_50 : decode cX8_pair 50 = .ok (.ireturn, 1) := by decide +kernel
theorem dX8_pair_51 : decode cX8_pair 51 = .ok (.aload_n 0, 1) := by decide +kernel
theorem dX8_pair_52 : decode cX8_pair 52 = .ok (.iload_n 1, 1) := by decide +kernel
theorem dX8_pair_53 : decode cX8_pair 53 = .ok (.iload_n 2, 1) := by decide +kernel
theorem dX8_pair_54 : decode cX8_pair 54 = .ok (.iload_n 3, 1) := by decide +kernel
theorem dX8_pair_55 : decode cX8_pair 55 = .ok (.invokevirtual 148, 3) := by decide +kernel
theorem dX8_pair_58 : decode cX8_pair 58 = .ok (.ifCond .ne 7, 3) := by decide +kernel
theorem dX8_pair_61 : decode cX8_pair 61 = .ok (.iconst 1, 1) := by decide +kernel
theorem dX8_pair_62 : decode cX8_pair 62 = .ok (.goto 4, 3) := by decide +kernel
theorem dX8_pair_65 : decode cX8_pair 65 = .ok (.iconst 0, 1) := by decide +kernel
theorem dX8_pair_66 : decode cX8_pair 66 = .ok (.ireturn, 1) := by decide +kernel
theorem dX8_addWay_0 : decode cX8_addWay 0 = .ok (.iconst 1, 1) := by decide +kernel
theorem dX8_addWay_1 : decode cX8_addWay 1 = .ok (.istore_n 1, 1) := by decide +kernel
theorem dX8_addWay_2 : decode cX8_addWay 2 = .ok (.iconst 0, 1) := by decide +kernel
theorem dX8_addWay_3 : decode cX8_addWay 3 = .ok (.istore_n 2, 1) := by decide +kernel
theorem dX8_addWay_4 : decode cX8_addWay 4 = .ok (.iload_n 2, 1) := by decide +kernel
theorem dX8_addWay_5 : decode cX8_addWay 5 = .ok (.aload_n 0, 1) := by decide +kernel
theorem dX8_addWay_6 : decode cX8_addWay 6 = .ok (.getfield 152, 3) := by decide +kernel
theorem dX8_addWay_9 : decode cX8_addWay 9 = .ok (.if_icmp .ge 73, 3) := by decide +kernel
theorem dX8_addWay_12 : decode cX8_addWay 12 = .ok (.iconst 1, 1) := by decide +kernel
theorem dX8_addWay_13 : decode cX8_addWay 13 = .ok (.istore_n 3, 1) := by decide +kernel
theorem dX8_addWay_14 : decode cX8_addWay 14 = .ok (.iconst 0, 1) := by decide +kernel
theorem dX8_addWay_15 : decode cX8_addWay 15 = .ok (.istore 4, 2) := by decide +kernel
theorem dX8_addWay_17 : decode cX8_addWay 17 = .ok (.iload 4, 2) := by decide +kernel
theorem dX8_addWay_19 : decode cX8_addWay 19 = .ok (.bipush 12, 2) := by decide +kernel
theorem dX8_addWay_21 : decode cX8_addWay 21 = .ok (.if_icmp .ge 41, 3) := by decide +kernel
theorem dX8_addWay_24 : decode cX8_addWay 24 = .ok (.iload_n 3, 1) := by decide +kernel
theorem dX8_addWay_25 : decode cX8_addWay 25 = .ok (.ifCond .eq 29, 3) := by decide +kernel
theorem dX8_addWay_28 : decode cX8_addWay 28 = .ok (.aload_n 0, 1) := by decide +kernel
theorem dX8_addWay_29 : decode cX8_addWay 29 = .ok (.getfield 37, 3) := by decide +kernel
theorem dX8_addWay_32 : decode cX8_addWay 32 = .ok (.bipush 12, 2) := by decide +kernel
theorem dX8_addWay_34 : decode cX8_addWay 34 = .ok (.iload_n 2, 1) := by decide +kernel
theorem dX8_addWay_35 : decode cX8_addWay 35 = .ok (.imul, 1) := by decide +kernel
theorem dX8_addWay_36 : decode cX8_addWay 36 = .ok (.iload 4, 2) := by decide +kernel
theorem dX8_addWay_38 : decode cX8_addWay 38 = .ok (.iadd, 1) := by decide +kernel
theorem dX8_addWay_39 : decode cX8_addWay 39 = .ok (.iaload, 1) := by decide +kernel
theorem dX8_addWay_40 : decode cX8_addWay 40 = .ok (.aload_n 0, 1) := by decide +kernel
theorem dX8_addWay_41 : decode cX8_addWay 41 = .ok (.getfield 31, 3) := by decide +kernel
theorem dX8_addWay_44 : decode cX8_addWay 44 = .ok (.iload 4, 2) := by decide +kernel
theorem dX8_addWay_46 : decode cX8_addWay 46 = .ok (.iaload, 1) := by decide +kernel
theorem dX8_addWay_47 : decode cX8_addWay 47 = .ok (.if_icmp .ne 7, 3) := by decide +kernel
theorem dX8_addWay_50 : decode cX8_addWay 50 = .ok (.iconst 1, 1) := by decide +kernel
theorem dX8_addWay_51 : decode cX8_addWay 51 = .ok (.goto 4, 3) := by decide +kernel
theorem dX8_addWay_54 : decode cX8_addWay 54 = .ok (.iconst 0, 1) := by decide +kernel
theorem dX8_addWay_55 : decode cX8_addWay 55 = .ok (.istore_n 3, 1) := by decide +kernel
theorem dX8_addWay_56 : decode cX8_addWay 56 = .ok (.iinc 4 1, 3) := by decide +kernel
theorem dX8_addWay_59 : decode cX8_addWay 59 = .ok (.goto (-42), 3) := by decide +kernel
theorem dX8_addWay_62 : decode cX8_addWay 62 = .ok (.iload_n 1, 1) := by decide +kernel
theorem dX8_addWay_63 : decode cX8_addWay 63 = .ok (.ifCond .eq 11, 3) := by decide +kernel
theorem dX8_addWay_66 : decode cX8_addWay 66 = .ok (.iload_n 3, 1) := by decide +kernel
theorem dX8_addWay_67 : decode cX8_addWay 67 = .ok (.ifCond .ne 7, 3) := by decide +kernel
theorem dX8_addWay_70 : decode cX8_addWay 70 = .ok (.iconst 1, 1) := by decide +kernel
theorem dX8_addWay_71 : decode cX8_addWay 71 = .ok (.goto 4, 3) := by decide +kernel
theorem dX8_addWay_74 : decode cX8_addWay 74 = .ok (.iconst 0, 1) := by decide +kernel
theorem dX8_addWay_75 : decode cX8_addWay 75 = .ok (.istore_n 1, 1) := by decide +kernel
theorem dX8_addWay_76 : decode cX8_addWay 76 = .ok (.iinc 2 1, 3) := by decide +kernel
theorem dX8_addWay_79 : decode cX8_addWay 79 = .ok (.goto (-75), 3) := by decide +kernel
theorem dX8_addWay_82 : decode cX8_addWay 82 = .ok (.iload_n 1, 1) := by decide +kernel
theorem dX8_addWay_83 : decode cX8_addWay 83 = .ok (.ifCond .eq 47, 3) := by decide +kernel
theorem dX8_addWay_86 : decode cX8_addWay 86 = .ok (.aload_n 0, 1) := by decide +kernel
theorem dX8_addWay_87 : decode cX8_addWay 87 = .ok (.getfield 152, 3) := by decide +kernel
theorem dX8_addWay_90 : decode cX8_addWay 90 = .ok (.sipush 300, 3) := by decide +kernel
theorem dX8_addWay_93 : decode cX8_addWay 93 = .ok (.if_icmp .ge 37, 3) := by decide +kernel
theorem dX8_addWay_96 : decode cX8_addWay 96 = .ok (.iconst 0, 1) := by decide +kernel
theorem dX8_addWay_97 : decode cX8_addWay 97 = .ok (.istore_n 2, 1) := by decide +kernel
theorem dX8_addWay_98 : decode cX8_addWay 98 = .ok (.iload_n 2, 1) := by decide +kernel
theorem dX8_addWay_99 : decode cX8_addWay 99 = .ok (.bipush 12, 2) := by decide +kernel
theorem dX8_addWay_101 : decode cX8_addWay 101 = .ok (.if_icmp .ge 29, 3) := by decide +kernel
theorem dX8_addWay_104 : decode cX8_addWay 104 = .ok (.aload_n 0, 1) := by decide +kernel
theorem dX8_addWay_105 : decode cX8_addWay 105 = .ok (.getfield 37, 3) := by decide +kernel
theorem dX8_addWay_108 : decode cX8_addWay 108 = .ok (.bipush 12, 2) := by decide +kernel
theorem dX8_addWay_110 : decode cX8_addWay 110 = .ok (.aload_n 0, 1) := by decide +kernel
theorem dX8_addWay_111 : decode cX8_addWay 111 = .ok (.getfield 152, 3) := by decide +kernel
theorem dX8_addWay_114 : decode cX8_addWay 114 = .ok (.imul, 1) := by decide +kernel
theorem dX8_addWay_115 : decode cX8_addWay 115 = .ok (.iload_n 2, 1) := by decide +kernel
theorem dX8_addWay_116 : decode cX8_addWay 116 = .ok (.iadd, 1) := by decide +kernel
theorem dX8_addWay_117 : decode cX8_addWay 117 = .ok (.aload_n 0, 1) := by decide +kernel
theorem dX8_addWay_118 : decode cX8_addWay 118 = .ok (.getfield 31, 3) := by decide +kernel
theorem dX8_addWay_121 : decode cX8_addWay 121 = .ok (.iload_n 2, 1) := by decide +kernel
theorem dX8_addWay_122 : decode cX8_addWay 122 = .ok (.iaload, 1) := by decide +kernel
theorem dX8_addWay_123 : decode cX8_addWay 123 = .ok (.iastore, 1) := by decide +kernel
theorem dX8_addWay_124 : decode cX8_addWay 124 = .ok (.iinc 2 1, 3) := by decide +kernel
theorem dX8_addWay_127 : decode cX8_addWay 127 = .ok (.goto (-29), 3) := by decide +kernel
theorem dX8_addWay_130 : decode cX8_addWay 130 = .ok (.aload_n 0, 1) := by decide +kernel
theorem dX8_addWay_131 : decode cX8_addWay 131 = .ok (.dup, 1) := by decide +kernel
theorem dX8_addWay_132 : decode cX8_addWay 132 = .ok (.getfield 152, 3) := by decide +kernel
theorem dX8_addWay_135 : decode cX8_addWay 135 = .ok (.iload_n 1, 1) := by decide +kernel
theorem dX8_addWay_136 : decode cX8_addWay 136 = .ok (.ifCond .eq 7, 3) := by decide +kernel
theorem dX8_addWay_139 : decode cX8_addWay 139 = .ok (.iconst 1, 1) := by decide +kernel
theorem dX8_addWay_140 : decode cX8_addWay 140 = .ok (.goto 4, 3) := by decide +kernel
theorem dX8_addWay_143 : decode cX8_addWay 143 = .ok (.iconst 0, 1) := by decide +kernel
theorem dX8_addWay_144 : decode cX8_addWay 144 = .ok (.iadd, 1) := by decide +kernel
theorem dX8_addWay_145 : decode cX8_addWay 145 = .ok (.putfield 152, 3) := by decide +kernel
theorem dX8_addWay_148 : decode cX8_addWay 148 = .ok (.return_, 1) := by decide +kernel
set_option maxRecDepth 20000 in
theorem ggX8_ways_X8_areDrafts : GoodIn wsX8_ways wsX8_areDrafts := goodIn_r _ [7, 8, 9, 6, 10] (by decide +kernel) (by decide +kernel)
set_option maxRecDepth 20000 in
theorem gX8_ways_X8_areDrafts : GoodIn wsX8_ways (va_wsS RX8 142 yX8_areDrafts wsX8_areDrafts) := goodIn_app (goodIn_of _ (by decide +kernel)) ggX8_ways_X8_areDrafts
set_option maxRecDepth 20000 in
theorem ggX8_ways_X8_layAll : GoodIn wsX8_ways wsX8_layAll := goodIn_r _ [14, 15, 16, 17, 6, 18, 19, 20, 21, 22, 23, 24, 25, 26, 27, 28, 29, 30, 31, 32, 33, 34, 35, 36, 45, 46, 47, 48, 49, 50, 51, 52, 53, 54, 55, 56, 57, 58, 59] (by decide +kernel) (by decide +kernel)
set_option maxRecDepth 20000 in
theorem gX8_ways_X8_layAll : GoodIn wsX8_ways (wsV RX8 145 RX8 yX8_layAll wsX8_layAll) := goodIn_app (goodIn_of _ (by decide +kernel)) ggX8_ways_X8_layAll
set_option maxRecDepth 20000 in
theorem ggX8_ways_X8_addWay : GoodIn wsX8_ways wsX8_addWay := goodIn_r _ [40, 1, 3, 2, 45, 46, 47, 48, 49, 50, 51, 52, 53, 54, 55, 56, 57, 58, 59] (by decide +kernel) (by decide +kernel)
set_option maxRecDepth 20000 in
theorem gX8_ways_X8_addWay : GoodIn wsX8_ways (wsV RX8 155 RX8 yX8_addWay wsX8_addWay) := goodIn_app (goodIn_of _ (by decide +kernel)) ggX8_ways_X8_addWay
set_option maxRecDepth 20000 in
theorem ggX8_ways_X8_comesBy : GoodIn wsX8_ways wsX8_comesBy := goodIn_r _ [44, 19, 45, 46, 47, 48, 49, 50, 51, 52, 53, 54, 55, 56, 57, 58, 59] (by decide +kernel) (by decide +kernel)
set_option maxRecDepth 20000 in
theorem gX8_ways_X8_comesBy : GoodIn wsX8_ways (wsV RX8 73 RX8 yX8_comesBy wsX8_comesBy) := goodIn_app (goodIn_of _ (by decide +kernel)) ggX8_ways_X8_comesBy
theorem dX8_ways_0 : decode cX8_ways 0 = .ok (.iload_n 1, 1) := by decide +kernel
theorem dX8_ways_1 : decode cX8_ways 1 = .ok (.invokestatic 142, 3) := by decide +kernel
theorem dX8_ways_4 : decode cX8_ways 4 = .ok (.ifCond .ne 6, 3) := by decide +kernel
theorem dX8_ways_7 : decode cX8_ways 7 = .ok (.bipush (-2), 2) := by decide +kernel
theorem dX8_ways_9 : decode cX8_ways 9 = .ok (.ireturn, 1) := by decide +kernel
theorem dX8_ways_10 : decode cX8_ways 10 = .ok (.aload_n 0, 1) := by decide +kernel
theorem dX8_ways_11 : decode cX8_ways 11 = .ok (.invokevirtual 145, 3) := by decide +kernel
theorem dX8_ways_14 : decode cX8_ways 14 = .ok (.aload_n 0, 1) := by decide +kernel
theorem dX8_ways_15 : decode cX8_ways 15 = .ok (.iconst 0, 1) := by decide +kernel
theorem dX8_ways_16 : decode cX8_ways 16 = .ok (.putfield 152, 3) := by decide +kernel
theorem dX8_ways_19 : decode cX8_ways 19 = .ok (.iconst 0, 1) := by decide +kernel
theorem dX8_ways_20 : decode cX8_ways 20 = .ok (.istore_n 2, 1) := by decide +kernel
theorem dX8_ways_21 : decode cX8_ways 21 = .ok (.iload_n 2, 1) := by decide +kernel
theorem dX8_ways_22 : decode cX8_ways 22 = .ok (.bipush 12, 2) := by decide +kernel
theorem dX8_ways_24 : decode cX8_ways 24 = .ok (.if_icmp .ge 16, 3) := by decide +kernel
theorem dX8_ways_27 : decode cX8_ways 27 = .ok (.aload_n 0, 1) := by decide +kernel
theorem dX8_ways_28 : decode cX8_ways 28 = .ok (.getfield 31, 3) := by decide +kernel
theorem dX8_ways_31 : decode cX8_ways 31 = .ok (.iload_n 2, 1) := by decide +kernel
theorem dX8_ways_32 : decode cX8_ways 32 = .ok (.iload_n 2, 1) := by decide +kernel
theorem dX8_ways_33 : decode cX8_ways 33 = .ok (.iastore, 1) := by decide +kernel
theorem dX8_ways_34 : decode cX8_ways 34 = .ok (.iinc 2 1, 3) := by decide +kernel
theorem dX8_ways_37 : decode cX8_ways 37 = .ok (.goto (-16), 3) := by decide +kernel
theorem dX8_ways_40 : decode cX8_ways 40 = .ok (.aload_n 0, 1) := by decide +kernel
theorem dX8_ways_41 : decode cX8_ways 41 = .ok (.invokevirtual 155, 3) := by decide +kernel
theorem dX8_ways_44 : decode cX8_ways 44 = .ok (.iconst 0, 1) := by decide +kernel
theorem dX8_ways_45 : decode cX8_ways 45 = .ok (.istore_n 2, 1) := by decide +kernel
theorem dX8_ways_46 : decode cX8_ways 46 = .ok (.iload_n 2, 1) := by decide +kernel
theorem dX8_ways_47 : decode cX8_ways 47 = .ok (.aload_n 0, 1) := by decide +kernel
theorem dX8_ways_48 : decode cX8_ways 48 = .ok (.getfield 152, 3) := by decide +kernel
theorem dX8_ways_51 : decode cX8_ways 51 = .ok (.if_icmp .ge 96, 3) := by decide +kernel
theorem dX8_ways_54 : decode cX8_ways 54 = .ok (.aload_n 0, 1) := by decide +kernel
theorem dX8_ways_55 : decode cX8_ways 55 = .ok (.getfield 152, 3) := by decide +kernel
theorem dX8_ways_58 : decode cX8_ways 58 = .ok (.sipush 300, 3) := by decide +kernel
theorem dX8_ways_61 : decode cX8_ways 61 = .ok (.if_icmp .gt 86, 3) := by decide +kernel
theorem dX8_ways_64 : decode cX8_ways 64 = .ok (.iconst 0, 1) := by decide +kernel
theorem dX8_ways_65 : decode cX8_ways 65 = .ok (.istore_n 3, 1) := by decide +kernel
theorem dX8_ways_66 : decode cX8_ways 66 = .ok (.iload_n 3, 1) := by decide +kernel
theorem dX8_ways_67 : decode cX8_ways 67 = .ok (.bipush 6, 2) := by decide +kernel
theorem dX8_ways_69 : decode cX8_ways 69 = .ok (.if_icmp .ge 72, 3) := by decide +kernel
theorem dX8_ways_72 : decode cX8_ways 72 = .ok (.aload_n 0, 1) := by decide +kernel
theorem dX8_ways_73 : decode cX8_ways 73 = .ok (.getfield 152, 3) := by decide +kernel
theorem dX8_ways_76 : decode cX8_ways 76 = .ok (.sipush 300, 3) := by decide +kernel
theorem dX8_ways_79 : decode cX8_ways 79 = .ok (.if_icmp .gt 62, 3) := by decide +kernel
theorem dX8_ways_82 : decode cX8_ways 82 = .ok (.iload_n 1, 1) := by decide +kernel
theorem dX8_ways_83 : decode cX8_ways 83 = .ok (.iload_n 3, 1) := by decide +kernel
theorem dX8_ways_84 : decode cX8_ways 84 = .ok (.ishr, 1) := by decide +kernel
theorem dX8_ways_85 : decode cX8_ways 85 = .ok (.iconst 1, 1) := by decide +kernel
theorem dX8_ways_86 : decode cX8_ways 86 = .ok (.iand, 1) := by decide +kernel
theorem dX8_ways_87 : decode cX8_ways 87 = .ok (.iconst 1, 1) := by decide +kernel
theorem dX8_ways_88 : decode cX8_ways 88 = .ok (.if_icmp .ne 47, 3) := by decide +kernel
theorem dX8_ways_91 : decode cX8_ways 91 = .ok (.iconst 0, 1) := by decide +kernel
theorem dX8_ways_92 : decode cX8_ways 92 = .ok (.istore 4, 2) := by decide +kernel
theorem dX8_ways_94 : decode cX8_ways 94 = .ok (.iload 4, 2) := by decide +kernel
theorem dX8_ways_96 : decode cX8_ways 96 = .ok (.bipush 12, 2) := by decide +kernel
theorem dX8_ways_98 : decode cX8_ways 98 = .ok (.if_icmp .ge 33, 3) := by decide +kernel
theorem dX8_ways_101 : decode cX8_ways 101 = .ok (.aload_n 0, 1) := by decide +kernel
theorem dX8_ways_102 : decode cX8_ways 102 = .ok (.getfield 31, 3) := by decide +kernel
theorem dX8_ways_105 : decode cX8_ways 105 = .ok (.iload 4, 2) := by decide +kernel
theorem dX8_ways_107 : decode cX8_ways 107 = .ok (.aload_n 0, 1) := by decide +kernel
theorem dX8_ways_108 : decode cX8_ways 108 = .ok (.iload_n 3, 1) := by decide +kernel
theorem dX8_ways_109 : decode cX8_ways 109 = .ok (.aload_n 0, 1) := by decide +kernel
theorem dX8_ways_110 : decode cX8_ways 110 = .ok (.getfield 37, 3) := by decide +kernel
theorem dX8_ways_113 : decode cX8_ways 113 = .ok (.bipush 12, 2) := by decide +kernel
theorem dX8_ways_115 : decode cX8_ways 115 = .ok (.iload_n 2, 1) := by decide +kernel
theorem dX8_ways_116 : decode cX8_ways 116 = .ok (.imul, 1) := by decide +kernel
theorem dX8_ways_117 : decode cX8_ways 117 = .ok (.iload 4, 2) := by decide +kernel
theorem dX8_ways_119 : decode cX8_ways 119 = .ok (.iadd, 1) := by decide +kernel
theorem dX8_ways_120 : decode cX8_ways 120 = .ok (.iaload, 1) := by decide +kernel
theorem dX8_ways_121 : decode cX8_ways 121 = .ok (.invokevirtual 73, 3) := by decide +kernel
theorem dX8_ways_124 : decode cX8_ways 124 = .ok (.iastore, 1) := by decide +kernel
theorem dX8_ways_125 : decode cX8_ways 125 = .ok (.iinc 4 1, 3) := by decide +kernel
theorem dX8_ways_128 : decode cX8_ways 128 = .ok (.goto (-34), 3) := by decide +kernel
theorem dX8_ways_131 : decode cX8_ways 131 = .ok (.aload_n 0, 1) := by decide +kernel
theorem dX8_ways_132 : decode cX8_ways 132 = .ok (.invokevirtual 155, 3) := by decide +kernel
theorem dX8_ways_135 : decode cX8_ways 135 = .ok (.iinc 3 1, 3) := by decide +kernel
theorem dX8_ways_138 : decode cX8_ways 138 = .ok (.goto (-72), 3) := by decide +kernel
theorem dX8_ways_141 : decode cX8_ways 141 = .ok (.iinc 2 1, 3) := by decide +kernel
theorem dX8_ways_144 : decode cX8_ways 144 = .ok (.goto (-98), 3) := by decide +kernel
theorem dX8_ways_147 : decode cX8_ways 147 = .ok (.aload_n 0, 1) := by decide +kernel
theorem dX8_ways_148 : decode cX8_ways 148 = .ok (.getfield 152, 3) := by decide +kernel
theorem dX8_ways_151 : decode cX8_ways 151 = .ok (.sipush 300, 3) := by decide +kernel
theorem dX8_ways_154 : decode cX8_ways 154 = .ok (.if_icmp .le 8, 3) := by decide +kernel
theorem dX8_ways_157 : decode cX8_ways 157 = .ok (.bipush (-6), 2) := by decide +kernel
theorem dX8_ways_159 : decode cX8_ways 159 = .ok (.goto 7, 3) := by decide +kernel
theorem dX8_ways_162 : decode cX8_ways 162 = .ok (.aload_n 0, 1) := by decide +kernel
theorem dX8_ways_163 : decode cX8_ways 163 = .ok (.getfield 152, 3) := by decide +kernel
theorem dX8_ways_166 : decode cX8_ways 166 = .ok (.ireturn, 1) := by decide +kernel
set_option maxRecDepth 20000 in
theorem ggX8_untilHome_X8_isDraft : GoodIn wsX8_untilHome wsX8_isDraft := goodIn_r _ [4, 5, 6, 3, 7] (by decide +kernel) (by decide +kernel)
set_option maxRecDepth 20000 in
theorem gX8_untilHome_X8_isDraft : GoodIn wsX8_untilHome (va_wsS RX8 99 yX8_isDraft wsX8_isDraft) := goodIn_app (goodIn_of _ (by decide +kernel)) ggX8_untilHome_X8_isDraft
set_option maxRecDepth 20000 in
theorem ggX8_untilHome_X8_lay : GoodIn wsX8_untilHome wsX8_lay := goodIn_r _ [11, 12, 13, 14, 15, 3, 16, 17, 18, 19, 20, 21, 22, 23, 24, 25, 26, 27, 28, 29, 56, 57, 58, 59, 60, 61, 62, 63, 64, 65, 66, 67, 68, 69, 70] (by decide +kernel) (by decide +kernel)
set_option maxRecDepth 20000 in
theorem gX8_untilHome_X8_lay : GoodIn wsX8_untilHome (wsV RX8 69 RX8 yX8_lay wsX8_lay) := goodIn_app (goodIn_of _ (by decide +kernel)) ggX8_untilHome_X8_lay
set_option maxRecDepth 20000 in
theorem ggX8_untilHome_X8_orderOf : GoodIn wsX8_untilHome wsX8_orderOf := goodIn_r _ [33, 34, 35, 36, 3, 37, 38, 39, 40, 41, 12, 56, 57, 58, 59, 60, 61, 62, 63, 64, 65, 66, 67, 68, 69, 70] (by decide +kernel) (by decide +kernel)
set_option maxRecDepth 20000 in
theorem gX8_untilHome_X8_orderOf : GoodIn wsX8_untilHome (wsV RX8 117 RX8 yX8_orderOf wsX8_orderOf) := goodIn_app (goodIn_of _ (by decide +kernel)) ggX8_untilHome_X8_orderOf
set_option maxRecDepth 20000 in
theorem ggX8_untilHome_X8_takeThreads : GoodIn wsX8_untilHome wsX8_takeThreads := goodIn_r _ [45, 46, 17, 56, 57, 58, 59, 60, 61, 62, 63, 64, 65, 66, 67, 68, 69, 70] (by decide +kernel) (by decide +kernel)
set_option maxRecDepth 20000 in
theorem gX8_untilHome_X8_takeThreads : GoodIn wsX8_untilHome (wsV RX8 79 RX8 yX8_takeThreads wsX8_takeThreads) := goodIn_app (goodIn_of _ (by decide +kernel)) ggX8_untilHome_X8_takeThreads
set_option maxRecDepth 20000 in
theorem ggX8_untilHome_X8_homeNow : GoodIn wsX8_untilHome wsX8_homeNow := goodIn_r _ [50, 46, 56, 57, 58, 59, 60, 61, 62, 63, 64, 65, 66, 67, 68, 69, 70] (by decide +kernel) (by decide +kernel)
set_option maxRecDepth 20000 in
theorem gX8_untilHome_X8_homeNow : GoodIn wsX8_untilHome (wsV RX8 158 RX8 yX8_homeNow wsX8_homeNow) := goodIn_app (goodIn_of _ (by decide +kernel)) ggX8_untilHome_X8_homeNow
set_option maxRecDepth 20000 in
theorem ggX8_untilHome_X8_weaveOnce : GoodIn wsX8_untilHome wsX8_weaveOnce := goodIn_r _ [54, 55, 46, 38, 39, 40, 3, 41, 12, 56, 57, 58, 59, 60, 61, 62, 63, 64, 65, 66, 67, 68, 69, 70] (by decide +kernel) (by decide +kernel)
set_option maxRecDepth 20000 in
theorem gX8_untilHome_X8_weaveOnce : GoodIn wsX8_untilHome (wsV RX8 82 RX8 yX8_weaveOnce wsX8_weaveOnce) := goodIn_app (goodIn_of _ (by decide +kernel)) ggX8_untilHome_X8_weaveOnce
theorem dX8_untilHome_0 : decode cX8_untilHome 0 = .ok (.iload_n 1, 1) := by decide +kernel
theorem dX8_untilHome_1 : decode cX8_untilHome 1 = .ok (.invokestatic 99, 3) := by decide +kernel
theorem dX8_untilHome_4 : decode cX8_untilHome 4 = .ok (.ifCond .ne 5, 3) := by decide +kernel
theorem dX8_untilHome_7 : decode cX8_untilHome 7 = .ok (.iconst (-1), 1) := by decide +kernel
theorem dX8_untilHome_8 : decode cX8_untilHome 8 = .ok (.ireturn, 1) := by decide +kernel
theorem dX8_untilHome_9 : decode cX8_untilHome 9 = .ok (.aload_n 0, 1) := by decide +kernel
theorem dX8_untilHome_10 : decode cX8_untilHome 10 = .ok (.iload_n 1, 1) := by decide +kernel
theorem dX8_untilHome_11 : decode cX8_untilHome 11 = .ok (.invokevirtual 69, 3) := by decide +kernel
theorem dX8_untilHome_14 : decode cX8_untilHome 14 = .ok (.aload_n 0, 1) := by decide +kernel
theorem dX8_untilHome_15 : decode cX8_untilHome 15 = .ok (.iload_n 1, 1) := by decide +kernel
theorem dX8_untilHome_16 : decode cX8_untilHome 16 = .ok (.invokevirtual 117, 3) := by decide +kernel
theorem dX8_untilHome_19 : decode cX8_untilHome 19 = .ok (.istore_n 2, 1) := by decide +kernel
theorem dX8_untilHome_20 : decode cX8_untilHome 20 = .ok (.aload_n 0, 1) := by decide +kernel
theorem dX8_untilHome_21 : decode cX8_untilHome 21 = .ok (.invokevirtual 79, 3) := by decide +kernel
theorem dX8_untilHome_24 : decode cX8_untilHome 24 = .ok (.iconst 0, 1) := by decide +kernel
theorem dX8_untilHome_25 : decode cX8_untilHome 25 = .ok (.istore_n 3, 1) := by decide +kernel
theorem dX8_untilHome_26 : decode cX8_untilHome 26 = .ok (.iload_n 3, 1) := by decide +kernel
theorem dX8_untilHome_27 : decode cX8_untilHome 27 = .ok (.iload_n 2, 1) := by decide +kernel
theorem dX8_untilHome_28 : decode cX8_untilHome 28 = .ok (.if_icmp .ge 23, 3) := by decide +kernel
theorem dX8_untilHome_31 : decode cX8_untilHome 31 = .ok (.aload_n 0, 1) := by decide +kernel
theorem dX8_untilHome_32 : decode cX8_untilHome 32 = .ok (.invokevirtual 158, 3) := by decide +kernel
theorem dX8_untilHome_35 : decode cX8_untilHome 35 = .ok (.bipush 12, 2) := by decide +kernel
theorem dX8_untilHome_37 : decode cX8_untilHome 37 = .ok (.if_icmp .ge 14, 3) := by decide +kernel
theorem dX8_untilHome_40 : decode cX8_untilHome 40 = .ok (.aload_n 0, 1) := by decide +kernel
theorem dX8_untilHome_41 : decode cX8_untilHome 41 = .ok (.iload_n 1, 1) := by decide +kernel
theorem dX8_untilHome_42 : decode cX8_untilHome 42 = .ok (.invokevirtual 82, 3) := by decide +kernel
theorem dX8_untilHome_45 : decode cX8_untilHome 45 = .ok (.iinc 3 1, 3) := by decide +kernel
theorem dX8_untilHome_48 : decode cX8_untilHome 48 = .ok (.goto (-22), 3) := by decide +kernel
theorem dX8_untilHome_51 : decode cX8_untilHome 51 = .ok (.iload_n 3, 1) := by decide +kernel
theorem dX8_untilHome_52 : decode cX8_untilHome 52 = .ok (.iload_n 2, 1) := by decide +kernel
theorem dX8_untilHome_53 : decode cX8_untilHome 53 = .ok (.if_icmp .ge 7, 3) := by decide +kernel
theorem dX8_untilHome_56 : decode cX8_untilHome 56 = .ok (.iload_n 3, 1) := by decide +kernel
theorem dX8_untilHome_57 : decode cX8_untilHome 57 = .ok (.goto 5, 3) := by decide +kernel
theorem dX8_untilHome_60 : decode cX8_untilHome 60 = .ok (.bipush (-6), 2) := by decide +kernel
theorem dX8_untilHome_62 : decode cX8_untilHome 62 = .ok (.ireturn, 1) := by decide +kernel
set_option maxRecDepth 20000 in
theorem ggX8_bestDraft_X8_within : GoodIn wsX8_bestDraft wsX8_within := goodIn_r _ [4] (by decide +kernel) (by decide +kernel)
set_option maxRecDepth 20000 in
theorem gX8_bestDraft_X8_within : GoodIn wsX8_bestDraft (va_wsS RX8 40 yX8_within wsX8_within) := goodIn_app (goodIn_of _ (by decide +kernel)) ggX8_bestDraft_X8_within
set_option maxRecDepth 20000 in
theorem ggX8_bestDraft_X8_lay : GoodIn wsX8_bestDraft wsX8_lay := goodIn_r _ [8, 9, 10, 11, 12, 3, 13, 14, 15, 16, 17, 18, 19, 20, 21, 22, 23, 24, 25, 26, 45, 46, 47, 48, 49, 50, 51, 52, 53, 54, 55, 56, 57, 58, 59] (by decide +kernel) (by decide +kernel)
set_option maxRecDepth 20000 in
theorem gX8_bestDraft_X8_lay : GoodIn wsX8_bestDraft (wsV RX8 69 RX8 yX8_lay wsX8_lay) := goodIn_app (goodIn_of _ (by decide +kernel)) ggX8_bestDraft_X8_lay
set_option maxRecDepth 20000 in
theorem ggX8_bestDraft_X8_takeThreads : GoodIn wsX8_bestDraft wsX8_takeThreads := goodIn_r _ [30, 31, 14, 45, 46, 47, 48, 49, 50, 51, 52, 53, 54, 55, 56, 57, 58, 59] (by decide +kernel) (by decide +kernel)
set_option maxRecDepth 20000 in
theorem gX8_bestDraft_X8_takeThreads : GoodIn wsX8_bestDraft (wsV RX8 79 RX8 yX8_takeThreads wsX8_takeThreads) := goodIn_app (goodIn_of _ (by decide +kernel)) ggX8_bestDraft_X8_takeThreads
set_option maxRecDepth 20000 in
theorem ggX8_bestDraft_X8_weaveOnce : GoodIn wsX8_bestDraft wsX8_weaveOnce := goodIn_r _ [35, 36, 31, 37, 38, 39, 3, 40, 9, 45, 46, 47, 48, 49, 50, 51, 52, 53, 54, 55, 56, 57, 58, 59] (by decide +kernel) (by decide +kernel)
set_option maxRecDepth 20000 in
theorem gX8_bestDraft_X8_weaveOnce : GoodIn wsX8_bestDraft (wsV RX8 82 RX8 yX8_weaveOnce wsX8_weaveOnce) := goodIn_app (goodIn_of _ (by decide +kernel)) ggX8_bestDraft_X8_weaveOnce
set_option maxRecDepth 20000 in
theorem ggX8_bestDraft_X8_homeNow : GoodIn wsX8_bestDraft wsX8_homeNow := goodIn_r _ [44, 31, 45, 46, 47, 48, 49, 50, 51, 52, 53, 54, 55, 56, 57, 58, 59] (by decide +kernel) (by decide +kernel)
set_option maxRecDepth 20000 in
theorem gX8_bestDraft_X8_homeNow : GoodIn wsX8_bestDraft (wsV RX8 158 RX8 yX8_homeNow wsX8_homeNow) := goodIn_app (goodIn_of _ (by decide +kernel)) ggX8_bestDraft_X8_homeNow
theorem dX8_bestDraft_0 : decode cX8_bestDraft 0 = .ok (.iload_n 1, 1) := by decide +kernel
theorem dX8_bestDraft_1 : decode cX8_bestDraft 1 = .ok (.iconst 0, 1) := by decide +kernel
theorem dX8_bestDraft_2 : decode cX8_bestDraft 2 = .ok (.iconst 1, 1) := by decide +kernel
theorem dX8_bestDraft_3 : decode cX8_bestDraft 3 = .ok (.invokestatic 40, 3) := by decide +kernel
theorem dX8_bestDraft_6 : decode cX8_bestDraft 6 = .ok (.ifCond .ne 6, 3) := by decide +kernel
theorem dX8_bestDraft_9 : decode cX8_bestDraft 9 = .ok (.bipush (-2), 2) := by decide +kernel
theorem dX8_bestDraft_11 : decode cX8_bestDraft 11 = .ok (.ireturn, 1) := by decide +kernel
theorem dX8_bestDraft_12 : decode cX8_bestDraft 12 = .ok (.iconst 0, 1) := by decide +kernel
theorem dX8_bestDraft_13 : decode cX8_bestDraft 13 = .ok (.istore_n 2, 1) := by decide +kernel
theorem dX8_bestDraft_14 : decode cX8_bestDraft 14 = .ok (.iconst (-1), 1) := by decide +kernel
theorem dX8_bestDraft_15 : decode cX8_bestDraft 15 = .ok (.istore_n 3, 1) := by decide +kernel
theorem dX8_bestDraft_16 : decode cX8_bestDraft 16 = .ok (.iconst 0, 1) := by decide +kernel
theorem dX8_bestDraft_17 : decode cX8_bestDraft 17 = .ok (.istore 4, 2) := by decide +kernel
theorem dX8_bestDraft_19 : decode cX8_bestDraft 19 = .ok (.iload 4, 2) := by decide +kernel
theorem dX8_bestDraft_21 : decode cX8_bestDraft 21 = .ok (.bipush 6, 2) := by decide +kernel
theorem dX8_bestDraft_23 : decode cX8_bestDraft 23 = .ok (.if_icmp .ge 57, 3) := by decide +kernel
theorem dX8_bestDraft_26 : decode cX8_bestDraft 26 = .ok (.aload_n 0, 1) := by decide +kernel
theorem dX8_bestDraft_27 : decode cX8_bestDraft 27 = .ok (.iload 4, 2) := by decide +kernel
theorem dX8_bestDraft_29 : decode cX8_bestDraft 29 = .ok (.invokevirtual 69, 3) := by decide +kernel
theorem dX8_bestDraft_32 : decode cX8_bestDraft 32 = .ok (.aload_n 0, 1) := by decide +kernel
theorem dX8_bestDraft_33 : decode cX8_bestDraft 33 = .ok (.invokevirtual 79, 3) := by decide +kernel
theorem dX8_bestDraft_36 : decode cX8_bestDraft 36 = .ok (.aload_n 0, 1) := by decide +kernel
theorem dX8_bestDraft_37 : decode cX8_bestDraft 37 = .ok (.iload 4, 2) := by decide +kernel
theorem dX8_bestDraft_39 : decode cX8_bestDraft 39 = .ok (.invokevirtual 82, 3) := by decide +kernel
theorem dX8_bestDraft_42 : decode cX8_bestDraft 42 = .ok (.aload_n 0, 1) := by decide +kernel
theorem dX8_bestDraft_43 : decode cX8_bestDraft 43 = .ok (.invokevirtual 158, 3) := by decide +kernel
theorem dX8_bestDraft_46 : decode cX8_bestDraft 46 = .ok (.iload_n 3, 1) := by decide +kernel
theorem dX8_bestDraft_47 : decode cX8_bestDraft 47 = .ok (.if_icmp .le 8, 3) := by decide +kernel
theorem dX8_bestDraft_50 : decode cX8_bestDraft 50 = .ok (.iload 4, 2) := by decide +kernel
theorem dX8_bestDraft_52 : decode cX8_bestDraft 52 = .ok (.goto 4, 3) := by decide +kernel
theorem dX8_bestDraft_55 : decode cX8_bestDraft 55 = .ok (.iload_n 2, 1) := by decide +kernel
theorem dX8_bestDraft_56 : decode cX8_bestDraft 56 = .ok (.istore_n 2, 1) := by decide +kernel
theorem dX8_bestDraft_57 : decode cX8_bestDraft 57 = .ok (.aload_n 0, 1) := by decide +kernel
theorem dX8_bestDraft_58 : decode cX8_bestDraft 58 = .ok (.invokevirtual 158, 3) := by decide +kernel
theorem dX8_bestDraft_61 : decode cX8_bestDraft 61 = .ok (.iload_n 3, 1) := by decide +kernel
theorem dX8_bestDraft_62 : decode cX8_bestDraft 62 = .ok (.if_icmp .le 10, 3) := by decide +kernel
theorem dX8_bestDraft_65 : decode cX8_bestDraft 65 = .ok (.aload_n 0, 1) := by decide +kernel
theorem dX8_bestDraft_66 : decode cX8_bestDraft 66 = .ok (.invokevirtual 158, 3) := by decide +kernel
theorem dX8_bestDraft_69 : decode cX8_bestDraft 69 = .ok (.goto 4, 3) := by decide +kernel
theorem dX8_bestDraft_72 : decode cX8_bestDraft 72 = .ok (.iload_n 3, 1) := by decide +kernel
theorem dX8_bestDraft_73 : decode cX8_bestDraft 73 = .ok (.istore_n 3, 1) := by decide +kernel
theorem dX8_bestDraft_74 : decode cX8_bestDraft 74 = .ok (.iinc 4 1, 3) := by decide +kernel
theorem dX8_bestDraft_77 : decode cX8_bestDraft 77 = .ok (.goto (-58), 3) := by decide +kernel
theorem dX8_bestDraft_80 : decode cX8_bestDraft 80 = .ok (.iload_n 1, 1) := by decide +kernel
theorem dX8_bestDraft_81 : decode cX8_bestDraft 81 = .ok (.ifCond .ne 7, 3) := by decide +kernel
theorem dX8_bestDraft_84 : decode cX8_bestDraft 84 = .ok (.iload_n 2, 1) := by decide +kernel
theorem dX8_bestDraft_85 : decode cX8_bestDraft 85 = .ok (.goto 4, 3) := by decide +kernel
theorem dX8_bestDraft_88 : decode cX8_bestDraft 88 = .ok (.iload_n 3, 1) := by decide +kernel
theorem dX8_bestDraft_89 : decode cX8_bestDraft 89 = .ok (.ireturn, 1) := by decide +kernel
theorem dX8_codeAt_0 : decode cX8_codeAt 0 = .ok (.lload_n 0, 1) := by decide +kernel
theorem dX8_codeAt_1 : decode cX8_codeAt 1 = .ok (.bipush 8, 2) := by decide +kernel
theorem dX8_codeAt_3 : decode cX8_codeAt 3 = .ok (.iload_n 2, 1) := by decide +kernel
theorem dX8_codeAt_4 : decode cX8_codeAt 4 = .ok (.imul, 1) := by decide +kernel
theorem dX8_codeAt_5 : decode cX8_codeAt 5 = .ok (.lushr, 1) := by decide +kernel
theorem dX8_codeAt_6 : decode cX8_codeAt 6 = .ok (.ldc2_w 161, 3) := by decide +kernel
theorem dX8_codeAt_9 : decode cX8_codeAt 9 = .ok (.land, 1) := by decide +kernel
theorem dX8_codeAt_10 : decode cX8_codeAt 10 = .ok (.l2i, 1) := by decide +kernel
theorem dX8_codeAt_11 : decode cX8_codeAt 11 = .ok (.ireturn, 1) := by decide +kernel
set_option maxRecDepth 20000 in
theorem ggX8_charactersIn_X8_codeAt : GoodIn wsX8_charactersIn wsX8_codeAt := goodIn_r _ [4, 5] (by decide +kernel) (by decide +kernel)
set_option maxRecDepth 20000 in
theorem gX8_charactersIn_X8_codeAt : GoodIn wsX8_charactersIn (va_wsS RX8 163 yX8_codeAt wsX8_codeAt) := goodIn_app (goodIn_of _ (by decide +kernel)) ggX8_charactersIn_X8_codeAt
set_option maxRecDepth 20000 in
theorem ggX8_charactersIn_X8_within : GoodIn wsX8_charactersIn wsX8_within := goodIn_r _ [8] (by decide +kernel) (by decide +kernel)
set_option maxRecDepth 20000 in
theorem gX8_charactersIn_X8_within : GoodIn wsX8_charactersIn (va_wsS RX8 40 yX8_within wsX8_within) := goodIn_app (goodIn_of _ (by decide +kernel)) ggX8_charactersIn_X8_within
theorem dX8_charactersIn_0 : decode cX8_charactersIn 0 = .ok (.iconst 0, 1) := by decide +kernel
theorem dX8_charactersIn_1 : decode cX8_charactersIn 1 = .ok (.istore_n 2, 1) := by decide +kernel
theorem dX8_charactersIn_2 : decode cX8_charactersIn 2 = .ok (.iload_n 2, 1) := by decide +kernel
theorem dX8_charactersIn_3 : decode cX8_charactersIn 3 = .ok (.bipush 8, 2) := by decide +kernel
theorem dX8_charactersIn_5 : decode cX8_charactersIn 5 = .ok (.if_icmp .ge 17, 3) := by decide +kernel
theorem dX8_charactersIn_8 : decode cX8_charactersIn 8 = .ok (.lload_n 0, 1) := by decide +kernel
theorem dX8_charactersIn_9 : decode cX8_charactersIn 9 = .ok (.iload_n 2, 1) := by decide +kernel
theorem dX8_charactersIn_10 : decode cX8_charactersIn 10 = .ok (.invokestatic 163, 3) := by decide +kernel
theorem dX8_charactersIn_13 : decode cX8_charactersIn 13 = .ok (.ifCond .eq 9, 3) := by decide +kernel
theorem dX8_charactersIn_16 : decode cX8_charactersIn 16 = .ok (.iinc 2 1, 3) := by decide +kernel
theorem dX8_charactersIn_19 : decode cX8_charactersIn 19 = .ok (.goto (-17), 3) := by decide +kernel
theorem dX8_charactersIn_22 : decode cX8_charactersIn 22 = .ok (.iload_n 2, 1) := by decide +kernel
theorem dX8_charactersIn_23 : decode cX8_charactersIn 23 = .ok (.bipush 8, 2) := by decide +kernel
theorem dX8_charactersIn_25 : decode cX8_charactersIn 25 = .ok (.if_icmp .eq 14, 3) := by decide +kernel
theorem dX8_charactersIn_28 : decode cX8_charactersIn 28 = .ok (.lload_n 0, 1) := by decide +kernel
theorem dX8_charactersIn_29 : decode cX8_charactersIn 29 = .ok (.bipush 8, 2) := by decide +kernel
theorem dX8_charactersIn_31 : decode cX8_charactersIn 31 = .ok (.iload_n 2, 1) := by decide +kernel
theorem dX8_charactersIn_32 : decode cX8_charactersIn 32 = .ok (.imul, 1) := by decide +kernel
theorem dX8_charactersIn_33 : decode cX8_charactersIn 33 = .ok (.lushr, 1) := by decide +kernel
theorem dX8_charactersIn_34 : decode cX8_charactersIn 34 = .ok (.lconst 0, 1) := by decide +kernel
theorem dX8_charactersIn_35 : decode cX8_charactersIn 35 = .ok (.lcmp, 1) := by decide +kernel
theorem dX8_charactersIn_36 : decode cX8_charactersIn 36 = .ok (.ifCond .ne 7, 3) := by decide +kernel
theorem dX8_charactersIn_39 : decode cX8_charactersIn 39 = .ok (.iconst 1, 1) := by decide +kernel
theorem dX8_charactersIn_40 : decode cX8_charactersIn 40 = .ok (.goto 4, 3) := by decide +kernel
theorem dX8_charactersIn_43 : decode cX8_charactersIn 43 = .ok (.iconst 0, 1) := by decide +kernel
theorem dX8_charactersIn_44 : decode cX8_charactersIn 44 = .ok (.istore_n 3, 1) := by decide +kernel
theorem dX8_charactersIn_45 : decode cX8_charactersIn 45 = .ok (.iconst 0, 1) := by decide +kernel
theorem dX8_charactersIn_46 : decode cX8_charactersIn 46 = .ok (.istore 4, 2) := by decide +kernel
theorem dX8_charactersIn_48 : decode cX8_charactersIn 48 = .ok (.iload 4, 2) := by decide +kernel
theorem dX8_charactersIn_50 : decode cX8_charactersIn 50 = .ok (.iload_n 2, 1) := by decide +kernel
theorem dX8_charactersIn_51 : decode cX8_charactersIn 51 = .ok (.if_icmp .ge 35, 3) := by decide +kernel
theorem dX8_charactersIn_54 : decode cX8_charactersIn 54 = .ok (.iload_n 3, 1) := by decide +kernel
theorem dX8_charactersIn_55 : decode cX8_charactersIn 55 = .ok (.ifCond .eq 23, 3) := by decide +kernel
theorem dX8_charactersIn_58 : decode cX8_charactersIn 58 = .ok (.lload_n 0, 1) := by decide +kernel
theorem dX8_charactersIn_59 : decode cX8_charactersIn 59 = .ok (.iload 4, 2) := by decide +kernel
theorem dX8_charactersIn_61 : decode cX8_charactersIn 61 = .ok (.invokestatic 163, 3) := by decide +kernel
theorem dX8_charactersIn_64 : decode cX8_charactersIn 64 = .ok (.bipush 33, 2) := by decide +kernel
theorem dX8_charactersIn_66 : decode cX8_charactersIn 66 = .ok (.bipush 126, 2) := by decide +kernel
theorem dX8_charactersIn_68 : decode cX8_charactersIn 68 = .ok (.invokestatic 40, 3) := by decide +kernel
theorem dX8_charactersIn_71 : decode cX8_charactersIn 71 = .ok (.ifCond .eq 7, 3) := by decide +kernel
theorem dX8_charactersIn_74 : decode cX8_charactersIn 74 = .ok (.iconst 1, 1) := by decide +kernel
theorem dX8_charactersIn_75 : decode cX8_charactersIn 75 = .ok (.goto 4, 3) := by decide +kernel
theorem dX8_charactersIn_78 : decode cX8_charactersIn 78 = .ok (.iconst 0, 1) := by decide +kernel
theorem dX8_charactersIn_79 : decode cX8_charactersIn 79 = .ok (.istore_n 3, 1) := by decide +kernel
theorem dX8_charactersIn_80 : decode cX8_charactersIn 80 = .ok (.iinc 4 1, 3) := by decide +kernel
theorem dX8_charactersIn_83 : decode cX8_charactersIn 83 = .ok (.goto (-35), 3) := by decide +kernel
theorem dX8_charactersIn_86 : decode cX8_charactersIn 86 = .ok (.iload_n 3, 1) := by decide +kernel
theorem dX8_charactersIn_87 : decode cX8_charactersIn 87 = .ok (.ifCond .eq 7, 3) := by decide +kernel
theorem dX8_charactersIn_90 : decode cX8_charactersIn 90 = .ok (.iload_n 2, 1) := by decide +kernel
theorem dX8_charactersIn_91 : decode cX8_charactersIn 91 = .ok (.goto 4, 3) := by decide +kernel
theorem dX8_charactersIn_94 : decode cX8_charactersIn 94 = .ok (.iconst 0, 1) := by decide +kernel
theorem dX8_charactersIn_95 : decode cX8_charactersIn 95 = .ok (.ireturn, 1) := by decide +kernel
set_option maxRecDepth 20000 in
theorem ggX8_write_X8_charactersIn : GoodIn wsX8_write wsX8_charactersIn := goodIn_r _ [6, 7, 8, 5, 9, 10, 11, 12, 13] (by decide +kernel) (by decide +kernel)
set_option maxRecDepth 20000 in
theorem gX8_write_X8_charactersIn : GoodIn wsX8_write (va_wsS RX8 167 yX8_charactersIn wsX8_charactersIn) := goodIn_app (goodIn_of _ (by decide +kernel)) ggX8_write_X8_charactersIn
set_option maxRecDepth 20000 in
theorem ggX8_write_X8_codeAt : GoodIn wsX8_write wsX8_codeAt := goodIn_r _ [9, 10] (by decide +kernel) (by decide +kernel)
set_option maxRecDepth 20000 in
theorem gX8_write_X8_codeAt : GoodIn wsX8_write (va_wsS RX8 163 yX8_codeAt wsX8_codeAt) := goodIn_app (goodIn_of _ (by decide +kernel)) ggX8_write_X8_codeAt
theorem dX8_write_0 : decode cX8_write 0 = .ok (.lload_n 1, 1) := by decide +kernel
theorem dX8_write_1 : decode cX8_write 1 = .ok (.invokestatic 167, 3) := by decide +kernel
theorem dX8_write_4 : decode cX8_write 4 = .ok (.istore_n 3, 1) := by decide +kernel
theorem dX8_write_5 : decode cX8_write 5 = .ok (.iload_n 3, 1) := by decide +kernel
theorem dX8_write_6 : decode cX8_write 6 = .ok (.ifCond .ne 6, 3) := by decide +kernel
theorem dX8_write_9 : decode cX8_write 9 = .ok (.bipush (-2), 2) := by decide +kernel
theorem dX8_write_11 : decode cX8_write 11 = .ok (.ireturn, 1) := by decide +kernel
theorem dX8_write_12 : decode cX8_write 12 = .ok (.aload_n 0, 1) := by decide +kernel
theorem dX8_write_13 : decode cX8_write 13 = .ok (.getfield 105, 3) := by decide +kernel
theorem dX8_write_16 : decode cX8_write 16 = .ok (.iload_n 3, 1) := by decide +kernel
theorem dX8_write_17 : decode cX8_write 17 = .ok (.iadd, 1) := by decide +kernel
theorem dX8_write_18 : decode cX8_write 18 = .ok (.bipush 40, 2) := by decide +kernel
theorem dX8_write_20 : decode cX8_write 20 = .ok (.if_icmp .le 6, 3) := by decide +kernel
theorem dX8_write_23 : decode cX8_write 23 = .ok (.bipush (-4), 2) := by decide +kernel
theorem dX8_write_25 : decode cX8_write 25 = .ok (.ireturn, 1) := by decide +kernel
theorem dX8_write_26 : decode cX8_write 26 = .ok (.iload_n 3, 1) := by decide +kernel
theorem dX8_write_27 : decode cX8_write 27 = .ok (.iconst 1, 1) := by decide +kernel
theorem dX8_write_28 : decode cX8_write 28 = .ok (.isub, 1) := by decide +kernel
theorem dX8_write_29 : decode cX8_write 29 = .ok (.istore 4, 2) := by decide +kernel
theorem dX8_write_31 : decode cX8_write 31 = .ok (.iload 4, 2) := by decide +kernel
theorem dX8_write_33 : decode cX8_write 33 = .ok (.ifCond .lt 34, 3) := by decide +kernel
theorem dX8_write_36 : decode cX8_write 36 = .ok (.aload_n 0, 1) := by decide +kernel
theorem dX8_write_37 : decode cX8_write 37 = .ok (.getfield 22, 3) := by decide +kernel
theorem dX8_write_40 : decode cX8_write 40 = .ok (.aload_n 0, 1) := by decide +kernel
theorem dX8_write_41 : decode cX8_write 41 = .ok (.getfield 105, 3) := by decide +kernel
theorem dX8_write_44 : decode cX8_write 44 = .ok (.lload_n 1, 1) := by decide +kernel
theorem dX8_write_45 : decode cX8_write 45 = .ok (.iload 4, 2) := by decide +kernel
theorem dX8_write_47 : decode cX8_write 47 = .ok (.invokestatic 163, 3) := by decide +kernel
theorem dX8_write_50 : decode cX8_write 50 = .ok (.iastore, 1) := by decide +kernel
theorem dX8_write_51 : decode cX8_write 51 = .ok (.aload_n 0, 1) := by decide +kernel
theorem dX8_write_52 : decode cX8_write 52 = .ok (.dup, 1) := by decide +kernel
theorem dX8_write_53 : decode cX8_write 53 = .ok (.getfield 105, 3) := by decide +kernel
theorem dX8_write_56 : decode cX8_write 56 = .ok (.iconst 1, 1) := by decide +kernel
theorem dX8_write_57 : decode cX8_write 57 = .ok (.iadd, 1) := by decide +kernel
theorem dX8_write_58 : decode cX8_write 58 = .ok (.putfield 105, 3) := by decide +kernel
theorem dX8_write_61 : decode cX8_write 61 = .ok (.iinc 4 (-1), 3) := by decide +kernel
theorem dX8_write_64 : decode cX8_write 64 = .ok (.goto (-33), 3) := by decide +kernel
theorem dX8_write_67 : decode cX8_write 67 = .ok (.aload_n 0, 1) := by decide +kernel
theorem dX8_write_68 : decode cX8_write 68 = .ok (.getfield 105, 3) := by decide +kernel
theorem dX8_write_71 : decode cX8_write 71 = .ok (.ireturn, 1) := by decide +kernel
theorem dX8_wipe_0 : decode cX8_wipe 0 = .ok (.aload_n 0, 1) := by decide +kernel
theorem dX8_wipe_1 : decode cX8_wipe 1 = .ok (.getfield 105, 3) := by decide +kernel
theorem dX8_wipe_4 : decode cX8_wipe 4 = .ok (.istore_n 1, 1) := by decide +kernel
theorem dX8_wipe_5 : decode cX8_wipe 5 = .ok (.aload_n 0, 1) := by decide +kernel
theorem dX8_wipe_6 : decode cX8_wipe 6 = .ok (.iconst 0, 1) := by decide +kernel
theorem dX8_wipe_7 : decode cX8_wipe 7 = .ok (.putfield 105, 3) := by decide +kernel
theorem dX8_wipe_10 : decode cX8_wipe 10 = .ok (.iload_n 1, 1) := by decide +kernel
theorem dX8_wipe_11 : decode cX8_wipe 11 = .ok (.ireturn, 1) := by decide +kernel
theorem dX8_next_0 : decode cX8_next 0 = .ok (.aload_n 0, 1) := by decide +kernel
theorem dX8_next_1 : decode cX8_next 1 = .ok (.getfield 171, 3) := by decide +kernel
theorem dX8_next_4 : decode cX8_next 4 = .ok (.aload_n 0, 1) := by decide +kernel
theorem dX8_next_5 : decode cX8_next 5 = .ok (.getfield 105, 3) := by decide +kernel
theorem dX8_next_8 : decode cX8_next 8 = .ok (.if_icmp .ge 15, 3) := by decide +kernel
theorem dX8_next_11 : decode cX8_next 11 = .ok (.aload_n 0, 1) := by decide +kernel
theorem dX8_next_12 : decode cX8_next 12 = .ok (.getfield 22, 3) := by decide +kernel
theorem dX8_next_15 : decode cX8_next 15 = .ok (.aload_n 0, 1) := by decide +kernel
theorem dX8_next_16 : decode cX8_next 16 = .ok (.getfield 171, 3) := by decide +kernel
theorem dX8_next_19 : decode cX8_next 19 = .ok (.iaload, 1) := by decide +kernel
theorem dX8_next_20 : decode cX8_next 20 = .ok (.goto 4, 3) := by decide +kernel
theorem dX8_next_23 : decode cX8_next 23 = .ok (.iconst 0, 1) := by decide +kernel
theorem dX8_next_24 : decode cX8_next 24 = .ok (.ireturn, 1) := by decide +kernel
set_option maxRecDepth 20000 in
theorem ggX8_readsPress_X8_next : GoodIn wsX8_readsPress wsX8_next := goodIn_r _ [8, 2, 9, 10, 14, 15, 16, 17, 18, 19, 20, 21, 22, 23, 24, 25, 26, 27, 28] (by decide +kernel) (by decide +kernel)
set_option maxRecDepth 20000 in
theorem gX8_readsPress_X8_next : GoodIn wsX8_readsPress (wsV RX8 174 RX8 yX8_next wsX8_next) := goodIn_app (goodIn_of _ (by decide +kernel)) ggX8_readsPress_X8_next
set_option maxRecDepth 20000 in
theorem ggX8_readsPress_X8_within : GoodIn wsX8_readsPress wsX8_within := goodIn_r _ [13] (by decide +kernel) (by decide +kernel)
set_option maxRecDepth 20000 in
theorem gX8_readsPress_X8_within : GoodIn wsX8_readsPress (va_wsS RX8 40 yX8_within wsX8_within) := goodIn_app (goodIn_of _ (by decide +kernel)) ggX8_readsPress_X8_within
theorem dX8_readsPress_0 : decode cX8_readsPress 0 = .ok (.aload_n 0, 1) := by decide +kernel
theorem dX8_readsPress_1 : decode cX8_readsPress 1 = .ok (.invokevirtual 174, 3) := by decide +kernel
theorem dX8_readsPress_4 : decode cX8_readsPress 4 = .ok (.bipush 97, 2) := by decide +kernel
theorem dX8_readsPress_6 : decode cX8_readsPress 6 = .ok (.isub, 1) := by decide +kernel
theorem dX8_readsPress_7 : decode cX8_readsPress 7 = .ok (.istore_n 1, 1) := by decide +kernel
theorem dX8_readsPress_8 : decode cX8_readsPress 8 = .ok (.aload_n 0, 1) := by decide +kernel
theorem dX8_readsPress_9 : decode cX8_readsPress 9 = .ok (.invokevirtual 174, 3) := by decide +kernel
theorem dX8_readsPress_12 : decode cX8_readsPress 12 = .ok (.bipush 65, 2) := by decide +kernel
theorem dX8_readsPress_14 : decode cX8_readsPress 14 = .ok (.isub, 1) := by decide +kernel
theorem dX8_readsPress_15 : decode cX8_readsPress 15 = .ok (.istore_n 2, 1) := by decide +kernel
theorem dX8_readsPress_16 : decode cX8_readsPress 16 = .ok (.iload_n 1, 1) := by decide +kernel
theorem dX8_readsPress_17 : decode cX8_readsPress 17 = .ok (.iconst 0, 1) := by decide +kernel
theorem dX8_readsPress_18 : decode cX8_readsPress 18 = .ok (.iconst 5, 1) := by decide +kernel
theorem dX8_readsPress_19 : decode cX8_readsPress 19 = .ok (.invokestatic 40, 3) := by decide +kernel
theorem dX8_readsPress_22 : decode cX8_readsPress 22 = .ok (.ifCond .eq 7, 3) := by decide +kernel
theorem dX8_readsPress_25 : decode cX8_readsPress 25 = .ok (.iload_n 1, 1) := by decide +kernel
theorem dX8_readsPress_26 : decode cX8_readsPress 26 = .ok (.goto 21, 3) := by decide +kernel
theorem dX8_readsPress_29 : decode cX8_readsPress 29 = .ok (.iload_n 2, 1) := by decide +kernel
theorem dX8_readsPress_30 : decode cX8_readsPress 30 = .ok (.iconst 0, 1) := by decide +kernel
theorem dX8_readsPress_31 : decode cX8_readsPress 31 = .ok (.iconst 5, 1) := by decide +kernel
theorem dX8_readsPress_32 : decode cX8_readsPress 32 = .ok (.invokestatic 40, 3) := by decide +kernel
theorem dX8_readsPress_35 : decode cX8_readsPress 35 = .ok (.ifCond .eq 10, 3) := by decide +kernel
theorem dX8_readsPress_38 : decode cX8_readsPress 38 = .ok (.iload_n 2, 1) := by decide +kernel
theorem dX8_readsPress_39 : decode cX8_readsPress 39 = .ok (.bipush 6, 2) := by decide +kernel
theorem dX8_readsPress_41 : decode cX8_readsPress 41 = .ok (.iadd, 1) := by decide +kernel
theorem dX8_readsPress_42 : decode cX8_readsPress 42 = .ok (.goto 5, 3) := by decide +kernel
theorem dX8_readsPress_45 : decode cX8_readsPress 45 = .ok (.bipush (-6), 2) := by decide +kernel
theorem dX8_readsPress_47 : decode cX8_readsPress 47 = .ok (.istore_n 3, 1) := by decide +kernel
theorem dX8_readsPress_48 : decode cX8_readsPress 48 = .ok (.iload_n 3, 1) := by decide +kernel
theorem dX8_readsPress_49 : decode cX8_readsPress 49 = .ok (.bipush (-6), 2) := by decide +kernel
theorem dX8_readsPress_51 : decode cX8_readsPress 51 = .ok (.if_icmp .eq 12, 3) := by decide +kernel
theorem dX8_readsPress_54 : decode cX8_readsPress 54 = .ok (.aload_n 0, 1) := by decide +kernel
theorem dX8_readsPress_55 : decode cX8_readsPress 55 = .ok (.getfield 96, 3) := by decide +kernel
theorem dX8_readsPress_58 : decode cX8_readsPress 58 = .ok (.bipush 24, 2) := by decide +kernel
theorem dX8_readsPress_60 : decode cX8_readsPress 60 = .ok (.if_icmp .ne 5, 3) := by decide +kernel
theorem dX8_readsPress_63 : decode cX8_readsPress 63 = .ok (.iconst 0, 1) := by decide +kernel
theorem dX8_readsPress_64 : decode cX8_readsPress 64 = .ok (.ireturn, 1) := by decide +kernel
theorem dX8_readsPress_65 : decode cX8_readsPress 65 = .ok (.aload_n 0, 1) := by decide +kernel
theorem dX8_readsPress_66 : decode cX8_readsPress 66 = .ok (.dup, 1) := by decide +kernel
theorem dX8_readsPress_67 : decode cX8_readsPress 67 = .ok (.getfield 171, 3) := by decide +kernel
theorem dX8_readsPress_70 : decode cX8_readsPress 70 = .ok (.iconst 1, 1) := by decide +kernel
theorem dX8_readsPress_71 : decode cX8_readsPress 71 = .ok (.iadd, 1) := by decide +kernel
theorem dX8_readsPress_72 : decode cX8_readsPress 72 = .ok (.putfield 171, 3) := by decide +kernel
theorem dX8_readsPress_75 : decode cX8_readsPress 75 = .ok (.aload_n 0, 1) := by decide +kernel
theorem dX8_readsPress_76 : decode cX8_readsPress 76 = .ok (.invokevirtual 174, 3) := by decide +kernel
theorem dX8_readsPress_79 : decode cX8_readsPress 79 = .ok (.bipush 50, 2) := by decide +kernel
theorem dX8_readsPress_81 : decode cX8_readsPress 81 = .ok (.bipush 57, 2) := by decide +kernel
theorem dX8_readsPress_83 : decode cX8_readsPress 83 = .ok (.invokestatic 40, 3) := by decide +kernel
theorem dX8_readsPress_86 : decode cX8_readsPress 86 = .ok (.ifCond .eq 13, 3) := by decide +kernel
theorem dX8_readsPress_89 : decode cX8_readsPress 89 = .ok (.aload_n 0, 1) := by decide +kernel
theorem dX8_readsPress_90 : decode cX8_readsPress 90 = .ok (.invokevirtual 174, 3) := by decide +kernel
theorem dX8_readsPress_93 : decode cX8_readsPress 93 = .ok (.bipush 48, 2) := by decide +kernel
theorem dX8_readsPress_95 : decode cX8_readsPress 95 = .ok (.isub, 1) := by decide +kernel
theorem dX8_readsPress_96 : decode cX8_readsPress 96 = .ok (.goto 4, 3) := by decide +kernel
theorem dX8_readsPress_99 : decode cX8_readsPress 99 = .ok (.iconst 1, 1) := by decide +kernel
theorem dX8_readsPress_100 : decode cX8_readsPress 100 = .ok (.istore 4, 2) := by decide +kernel
theorem dX8_readsPress_102 : decode cX8_readsPress 102 = .ok (.aload_n 0, 1) := by decide +kernel
theorem dX8_readsPress_103 : decode cX8_readsPress 103 = .ok (.getfield 96, 3) := by decide +kernel
theorem dX8_readsPress_106 : decode cX8_readsPress 106 = .ok (.iload 4, 2) := by decide +kernel
theorem dX8_readsPress_108 : decode cX8_readsPress 108 = .ok (.iadd, 1) := by decide +kernel
theorem dX8_readsPress_109 : decode cX8_readsPress 109 = .ok (.bipush 24, 2) := by decide +kernel
theorem dX8_readsPress_111 : decode cX8_readsPress 111 = .ok (.if_icmp .le 5, 3) := by decide +kernel
theorem dX8_readsPress_114 : decode cX8_readsPress 114 = .ok (.iconst 0, 1) := by decide +kernel
theorem dX8_readsPress_115 : decode cX8_readsPress 115 = .ok (.ireturn, 1) := by decide +kernel
theorem dX8_readsPress_116 : decode cX8_readsPress 116 = .ok (.aload_n 0, 1) := by decide +kernel
theorem dX8_readsPress_117 : decode cX8_readsPress 117 = .ok (.dup, 1) := by decide +kernel
theorem dX8_readsPress_118 : decode cX8_readsPress 118 = .ok (.getfield 171, 3) := by decide +kernel
theorem dX8_readsPress_121 : decode cX8_readsPress 121 = .ok (.iload 4, 2) := by decide +kernel
theorem dX8_readsPress_123 : decode cX8_readsPress 123 = .ok (.iconst 1, 1) := by decide +kernel
theorem dX8_readsPress_124 : decode cX8_readsPress 124 = .ok (.if_icmp .le 7, 3) := by decide +kernel
theorem dX8_readsPress_127 : decode cX8_readsPress 127 = .ok (.iconst 1, 1) := by decide +kernel
theorem dX8_readsPress_128 : decode cX8_readsPress 128 = .ok (.goto 4, 3) := by decide +kernel
theorem dX8_readsPress_131 : decode cX8_readsPress 131 = .ok (.iconst 0, 1) := by decide +kernel
theorem dX8_readsPress_132 : decode cX8_readsPress 132 = .ok (.iadd, 1) := by decide +kernel
theorem dX8_readsPress_133 : decode cX8_readsPress 133 = .ok (.putfield 171, 3) := by decide +kernel
theorem dX8_readsPress_136 : decode cX8_readsPress 136 = .ok (.iconst 0, 1) := by decide +kernel
theorem dX8_readsPress_137 : decode cX8_readsPress 137 = .ok (.istore 5, 2) := by decide +kernel
theorem dX8_readsPress_139 : decode cX8_readsPress 139 = .ok (.iload 5, 2) := by decide +kernel
theorem dX8_readsPress_141 : decode cX8_readsPress 141 = .ok (.iload 4, 2) := by decide +kernel
theorem dX8_readsPress_143 : decode cX8_readsPress 143 = .ok (.if_icmp .ge 29, 3) := by decide +kernel
theorem dX8_readsPress_146 : decode cX8_readsPress 146 = .ok (.aload_n 0, 1) := by decide +kernel
theorem dX8_readsPress_147 : decode cX8_readsPress 147 = .ok (.getfield 25, 3) := by decide +kernel
theorem dX8_readsPress_150 : decode cX8_readsPress 150 = .ok (.aload_n 0, 1) := by decide +kernel
theorem dX8_readsPress_151 : decode cX8_readsPress 151 = .ok (.getfield 96, 3) := by decide +kernel
theorem dX8_readsPress_154 : decode cX8_readsPress 154 = .ok (.iload_n 3, 1) := by decide +kernel
theorem dX8_readsPress_155 : decode cX8_readsPress 155 = .ok (.iastore, 1) := by decide +kernel
theorem dX8_readsPress_156 : decode cX8_readsPress 156 = .ok (.aload_n 0, 1) := by decide +kernel
theorem dX8_readsPress_157 : decode cX8_readsPress 157 = .ok (.dup, 1) := by decide +kernel
theorem dX8_readsPress_158 : decode cX8_readsPress 158 = .ok (.getfield 96, 3) := by decide +kernel
theorem dX8_readsPress_161 : decode cX8_readsPress 161 = .ok (.iconst 1, 1) := by decide +kernel
theorem dX8_readsPress_162 : decode cX8_readsPress 162 = .ok (.iadd, 1) := by decide +kernel
theorem dX8_readsPress_163 : decode cX8_readsPress 163 = .ok (.putfield 96, 3) := by decide +kernel
theorem dX8_readsPress_166 : decode cX8_readsPress 166 = .ok (.iinc 5 1, 3) := by decide +kernel
theorem dX8_readsPress_169 : decode cX8_readsPress 169 = .ok (.goto (-30), 3) := by decide +kernel
theorem dX8_readsPress_172 : decode cX8_readsPress 172 = .ok (.iconst 1, 1) := by decide +kernel
theorem dX8_readsPress_173 : decode cX8_readsPress 173 = .ok (.ireturn, 1) := by decide +kernel
set_option maxRecDepth 20000 in
theorem ggX8_findFault_X8_readsPress : GoodIn wsX8_findFault wsX8_readsPress := goodIn_r _ [8, 2, 1, 9, 10, 11, 12, 7, 13, 3, 14, 15, 16, 17, 18, 19, 20, 21, 22, 23, 24, 25, 26, 27, 28, 29, 30, 31, 32] (by decide +kernel) (by decide +kernel)
set_option maxRecDepth 20000 in
theorem gX8_findFault_X8_readsPress : GoodIn wsX8_findFault (wsV RX8 177 RX8 yX8_readsPress wsX8_readsPress) := goodIn_app (goodIn_of _ (by decide +kernel)) ggX8_findFault_X8_readsPress
theorem dX8_findFault_0 : decode cX8_findFault 0 = .ok (.aload_n 0, 1) := by decide +kernel
theorem dX8_findFault_1 : decode cX8_findFault 1 = .ok (.iconst 0, 1) := by decide +kernel
theorem dX8_findFault_2 : decode cX8_findFault 2 = .ok (.putfield 171, 3) := by decide +kernel
theorem dX8_findFault_5 : decode cX8_findFault 5 = .ok (.aload_n 0, 1) := by decide +kernel
theorem dX8_findFault_6 : decode cX8_findFault 6 = .ok (.iconst 0, 1) := by decide +kernel
theorem dX8_findFault_7 : decode cX8_findFault 7 = .ok (.putfield 96, 3) := by decide +kernel
theorem dX8_findFault_10 : decode cX8_findFault 10 = .ok (.iconst 1, 1) := by decide +kernel
theorem dX8_findFault_11 : decode cX8_findFault 11 = .ok (.istore_n 1, 1) := by decide +kernel
theorem dX8_findFault_12 : decode cX8_findFault 12 = .ok (.iload_n 1, 1) := by decide +kernel
theorem dX8_findFault_13 : decode cX8_findFault 13 = .ok (.ifCond .eq 22, 3) := by decide +kernel
theorem dX8_findFault_16 : decode cX8_findFault 16 = .ok (.aload_n 0, 1) := by decide +kernel
theorem dX8_findFault_17 : decode cX8_findFault 17 = .ok (.getfield 171, 3) := by decide +kernel
theorem dX8_findFault_20 : decode cX8_findFault 20 = .ok (.aload_n 0, 1) := by decide +kernel
theorem dX8_findFault_21 : decode cX8_findFault 21 = .ok (.getfield 105, 3) := by decide +kernel
theorem dX8_findFault_24 : decode cX8_findFault 24 = .ok (.if_icmp .ge 11, 3) := by decide +kernel
theorem dX8_findFault_27 : decode cX8_findFault 27 = .ok (.aload_n 0, 1) := by decide +kernel
theorem dX8_findFault_28 : decode cX8_findFault 28 = .ok (.invokevirtual 177, 3) := by decide +kernel
theorem dX8_findFault_31 : decode cX8_findFault 31 = .ok (.istore_n 1, 1) := by decide +kernel
theorem dX8_findFault_32 : decode cX8_findFault 32 = .ok (.goto (-20), 3) := by decide +kernel
theorem dX8_findFault_35 : decode cX8_findFault 35 = .ok (.iload_n 1, 1) := by decide +kernel
theorem dX8_findFault_36 : decode cX8_findFault 36 = .ok (.ifCond .eq 15, 3) := by decide +kernel
theorem dX8_findFault_39 : decode cX8_findFault 39 = .ok (.aload_n 0, 1) := by decide +kernel
theorem dX8_findFault_40 : decode cX8_findFault 40 = .ok (.getfield 105, 3) := by decide +kernel
theorem dX8_findFault_43 : decode cX8_findFault 43 = .ok (.ifCond .le 8, 3) := by decide +kernel
theorem dX8_findFault_46 : decode cX8_findFault 46 = .ok (.bipush (-6), 2) := by decide +kernel
theorem dX8_findFault_48 : decode cX8_findFault 48 = .ok (.goto 7, 3) := by decide +kernel
theorem dX8_findFault_51 : decode cX8_findFault 51 = .ok (.aload_n 0, 1) := by decide +kernel
theorem dX8_findFault_52 : decode cX8_findFault 52 = .ok (.getfield 171, 3) := by decide +kernel
theorem dX8_findFault_55 : decode cX8_findFault 55 = .ok (.ireturn, 1) := by decide +kernel
set_option maxRecDepth 20000 in
theorem ggX8_fault_X8_findFault : GoodIn wsX8_fault wsX8_findFault := goodIn_r _ [5, 6, 7, 8, 9, 10, 11, 4, 12, 13, 14, 15, 16, 17, 18, 19, 20, 21, 22, 23, 24, 25, 26, 27, 28, 29, 30, 31, 32, 33, 34, 35, 36] (by decide +kernel) (by decide +kernel)
set_option maxRecDepth 20000 in
theorem gX8_fault_X8_findFault : GoodIn wsX8_fault (wsV RX8 102 RX8 yX8_findFault wsX8_findFault) := goodIn_app (goodIn_of _ (by decide +kernel)) ggX8_fault_X8_findFault
theorem dX8_fault_0 : decode cX8_fault 0 = .ok (.aload_n 0, 1) := by decide +kernel
theorem dX8_fault_1 : decode cX8_fault 1 = .ok (.invokevirtual 102, 3) := by decide +kernel
theorem dX8_fault_4 : decode cX8_fault 4 = .ok (.ireturn, 1) := by decide +kernel
theorem dJ6_bitCount_0f7a4_0 : decode cJ6_bitCount_0f7a4 0 = .ok (.iload_n 0, 1) := by decide +kernel
theorem dJ6_bitCount_0f7a4_1 : decode cJ6_bitCount_0f7a4 1 = .ok (.iload_n 0, 1) := by decide +kernel
theorem dJ6_bitCount_0f7a4_2 : decode cJ6_bitCount_0f7a4 2 = .ok (.iconst 1, 1) := by decide +kernel
theorem dJ6_bitCount_0f7a4_3 : decode cJ6_bitCount_0f7a4 3 = .ok (.iushr, 1) := by decide +kernel
theorem dJ6_bitCount_0f7a4_4 : decode cJ6_bitCount_0f7a4 4 = .ok (.ldc_w 265, 3) := by decide +kernel
theorem dJ6_bitCount_0f7a4_7 : decode cJ6_bitCount_0f7a4 7 = .ok (.iand, 1) := by decide +kernel
theorem dJ6_bitCount_0f7a4_8 : decode cJ6_bitCount_0f7a4 8 = .ok (.isub, 1) := by decide +kernel
theorem dJ6_bitCount_0f7a4_9 : decode cJ6_bitCount_0f7a4 9 = .ok (.istore_n 0, 1) := by decide +kernel
theorem dJ6_bitCount_0f7a4_10 : decode cJ6_bitCount_0f7a4 10 = .ok (.iload_n 0, 1) := by decide +kernel
theorem dJ6_bitCount_0f7a4_11 : decode cJ6_bitCount_0f7a4 11 = .ok (.ldc_w 266, 3) := by decide +kernel
theorem dJ6_bitCount_0f7a4_14 : decode cJ6_bitCount_0f7a4 14 = .ok (.iand, 1) := by decide +kernel
theorem dJ6_bitCount_0f7a4_15 : decode cJ6_bitCount_0f7a4 15 = .ok (.iload_n 0, 1) := by decide +kernel
theorem dJ6_bitCount_0f7a4_16 : decode cJ6_bitCount_0f7a4 16 = .ok (.iconst 2, 1) := by decide +kernel
theorem dJ6_bitCount_0f7a4_17 : decode cJ6_bitCount_0f7a4 17 = .ok (.iushr, 1) := by decide +kernel
theorem dJ6_bitCount_0f7a4_18 : decode cJ6_bitCount_0f7a4 18 = .ok (.ldc_w 266, 3) := by decide +kernel
theorem dJ6_bitCount_0f7a4_21 : decode cJ6_bitCount_0f7a4 21 = .ok (.iand, 1) := by decide +kernel
theorem dJ6_bitCount_0f7a4_22 : decode cJ6_bitCount_0f7a4 22 = .ok (.iadd, 1) := by decide +kernel
theorem dJ6_bitCount_0f7a4_23 : decode cJ6_bitCount_0f7a4 23 = .ok (.istore_n 0, 1) := by decide +kernel
theorem dJ6_bitCount_0f7a4_24 : decode cJ6_bitCount_0f7a4 24 = .ok (.iload_n 0, 1) := by decide +kernel
theorem dJ6_bitCount_0f7a4_25 : decode cJ6_bitCount_0f7a4 25 = .ok (.iload_n 0, 1) := by decide +kernel
theorem dJ6_bitCount_0f7a4_26 : decode cJ6_bitCount_0f7a4 26 = .ok (.iconst 4, 1) := by decide +kernel
theorem dJ6_bitCount_0f7a4_27 : decode cJ6_bitCount_0f7a4 27 = .ok (.iushr, 1) := by decide +kernel
theorem dJ6_bitCount_0f7a4_28 : decode cJ6_bitCount_0f7a4 28 = .ok (.iadd, 1) := by decide +kernel
theorem dJ6_bitCount_0f7a4_29 : decode cJ6_bitCount_0f7a4 29 = .ok (.ldc_w 267, 3) := by decide +kernel
theorem dJ6_bitCount_0f7a4_32 : decode cJ6_bitCount_0f7a4 32 = .ok (.iand, 1) := by decide +kernel
theorem dJ6_bitCount_0f7a4_33 : decode cJ6_bitCount_0f7a4 33 = .ok (.istore_n 0, 1) := by decide +kernel
theorem dJ6_bitCount_0f7a4_34 : decode cJ6_bitCount_0f7a4 34 = .ok (.iload_n 0, 1) := by decide +kernel
theorem dJ6_bitCount_0f7a4_35 : decode cJ6_bitCount_0f7a4 35 = .ok (.iload_n 0, 1) := by decide +kernel
theorem dJ6_bitCount_0f7a4_36 : decode cJ6_bitCount_0f7a4 36 = .ok (.bipush 8, 2) := by decide +kernel
theorem dJ6_bitCount_0f7a4_38 : decode cJ6_bitCount_0f7a4 38 = .ok (.iushr, 1) := by decide +kernel
theorem dJ6_bitCount_0f7a4_39 : decode cJ6_bitCount_0f7a4 39 = .ok (.iadd, 1) := by decide +kernel
theorem dJ6_bitCount_0f7a4_40 : decode cJ6_bitCount_0f7a4 40 = .ok (.istore_n 0, 1) := by decide +kernel
theorem dJ6_bitCount_0f7a4_41 : decode cJ6_bitCount_0f7a4 41 = .ok (.iload_n 0, 1) := by decide +kernel
theorem dJ6_bitCount_0f7a4_42 : decode cJ6_bitCount_0f7a4 42 = .ok (.iload_n 0, 1) := by decide +kernel
theorem dJ6_bitCount_0f7a4_43 : decode cJ6_bitCount_0f7a4 43 = .ok (.bipush 16, 2) := by decide +kernel
theorem dJ6_bitCount_0f7a4_45 : decode cJ6_bitCount_0f7a4 45 = .ok (.iushr, 1) := by decide +kernel
theorem dJ6_bitCount_0f7a4_46 : decode cJ6_bitCount_0f7a4 46 = .ok (.iadd, 1) := by decide +kernel
theorem dJ6_bitCount_0f7a4_47 : decode cJ6_bitCount_0f7a4 47 = .ok (.istore_n 0, 1) := by decide +kernel
theorem dJ6_bitCount_0f7a4_48 : decode cJ6_bitCount_0f7a4 48 = .ok (.iload_n 0, 1) := by decide +kernel
theorem dJ6_bitCount_0f7a4_49 : decode cJ6_bitCount_0f7a4 49 = .ok (.bipush 63, 2) := by decide +kernel
theorem dJ6_bitCount_0f7a4_51 : decode cJ6_bitCount_0f7a4 51 = .ok (.iand, 1) := by decide +kernel
theorem dJ6_bitCount_0f7a4_52 : decode cJ6_bitCount_0f7a4 52 = .ok (.ireturn, 1) := by decide +kernel
set_option maxRecDepth 20000 in
theorem ggL_law_X7_init : GoodIn wsL_law wsX7_init := goodIn_r _ [9, 10, 11, 12, 13, 14, 15, 16, 17, 18, 19, 20, 21, 22, 23, 24, 25, 26, 27, 28, 29, 30, 31, 32, 33, 34, 35, 36, 37, 38, 39, 40, 41, 42, 43, 44, 45, 46, 47, 48, 49, 50, 51, 52, 53, 54, 55, 56, 57, 58, 59, 60, 61, 62, 63, 64, 65, 66, 67, 68, 69, 70, 71, 72, 73, 74, 680, 681, 682, 683, 684, 685, 686, 659, 660, 661, 662, 663, 664, 687, 688, 689, 690, 691, 692, 693, 694, 695, 696, 697] (by decide +kernel) (by decide +kernel)
set_option maxRecDepth 20000 in
theorem gL_law_X7_init : GoodIn wsL_law (wsX7_init) := ggL_law_X7_init
set_option maxRecDepth 20000 in
theorem ggL_law_X8_init : GoodIn wsL_law wsX8_init := goodIn_r _ [77, 78, 11, 12, 43, 79, 80, 81, 82, 83, 84, 85, 86, 87, 88, 665, 666, 667, 668, 669, 670, 671, 672, 673, 674, 675, 676, 677, 678, 679] (by decide +kernel) (by decide +kernel)
set_option maxRecDepth 20000 in
theorem gL_law_X8_init : GoodIn wsL_law (wsX8_init) := ggL_law_X8_init
set_option maxRecDepth 20000 in
theorem ggL_law_X7_put : GoodIn wsL_law wsX7_put := goodIn_r _ [92, 20, 16, 93, 94, 95, 2, 96, 97, 98, 99, 19, 100, 59, 58, 57, 14, 15, 101, 102, 103, 104, 105, 35, 36, 37, 11, 12, 38, 39, 40, 41, 42, 43, 44, 45, 46, 47, 48, 31, 32, 49, 50, 51, 52, 53, 106, 107, 108, 109, 110, 111, 112, 113, 114, 115, 116, 117, 118, 119, 120, 121, 122, 123, 124, 125, 126, 127, 659, 660, 661, 662, 663, 664, 680, 681, 682, 683, 684, 685, 686, 687, 688, 696, 697] (by decide +kernel) (by decide +kernel)
set_option maxRecDepth 20000 in
theorem gL_law_X7_put : GoodIn wsL_law (wsV RL 13 RX7 yX7_put wsX7_put) := goodIn_app (goodIn_of _ (by decide +kernel)) ggL_law_X7_put
set_option maxRecDepth 20000 in
theorem ggL_law_X8_put : GoodIn wsL_law wsX8_put := goodIn_r _ [131, 79, 132, 133, 5, 134, 135, 136, 137, 138, 139, 140, 141, 142, 80, 665, 666, 667, 668, 669, 670, 671, 672, 673, 674, 675, 676, 677, 678, 679] (by decide +kernel) (by decide +kernel)
set_option maxRecDepth 20000 in
theorem gL_law_X8_put : GoodIn wsL_law (wsV RL 17 RX8 yX8_put wsX8_put) := goodIn_app (goodIn_of _ (by decide +kernel)) ggL_law_X8_put
set_option maxRecDepth 20000 in
theorem ggL_law_X7_tie : GoodIn wsL_law wsX7_tie := goodIn_r _ [146, 20, 16, 147, 94, 95, 2, 96, 97, 98, 99, 19, 100, 59, 58, 57, 14, 15, 101, 102, 103, 104, 105, 35, 36, 37, 11, 12, 38, 39, 40, 41, 42, 43, 44, 45, 46, 47, 48, 31, 32, 49, 50, 51, 52, 53, 106, 107, 108, 109, 110, 111, 112, 113, 114, 115, 116, 117, 118, 148, 149, 150, 151, 152, 120, 121, 122, 153, 154, 155, 156, 157, 158, 159, 160, 161, 659, 660, 661, 662, 663, 664, 680, 681, 682, 683, 684, 685, 686, 687, 688, 696, 697] (by decide +kernel) (by decide +kernel)
set_option maxRecDepth 20000 in
theorem gL_law_X7_tie : GoodIn wsL_law (wsV RL 18 RX7 yX7_tie wsX7_tie) := goodIn_app (goodIn_of _ (by decide +kernel)) ggL_law_X7_tie
set_option maxRecDepth 20000 in
theorem ggL_law_X8_tie : GoodIn wsL_law wsX8_tie := goodIn_r _ [165, 79, 135, 136, 5, 137, 138, 139, 140, 141, 142, 80, 166, 167, 168, 169, 170, 171, 172, 665, 666, 667, 668, 669, 670, 671, 672, 673, 674, 675, 676, 677, 678, 679] (by decide +kernel) (by decide +kernel)
set_option maxRecDepth 20000 in
theorem gL_law_X8_tie : GoodIn wsL_law (wsV RL 21 RX8 yX8_tie wsX8_tie) := goodIn_app (goodIn_of _ (by decide +kernel)) ggL_law_X8_tie
set_option maxRecDepth 20000 in
theorem ggL_law_X7_read : GoodIn wsL_law wsX7_read := goodIn_r _ [176, 16, 25, 33, 20, 177, 178, 179, 180, 181, 15, 182, 46, 95, 2, 96, 183, 184, 185, 24, 186, 187, 65, 64, 188, 189, 190, 191, 192, 193, 194, 195, 196, 32, 197, 53, 52, 97, 98, 99, 19, 100, 59, 58, 57, 14, 101, 102, 103, 104, 105, 35, 36, 37, 11, 12, 38, 39, 40, 41, 42, 43, 44, 45, 47, 48, 31, 49, 50, 51, 106, 107, 108, 109, 110, 111, 112, 113, 114, 115, 116, 117, 118, 198, 659, 660, 661, 662, 663, 664, 689, 690, 696, 697, 680, 681, 682, 683, 684, 685, 686, 687, 688] (by decide +kernel) (by decide +kernel)
set_option maxRecDepth 20000 in
theorem gL_law_X7_read : GoodIn wsL_law (wsV RL 22 RX7 yX7_read wsX7_read) := goodIn_app (goodIn_of _ (by decide +kernel)) ggL_law_X7_read
set_option maxRecDepth 20000 in
theorem ggL_law_X8_read : GoodIn wsL_law wsX8_read := goodIn_r _ [202, 203, 204, 205, 5, 206, 135, 136, 137, 207, 208, 209, 210, 211, 212, 213, 214, 215, 216, 84, 217, 218, 219, 220, 83, 221, 222, 223, 224, 79, 138, 139, 140, 141, 142, 80, 665, 666, 667, 668, 669, 670, 671, 672, 673, 674, 675, 676, 677, 678, 679] (by decide +kernel) (by decide +kernel)
set_option maxRecDepth 20000 in
theorem gL_law_X8_read : GoodIn wsL_law (wsV RL 26 RX8 yX8_read wsX8_read) := goodIn_app (goodIn_of _ (by decide +kernel)) ggL_law_X8_read
set_option maxRecDepth 20000 in
theorem ggL_law_X7_compose : GoodIn wsL_law wsX7_compose := goodIn_r _ [228, 16, 178, 20, 33, 179, 180, 181, 15, 182, 46, 95, 2, 96, 97, 98, 99, 19, 100, 59, 58, 57, 14, 101, 102, 103, 104, 105, 35, 36, 37, 11, 12, 38, 39, 40, 41, 42, 43, 44, 45, 47, 48, 31, 32, 49, 50, 51, 52, 53, 106, 107, 108, 109, 110, 111, 112, 113, 114, 115, 116, 117, 118, 229, 230, 231, 232, 233, 234, 235, 236, 237, 195, 196, 197, 198, 659, 660, 661, 662, 663, 664, 696, 697, 680, 681, 682, 683, 684, 685, 686, 687, 688] (by decide +kernel) (by decide +kernel)
set_option maxRecDepth 20000 in
theorem gL_law_X7_compose : GoodIn wsL_law (wsV RL 27 RX7 yX7_compose wsX7_compose) := goodIn_app (goodIn_of _ (by decide +kernel)) ggL_law_X7_compose
