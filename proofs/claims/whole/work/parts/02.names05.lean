theorem dX7_gatherWays_16 : decode cX7_gatherWays 16 = .ok (.iload_n 1, 1) := by decide +kernel
theorem dX7_gatherWays_17 : decode cX7_gatherWays 17 = .ok (.iload_n 2, 1) := by decide +kernel
theorem dX7_gatherWays_18 : decode cX7_gatherWays 18 = .ok (.invokestatic 173, 3) := by decide +kernel
theorem dX7_gatherWays_21 : decode cX7_gatherWays 21 = .ok (.ifCond .eq 18, 3) := by decide +kernel
theorem dX7_gatherWays_24 : decode cX7_gatherWays 24 = .ok (.aload_n 0, 1) := by decide +kernel
theorem dX7_gatherWays_25 : decode cX7_gatherWays 25 = .ok (.getfield 37, 3) := by decide +kernel
theorem dX7_gatherWays_28 : decode cX7_gatherWays 28 = .ok (.aload_n 0, 1) := by decide +kernel
theorem dX7_gatherWays_29 : decode cX7_gatherWays 29 = .ok (.getfield 10, 3) := by decide +kernel
theorem dX7_gatherWays_32 : decode cX7_gatherWays 32 = .ok (.iload_n 2, 1) := by decide +kernel
theorem dX7_gatherWays_33 : decode cX7_gatherWays 33 = .ok (.invokevirtual 109, 3) := by decide +kernel
theorem dX7_gatherWays_36 : decode cX7_gatherWays 36 = .ok (.invokevirtual 207, 3) := by decide +kernel
theorem dX7_gatherWays_39 : decode cX7_gatherWays 39 = .ok (.iinc 2 1, 3) := by decide +kernel
theorem dX7_gatherWays_42 : decode cX7_gatherWays 42 = .ok (.goto (-32), 3) := by decide +kernel
theorem dX7_gatherWays_45 : decode cX7_gatherWays 45 = .ok (.return_, 1) := by decide +kernel
theorem dX7_isBelow_0 : decode cX7_isBelow 0 = .ok (.iload_n 0, 1) := by decide +kernel
theorem dX7_isBelow_1 : decode cX7_isBelow 1 = .ok (.ifCond .lt 12, 3) := by decide +kernel
theorem dX7_isBelow_4 : decode cX7_isBelow 4 = .ok (.iload_n 0, 1) := by decide +kernel
theorem dX7_isBelow_5 : decode cX7_isBelow 5 = .ok (.iload_n 1, 1) := by decide +kernel
theorem dX7_isBelow_6 : decode cX7_isBelow 6 = .ok (.if_icmp .ge 7, 3) := by decide +kernel
theorem dX7_isBelow_9 : decode cX7_isBelow 9 = .ok (.iconst 1, 1) := by decide +kernel
theorem dX7_isBelow_10 : decode cX7_isBelow 10 = .ok (.goto 4, 3) := by decide +kernel
theorem dX7_isBelow_13 : decode cX7_isBelow 13 = .ok (.iconst 0, 1) := by decide +kernel
theorem dX7_isBelow_14 : decode cX7_isBelow 14 = .ok (.ireturn, 1) := by decide +kernel
theorem dX7_hasBit_0 : decode cX7_hasBit 0 = .ok (.iload_n 0, 1) := by decide +kernel
theorem dX7_hasBit_1 : decode cX7_hasBit 1 = .ok (.iload_n 1, 1) := by decide +kernel
theorem dX7_hasBit_2 : decode cX7_hasBit 2 = .ok (.ishr, 1) := by decide +kernel
theorem dX7_hasBit_3 : decode cX7_hasBit 3 = .ok (.iconst 1, 1) := by decide +kernel
theorem dX7_hasBit_4 : decode cX7_hasBit 4 = .ok (.iand, 1) := by decide +kernel
theorem dX7_hasBit_5 : decode cX7_hasBit 5 = .ok (.iconst 1, 1) := by decide +kernel
theorem dX7_hasBit_6 : decode cX7_hasBit 6 = .ok (.if_icmp .ne 7, 3) := by decide +kernel
theorem dX7_hasBit_9 : decode cX7_hasBit 9 = .ok (.iconst 1, 1) := by decide +kernel
theorem dX7_hasBit_10 : decode cX7_hasBit 10 = .ok (.goto 4, 3) := by decide +kernel
theorem dX7_hasBit_13 : decode cX7_hasBit 13 = .ok (.iconst 0, 1) := by decide +kernel
theorem dX7_hasBit_14 : decode cX7_hasBit 14 = .ok (.ireturn, 1) := by decide +kernel
theorem dX7_asNumber_0 : decode cX7_asNumber 0 = .ok (.iload_n 0, 1) := by decide +kernel
theorem dX7_asNumber_1 : decode cX7_asNumber 1 = .ok (.ifCond .eq 7, 3) := by decide +kernel
theorem dX7_asNumber_4 : decode cX7_asNumber 4 = .ok (.iconst 1, 1) := by decide +kernel
theorem dX7_asNumber_5 : decode cX7_asNumber 5 = .ok (.goto 4, 3) := by decide +kernel
theorem dX7_asNumber_8 : decode cX7_asNumber 8 = .ok (.iconst 0, 1) := by decide +kernel
theorem dX7_asNumber_9 : decode cX7_asNumber 9 = .ok (.ireturn, 1) := by decide +kernel
theorem dX8_init_0 : decode cX8_init 0 = .ok (.aload_n 0, 1) := by decide +kernel
theorem dX8_init_1 : decode cX8_init 1 = .ok (.invokespecial 1, 3) := by decide +kernel
theorem dX8_init_4 : decode cX8_init 4 = .ok (.aload_n 0, 1) := by decide +kernel
theorem dX8_init_5 : decode cX8_init 5 = .ok (.sipush 194, 3) := by decide +kernel
theorem dX8_init_8 : decode cX8_init 8 = .ok (.newarray .int, 2) := by decide +kernel
theorem dX8_init_10 : decode cX8_init 10 = .ok (.putfield 7, 3) := by decide +kernel
theorem dX8_init_13 : decode cX8_init 13 = .ok (.aload_n 0, 1) := by decide +kernel
theorem dX8_init_14 : decode cX8_init 14 = .ok (.sipush 1164, 3) := by decide +kernel
theorem dX8_init_17 : decode cX8_init 17 = .ok (.newarray .int, 2) := by decide +kernel
theorem dX8_init_19 : decode cX8_init 19 = .ok (.putfield 13, 3) := by decide +kernel
theorem dX8_init_22 : decode cX8_init 22 = .ok (.aload_n 0, 1) := by decide +kernel
theorem dX8_init_23 : decode cX8_init 23 = .ok (.sipush 388, 3) := by decide +kernel
theorem dX8_init_26 : decode cX8_init 26 = .ok (.newarray .int, 2) := by decide +kernel
theorem dX8_init_28 : decode cX8_init 28 = .ok (.putfield 16, 3) := by decide +kernel
theorem dX8_init_31 : decode cX8_init 31 = .ok (.aload_n 0, 1) := by decide +kernel
theorem dX8_init_32 : decode cX8_init 32 = .ok (.iconst 2, 1) := by decide +kernel
theorem dX8_init_33 : decode cX8_init 33 = .ok (.newarray .int, 2) := by decide +kernel
theorem dX8_init_35 : decode cX8_init 35 = .ok (.putfield 19, 3) := by decide +kernel
theorem dX8_init_38 : decode cX8_init 38 = .ok (.aload_n 0, 1) := by decide +kernel
theorem dX8_init_39 : decode cX8_init 39 = .ok (.bipush 40, 2) := by decide +kernel
theorem dX8_init_41 : decode cX8_init 41 = .ok (.newarray .int, 2) := by decide +kernel
theorem dX8_init_43 : decode cX8_init 43 = .ok (.putfield 22, 3) := by decide +kernel
theorem dX8_init_46 : decode cX8_init 46 = .ok (.aload_n 0, 1) := by decide +kernel
theorem dX8_init_47 : decode cX8_init 47 = .ok (.bipush 24, 2) := by decide +kernel
theorem dX8_init_49 : decode cX8_init 49 = .ok (.newarray .int, 2) := by decide +kernel
theorem dX8_init_51 : decode cX8_init 51 = .ok (.putfield 25, 3) := by decide +kernel
theorem dX8_init_54 : decode cX8_init 54 = .ok (.aload_n 0, 1) := by decide +kernel
theorem dX8_init_55 : decode cX8_init 55 = .ok (.bipush 72, 2) := by decide +kernel
theorem dX8_init_57 : decode cX8_init 57 = .ok (.newarray .int, 2) := by decide +kernel
theorem dX8_init_59 : decode cX8_init 59 = .ok (.putfield 28, 3) := by decide +kernel
theorem dX8_init_62 : decode cX8_init 62 = .ok (.aload_n 0, 1) := by decide +kernel
theorem dX8_init_63 : decode cX8_init 63 = .ok (.bipush 12, 2) := by decide +kernel
theorem dX8_init_65 : decode cX8_init 65 = .ok (.newarray .int, 2) := by decide +kernel
theorem dX8_init_67 : decode cX8_init 67 = .ok (.putfield 31, 3) := by decide +kernel
theorem dX8_init_70 : decode cX8_init 70 = .ok (.aload_n 0, 1) := by decide +kernel
theorem dX8_init_71 : decode cX8_init 71 = .ok (.bipush 12, 2) := by decide +kernel
theorem dX8_init_73 : decode cX8_init 73 = .ok (.newarray .int, 2) := by decide +kernel
theorem dX8_init_75 : decode cX8_init 75 = .ok (.putfield 34, 3) := by decide +kernel
theorem dX8_init_78 : decode cX8_init 78 = .ok (.aload_n 0, 1) := by decide +kernel
theorem dX8_init_79 : decode cX8_init 79 = .ok (.sipush 3600, 3) := by decide +kernel
theorem dX8_init_82 : decode cX8_init 82 = .ok (.newarray .int, 2) := by decide +kernel
theorem dX8_init_84 : decode cX8_init 84 = .ok (.putfield 37, 3) := by decide +kernel
theorem dX8_init_87 : decode cX8_init 87 = .ok (.iconst 0, 1) := by decide +kernel
theorem dX8_init_88 : decode cX8_init 88 = .ok (.istore_n 1, 1) := by decide +kernel
theorem dX8_init_89 : decode cX8_init 89 = .ok (.iload_n 1, 1) := by decide +kernel
theorem dX8_init_90 : decode cX8_init 90 = .ok (.bipush 12, 2) := by decide +kernel
theorem dX8_init_92 : decode cX8_init 92 = .ok (.if_icmp .ge 31, 3) := by decide +kernel
theorem dX8_init_95 : decode cX8_init 95 = .ok (.aload_n 0, 1) := by decide +kernel
theorem dX8_init_96 : decode cX8_init 96 = .ok (.getfield 7, 3) := by decide +kernel
theorem dX8_init_99 : decode cX8_init 99 = .ok (.iconst 0, 1) := by decide +kernel
theorem dX8_init_100 : decode cX8_init 100 = .ok (.iload_n 1, 1) := by decide +kernel
theorem dX8_init_101 : decode cX8_init 101 = .ok (.iadd, 1) := by decide +kernel
theorem dX8_init_102 : decode cX8_init 102 = .ok (.iload_n 1, 1) := by decide +kernel
theorem dX8_init_103 : decode cX8_init 103 = .ok (.bipush 6, 2) := by decide +kernel
theorem dX8_init_105 : decode cX8_init 105 = .ok (.irem, 1) := by decide +kernel
theorem dX8_init_106 : decode cX8_init 106 = .ok (.iastore, 1) := by decide +kernel
theorem dX8_init_107 : decode cX8_init 107 = .ok (.aload_n 0, 1) := by decide +kernel
theorem dX8_init_108 : decode cX8_init 108 = .ok (.getfield 7, 3) := by decide +kernel
theorem dX8_init_111 : decode cX8_init 111 = .ok (.bipush 18, 2) := by decide +kernel
theorem dX8_init_113 : decode cX8_init 113 = .ok (.iload_n 1, 1) := by decide +kernel
theorem dX8_init_114 : decode cX8_init 114 = .ok (.iadd, 1) := by decide +kernel
theorem dX8_init_115 : decode cX8_init 115 = .ok (.iload_n 1, 1) := by decide +kernel
theorem dX8_init_116 : decode cX8_init 116 = .ok (.iastore, 1) := by decide +kernel
theorem dX8_init_117 : decode cX8_init 117 = .ok (.iinc 1 1, 3) := by decide +kernel
theorem dX8_init_120 : decode cX8_init 120 = .ok (.goto (-31), 3) := by decide +kernel
theorem dX8_init_123 : decode cX8_init 123 = .ok (.iconst 0, 1) := by decide +kernel
theorem dX8_init_124 : decode cX8_init 124 = .ok (.istore_n 1, 1) := by decide +kernel
theorem dX8_init_125 : decode cX8_init 125 = .ok (.iload_n 1, 1) := by decide +kernel
theorem dX8_init_126 : decode cX8_init 126 = .ok (.bipush 6, 2) := by decide +kernel
theorem dX8_init_128 : decode cX8_init 128 = .ok (.if_icmp .ge 21, 3) := by decide +kernel
theorem dX8_init_131 : decode cX8_init 131 = .ok (.aload_n 0, 1) := by decide +kernel
theorem dX8_init_132 : decode cX8_init 132 = .ok (.getfield 7, 3) := by decide +kernel
theorem dX8_init_135 : decode cX8_init 135 = .ok (.bipush 12, 2) := by decide +kernel
theorem dX8_init_137 : decode cX8_init 137 = .ok (.iload_n 1, 1) := by decide +kernel
theorem dX8_init_138 : decode cX8_init 138 = .ok (.iadd, 1) := by decide +kernel
theorem dX8_init_139 : decode cX8_init 139 = .ok (.iconst 1, 1) := by decide +kernel
theorem dX8_init_140 : decode cX8_init 140 = .ok (.iload_n 1, 1) := by decide +kernel
theorem dX8_init_141 : decode cX8_init 141 = .ok (.ishl, 1) := by decide +kernel
theorem dX8_init_142 : decode cX8_init 142 = .ok (.iastore, 1) := by decide +kernel
theorem dX8_init_143 : decode cX8_init 143 = .ok (.iinc 1 1, 3) := by decide +kernel
theorem dX8_init_146 : decode cX8_init 146 = .ok (.goto (-21), 3) := by decide +kernel
theorem dX8_init_149 : decode cX8_init 149 = .ok (.return_, 1) := by decide +kernel
theorem dX8_within_0 : decode cX8_within 0 = .ok (.iload_n 0, 1) := by decide +kernel
theorem dX8_within_1 : decode cX8_within 1 = .ok (.iload_n 1, 1) := by decide +kernel
theorem dX8_within_2 : decode cX8_within 2 = .ok (.if_icmp .lt 12, 3) := by decide +kernel
theorem dX8_within_5 : decode cX8_within 5 = .ok (.iload_n 0, 1) := by decide +kernel
theorem dX8_within_6 : decode cX8_within 6 = .ok (.iload_n 2, 1) := by decide +kernel
theorem dX8_within_7 : decode cX8_within 7 = .ok (.if_icmp .gt 7, 3) := by decide +kernel
theorem dX8_within_10 : decode cX8_within 10 = .ok (.iconst 1, 1) := by decide +kernel
theorem dX8_within_11 : decode cX8_within 11 = .ok (.goto 4, 3) := by decide +kernel
theorem dX8_within_14 : decode cX8_within 14 = .ok (.iconst 0, 1) := by decide +kernel
theorem dX8_within_15 : decode cX8_within 15 = .ok (.ireturn, 1) := by decide +kernel
set_option maxRecDepth 20000 in
theorem ggX8_isPlace_X8_within : GoodIn wsX8_isPlace wsX8_within := goodIn_r _ [4] (by decide +kernel) (by decide +kernel)
set_option maxRecDepth 20000 in
theorem gX8_isPlace_X8_within : GoodIn wsX8_isPlace (va_wsS RX8 40 yX8_within wsX8_within) := goodIn_app (goodIn_of _ (by decide +kernel)) ggX8_isPlace_X8_within
theorem dX8_isPlace_0 : decode cX8_isPlace 0 = .ok (.iload_n 0, 1) := by decide +kernel
theorem dX8_isPlace_1 : decode cX8_isPlace 1 = .ok (.iconst 0, 1) := by decide +kernel
theorem dX8_isPlace_2 : decode cX8_isPlace 2 = .ok (.bipush 11, 2) := by decide +kernel
theorem dX8_isPlace_4 : decode cX8_isPlace 4 = .ok (.invokestatic 40, 3) := by decide +kernel
theorem dX8_isPlace_7 : decode cX8_isPlace 7 = .ok (.ireturn, 1) := by decide +kernel
set_option maxRecDepth 20000 in
theorem ggX8_isDraft_X8_within : GoodIn wsX8_isDraft wsX8_within := goodIn_r _ [4] (by decide +kernel) (by decide +kernel)
set_option maxRecDepth 20000 in
theorem gX8_isDraft_X8_within : GoodIn wsX8_isDraft (va_wsS RX8 40 yX8_within wsX8_within) := goodIn_app (goodIn_of _ (by decide +kernel)) ggX8_isDraft_X8_within
theorem dX8_isDraft_0 : decode cX8_isDraft 0 = .ok (.iload_n 0, 1) := by decide +kernel
theorem dX8_isDraft_1 : decode cX8_isDraft 1 = .ok (.iconst 0, 1) := by decide +kernel
theorem dX8_isDraft_2 : decode cX8_isDraft 2 = .ok (.iconst 5, 1) := by decide +kernel
theorem dX8_isDraft_3 : decode cX8_isDraft 3 = .ok (.invokestatic 40, 3) := by decide +kernel
theorem dX8_isDraft_6 : decode cX8_isDraft 6 = .ok (.ireturn, 1) := by decide +kernel
set_option maxRecDepth 20000 in
theorem ggX8_areDrafts_X8_within : GoodIn wsX8_areDrafts wsX8_within := goodIn_r _ [4] (by decide +kernel) (by decide +kernel)
set_option maxRecDepth 20000 in
theorem gX8_areDrafts_X8_within : GoodIn wsX8_areDrafts (va_wsS RX8 40 yX8_within wsX8_within) := goodIn_app (goodIn_of _ (by decide +kernel)) ggX8_areDrafts_X8_within
theorem dX8_areDrafts_0 : decode cX8_areDrafts 0 = .ok (.iload_n 0, 1) := by decide +kernel
theorem dX8_areDrafts_1 : decode cX8_areDrafts 1 = .ok (.iconst 0, 1) := by decide +kernel
theorem dX8_areDrafts_2 : decode cX8_areDrafts 2 = .ok (.bipush 63, 2) := by decide +kernel
theorem dX8_areDrafts_4 : decode cX8_areDrafts 4 = .ok (.invokestatic 40, 3) := by decide +kernel
theorem dX8_areDrafts_7 : decode cX8_areDrafts 7 = .ok (.ireturn, 1) := by decide +kernel
theorem dX8_ones_0 : decode cX8_ones 0 = .ok (.iconst 0, 1) := by decide +kernel
theorem dX8_ones_1 : decode cX8_ones 1 = .ok (.istore_n 1, 1) := by decide +kernel
theorem dX8_ones_2 : decode cX8_ones 2 = .ok (.iconst 0, 1) := by decide +kernel
theorem dX8_ones_3 : decode cX8_ones 3 = .ok (.istore_n 2, 1) := by decide +kernel
theorem dX8_ones_4 : decode cX8_ones 4 = .ok (.iload_n 2, 1) := by decide +kernel
theorem dX8_ones_5 : decode cX8_ones 5 = .ok (.bipush 12, 2) := by decide +kernel
theorem dX8_ones_7 : decode cX8_ones 7 = .ok (.if_icmp .ge 17, 3) := by decide +kernel
theorem dX8_ones_10 : decode cX8_ones 10 = .ok (.iload_n 1, 1) := by decide +kernel
theorem dX8_ones_11 : decode cX8_ones 11 = .ok (.iload_n 0, 1) := by decide +kernel
theorem dX8_ones_12 : decode cX8_ones 12 = .ok (.iload_n 2, 1) := by decide +kernel
theorem dX8_ones_13 : decode cX8_ones 13 = .ok (.ishr, 1) := by decide +kernel
theorem dX8_ones_14 : decode cX8_ones 14 = .ok (.iconst 1, 1) := by decide +kernel
theorem dX8_ones_15 : decode cX8_ones 15 = .ok (.iand, 1) := by decide +kernel
theorem dX8_ones_16 : decode cX8_ones 16 = .ok (.iadd, 1) := by decide +kernel
theorem dX8_ones_17 : decode cX8_ones 17 = .ok (.istore_n 1, 1) := by decide +kernel
theorem dX8_ones_18 : decode cX8_ones 18 = .ok (.iinc 2 1, 3) := by decide +kernel
theorem dX8_ones_21 : decode cX8_ones 21 = .ok (.goto (-17), 3) := by decide +kernel
theorem dX8_ones_24 : decode cX8_ones 24 = .ok (.iload_n 1, 1) := by decide +kernel
theorem dX8_ones_25 : decode cX8_ones 25 = .ok (.ireturn, 1) := by decide +kernel
theorem dX8_record_0 : decode cX8_record 0 = .ok (.aload_n 0, 1) := by decide +kernel
theorem dX8_record_1 : decode cX8_record 1 = .ok (.getfield 44, 3) := by decide +kernel
theorem dX8_record_4 : decode cX8_record 4 = .ok (.bipush 6, 2) := by decide +kernel
theorem dX8_record_6 : decode cX8_record 6 = .ok (.if_icmp .ne 44, 3) := by decide +kernel
theorem dX8_record_9 : decode cX8_record 9 = .ok (.iconst 0, 1) := by decide +kernel
theorem dX8_record_10 : decode cX8_record 10 = .ok (.istore_n 1, 1) := by decide +kernel
theorem dX8_record_11 : decode cX8_record 11 = .ok (.iload_n 1, 1) := by decide +kernel
theorem dX8_record_12 : decode cX8_record 12 = .ok (.sipush 970, 3) := by decide +kernel
theorem dX8_record_15 : decode cX8_record 15 = .ok (.if_icmp .ge 25, 3) := by decide +kernel
theorem dX8_record_18 : decode cX8_record 18 = .ok (.aload_n 0, 1) := by decide +kernel
theorem dX8_record_19 : decode cX8_record 19 = .ok (.getfield 13, 3) := by decide +kernel
theorem dX8_record_22 : decode cX8_record 22 = .ok (.iload_n 1, 1) := by decide +kernel
theorem dX8_record_23 : decode cX8_record 23 = .ok (.aload_n 0, 1) := by decide +kernel
theorem dX8_record_24 : decode cX8_record 24 = .ok (.getfield 13, 3) := by decide +kernel
theorem dX8_record_27 : decode cX8_record 27 = .ok (.iload_n 1, 1) := by decide +kernel
theorem dX8_record_28 : decode cX8_record 28 = .ok (.sipush 194, 3) := by decide +kernel
theorem dX8_record_31 : decode cX8_record 31 = .ok (.iadd, 1) := by decide +kernel
theorem dX8_record_32 : decode cX8_record 32 = .ok (.iaload, 1) := by decide +kernel
theorem dX8_record_33 : decode cX8_record 33 = .ok (.iastore, 1) := by decide +kernel
theorem dX8_record_34 : decode cX8_record 34 = .ok (.iinc 1 1, 3) := by decide +kernel
theorem dX8_record_37 : decode cX8_record 37 = .ok (.goto (-26), 3) := by decide +kernel
theorem dX8_record_40 : decode cX8_record 40 = .ok (.aload_n 0, 1) := by decide +kernel
theorem dX8_record_41 : decode cX8_record 41 = .ok (.dup, 1) := by decide +kernel
theorem dX8_record_42 : decode cX8_record 42 = .ok (.getfield 44, 3) := by decide +kernel
theorem dX8_record_45 : decode cX8_record 45 = .ok (.iconst 1, 1) := by decide +kernel
theorem dX8_record_46 : decode cX8_record 46 = .ok (.isub, 1) := by decide +kernel
theorem dX8_record_47 : decode cX8_record 47 = .ok (.putfield 44, 3) := by decide +kernel
theorem dX8_record_50 : decode cX8_record 50 = .ok (.iconst 0, 1) := by decide +kernel
theorem dX8_record_51 : decode cX8_record 51 = .ok (.istore_n 1, 1) := by decide +kernel
theorem dX8_record_52 : decode cX8_record 52 = .ok (.iload_n 1, 1) := by decide +kernel
theorem dX8_record_53 : decode cX8_record 53 = .ok (.sipush 194, 3) := by decide +kernel
theorem dX8_record_56 : decode cX8_record 56 = .ok (.if_icmp .ge 30, 3) := by decide +kernel
theorem dX8_record_59 : decode cX8_record 59 = .ok (.aload_n 0, 1) := by decide +kernel
theorem dX8_record_60 : decode cX8_record 60 = .ok (.getfield 13, 3) := by decide +kernel
theorem dX8_record_63 : decode cX8_record 63 = .ok (.aload_n 0, 1) := by decide +kernel
theorem dX8_record_64 : decode cX8_record 64 = .ok (.getfield 44, 3) := by decide +kernel
theorem dX8_record_67 : decode cX8_record 67 = .ok (.sipush 194, 3) := by decide +kernel
theorem dX8_record_70 : decode cX8_record 70 = .ok (.imul, 1) := by decide +kernel
theorem dX8_record_71 : decode cX8_record 71 = .ok (.iload_n 1, 1) := by decide +kernel
theorem dX8_record_72 : decode cX8_record 72 = .ok (.iadd, 1) := by decide +kernel
theorem dX8_record_73 : decode cX8_record 73 = .ok (.aload_n 0, 1) := by decide +kernel
theorem dX8_record_74 : decode cX8_record 74 = .ok (.getfield 7, 3) := by decide +kernel
theorem dX8_record_77 : decode cX8_record 77 = .ok (.iload_n 1, 1) := by decide +kernel
theorem dX8_record_78 : decode cX8_record 78 = .ok (.iaload, 1) := by decide +kernel
theorem dX8_record_79 : decode cX8_record 79 = .ok (.iastore, 1) := by decide +kernel
theorem dX8_record_80 : decode cX8_record 80 = .ok (.iinc 1 1, 3) := by decide +kernel
theorem dX8_record_83 : decode cX8_record 83 = .ok (.goto (-31), 3) := by decide +kernel
theorem dX8_record_86 : decode cX8_record 86 = .ok (.aload_n 0, 1) := by decide +kernel
theorem dX8_record_87 : decode cX8_record 87 = .ok (.dup, 1) := by decide +kernel
theorem dX8_record_88 : decode cX8_record 88 = .ok (.getfield 44, 3) := by decide +kernel
theorem dX8_record_91 : decode cX8_record 91 = .ok (.iconst 1, 1) := by decide +kernel
theorem dX8_record_92 : decode cX8_record 92 = .ok (.iadd, 1) := by decide +kernel
theorem dX8_record_93 : decode cX8_record 93 = .ok (.putfield 44, 3) := by decide +kernel
theorem dX8_record_96 : decode cX8_record 96 = .ok (.return_, 1) := by decide +kernel
theorem dX8_undo_0 : decode cX8_undo 0 = .ok (.aload_n 0, 1) := by decide +kernel
theorem dX8_undo_1 : decode cX8_undo 1 = .ok (.getfield 44, 3) := by decide +kernel
theorem dX8_undo_4 : decode cX8_undo 4 = .ok (.ifCond .ne 6, 3) := by decide +kernel
theorem dX8_undo_7 : decode cX8_undo 7 = .ok (.bipush (-5), 2) := by decide +kernel
theorem dX8_undo_9 : decode cX8_undo 9 = .ok (.ireturn, 1) := by decide +kernel
theorem dX8_undo_10 : decode cX8_undo 10 = .ok (.aload_n 0, 1) := by decide +kernel
theorem dX8_undo_11 : decode cX8_undo 11 = .ok (.dup, 1) := by decide +kernel
theorem dX8_undo_12 : decode cX8_undo 12 = .ok (.getfield 44, 3) := by decide +kernel
theorem dX8_undo_15 : decode cX8_undo 15 = .ok (.iconst 1, 1) := by decide +kernel
theorem dX8_undo_16 : decode cX8_undo 16 = .ok (.isub, 1) := by decide +kernel
theorem dX8_undo_17 : decode cX8_undo 17 = .ok (.putfield 44, 3) := by decide +kernel
theorem dX8_undo_20 : decode cX8_undo 20 = .ok (.iconst 0, 1) := by decide +kernel
theorem dX8_undo_21 : decode cX8_undo 21 = .ok (.istore_n 1, 1) := by decide +kernel
theorem dX8_undo_22 : decode cX8_undo 22 = .ok (.iload_n 1, 1) := by decide +kernel
theorem dX8_undo_23 : decode cX8_undo 23 = .ok (.sipush 194, 3) := by decide +kernel
theorem dX8_undo_26 : decode cX8_undo 26 = .ok (.if_icmp .ge 30, 3) := by decide +kernel
theorem dX8_undo_29 : decode cX8_undo 29 = .ok (.aload_n 0, 1) := by decide +kernel
theorem dX8_undo_30 : decode cX8_undo 30 = .ok (.getfield 7, 3) := by decide +kernel
theorem dX8_undo_33 : decode cX8_undo 33 = .ok (.iload_n 1, 1) := by decide +kernel
theorem dX8_undo_34 : decode cX8_undo 34 = .ok (.aload_n 0, 1) := by decide +kernel
theorem dX8_undo_35 : decode cX8_undo 35 = .ok (.getfield 13, 3) := by decide +kernel
theorem dX8_undo_38 : decode cX8_undo 38 = .ok (.aload_n 0, 1) := by decide +kernel
theorem dX8_undo_39 : decode cX8_undo 39 = .ok (.getfield 44, 3) := by decide +kernel
theorem dX8_undo_42 : decode cX8_undo 42 = .ok (.sipush 194, 3) := by decide +kernel
theorem dX8_undo_45 : decode cX8_undo 45 = .ok (.imul, 1) := by decide +kernel
theorem dX8_undo_46 : decode cX8_undo 46 = .ok (.iload_n 1, 1) := by decide +kernel
theorem dX8_undo_47 : decode cX8_undo 47 = .ok (.iadd, 1) := by decide +kernel
theorem dX8_undo_48 : decode cX8_undo 48 = .ok (.iaload, 1) := by decide +kernel
theorem dX8_undo_49 : decode cX8_undo 49 = .ok (.iastore, 1) := by decide +kernel
theorem dX8_undo_50 : decode cX8_undo 50 = .ok (.iinc 1 1, 3) := by decide +kernel
theorem dX8_undo_53 : decode cX8_undo 53 = .ok (.goto (-31), 3) := by decide +kernel
theorem dX8_undo_56 : decode cX8_undo 56 = .ok (.aload_n 0, 1) := by decide +kernel
theorem dX8_undo_57 : decode cX8_undo 57 = .ok (.getfield 44, 3) := by decide +kernel
theorem dX8_undo_60 : decode cX8_undo 60 = .ok (.ireturn, 1) := by decide +kernel
set_option maxRecDepth 20000 in
theorem ggX8_save_X8_within : GoodIn wsX8_save wsX8_within := goodIn_r _ [7] (by decide +kernel) (by decide +kernel)
set_option maxRecDepth 20000 in
theorem gX8_save_X8_within : GoodIn wsX8_save (va_wsS RX8 40 yX8_within wsX8_within) := goodIn_app (goodIn_of _ (by decide +kernel)) ggX8_save_X8_within
set_option maxRecDepth 20000 in
theorem ggX8_save_X8_atHome : GoodIn wsX8_save wsX8_atHome := goodIn_r _ [11, 2, 12, 13, 14, 15, 16, 17, 18, 19, 20, 21, 22, 23, 24, 25, 26] (by decide +kernel) (by decide +kernel)
set_option maxRecDepth 20000 in
theorem gX8_save_X8_atHome : GoodIn wsX8_save (wsV RX8 48 RX8 yX8_atHome wsX8_atHome) := goodIn_app (goodIn_of _ (by decide +kernel)) ggX8_save_X8_atHome
theorem dX8_save_0 : decode cX8_save 0 = .ok (.iload_n 1, 1) := by decide +kernel
theorem dX8_save_1 : decode cX8_save 1 = .ok (.iconst 0, 1) := by decide +kernel
theorem dX8_save_2 : decode cX8_save 2 = .ok (.iconst 1, 1) := by decide +kernel
theorem dX8_save_3 : decode cX8_save 3 = .ok (.invokestatic 40, 3) := by decide +kernel
theorem dX8_save_6 : decode cX8_save 6 = .ok (.ifCond .ne 6, 3) := by decide +kernel
theorem dX8_save_9 : decode cX8_save 9 = .ok (.bipush (-2), 2) := by decide +kernel
theorem dX8_save_11 : decode cX8_save 11 = .ok (.ireturn, 1) := by decide +kernel
theorem dX8_save_12 : decode cX8_save 12 = .ok (.iconst 0, 1) := by decide +kernel
theorem dX8_save_13 : decode cX8_save 13 = .ok (.istore_n 2, 1) := by decide +kernel
theorem dX8_save_14 : decode cX8_save 14 = .ok (.iload_n 2, 1) := by decide +kernel
theorem dX8_save_15 : decode cX8_save 15 = .ok (.sipush 194, 3) := by decide +kernel
theorem dX8_save_18 : decode cX8_save 18 = .ok (.if_icmp .ge 27, 3) := by decide +kernel
theorem dX8_save_21 : decode cX8_save 21 = .ok (.aload_n 0, 1) := by decide +kernel
theorem dX8_save_22 : decode cX8_save 22 = .ok (.getfield 16, 3) := by decide +kernel
theorem dX8_save_25 : decode cX8_save 25 = .ok (.sipush 194, 3) := by decide +kernel
theorem dX8_save_28 : decode cX8_save 28 = .ok (.iload_n 1, 1) := by decide +kernel
theorem dX8_save_29 : decode cX8_save 29 = .ok (.imul, 1) := by decide +kernel
theorem dX8_save_30 : decode cX8_save 30 = .ok (.iload_n 2, 1) := by decide +kernel
theorem dX8_save_31 : decode cX8_save 31 = .ok (.iadd, 1) := by decide +kernel
theorem dX8_save_32 : decode cX8_save 32 = .ok (.aload_n 0, 1) := by decide +kernel
theorem dX8_save_33 : decode cX8_save 33 = .ok (.getfield 7, 3) := by decide +kernel
theorem dX8_save_36 : decode cX8_save 36 = .ok (.iload_n 2, 1) := by decide +kernel
theorem dX8_save_37 : decode cX8_save 37 = .ok (.iaload, 1) := by decide +kernel
theorem dX8_save_38 : decode cX8_save 38 = .ok (.iastore, 1) := by decide +kernel
theorem dX8_save_39 : decode cX8_save 39 = .ok (.iinc 2 1, 3) := by decide +kernel
theorem dX8_save_42 : decode cX8_save 42 = .ok (.goto (-28), 3) := by decide +kernel
theorem dX8_save_45 : decode cX8_save 45 = .ok (.aload_n 0, 1) := by decide +kernel
theorem dX8_save_46 : decode cX8_save 46 = .ok (.getfield 19, 3) := by decide +kernel
theorem dX8_save_49 : decode cX8_save 49 = .ok (.iload_n 1, 1) := by decide +kernel
theorem dX8_save_50 : decode cX8_save 50 = .ok (.iconst 1, 1) := by decide +kernel
theorem dX8_save_51 : decode cX8_save 51 = .ok (.iastore, 1) := by decide +kernel
theorem dX8_save_52 : decode cX8_save 52 = .ok (.aload_n 0, 1) := by decide +kernel
theorem dX8_save_53 : decode cX8_save 53 = .ok (.invokevirtual 48, 3) := by decide +kernel
theorem dX8_save_56 : decode cX8_save 56 = .ok (.ireturn, 1) := by decide +kernel
set_option maxRecDepth 20000 in
theorem ggX8_restore_X8_within : GoodIn wsX8_restore wsX8_within := goodIn_r _ [7] (by decide +kernel) (by decide +kernel)
set_option maxRecDepth 20000 in
theorem gX8_restore_X8_within : GoodIn wsX8_restore (va_wsS RX8 40 yX8_within wsX8_within) := goodIn_app (goodIn_of _ (by decide +kernel)) ggX8_restore_X8_within
set_option maxRecDepth 20000 in
theorem ggX8_restore_X8_record : GoodIn wsX8_restore wsX8_record := goodIn_r _ [11, 12, 13, 2, 18, 19, 20, 21, 22, 23, 24, 25, 26, 27, 28, 29, 30, 31, 32] (by decide +kernel) (by decide +kernel)
set_option maxRecDepth 20000 in
theorem gX8_restore_X8_record : GoodIn wsX8_restore (wsV RX8 52 RX8 yX8_record wsX8_record) := goodIn_app (goodIn_of _ (by decide +kernel)) ggX8_restore_X8_record
set_option maxRecDepth 20000 in
theorem ggX8_restore_X8_atHome : GoodIn wsX8_restore wsX8_atHome := goodIn_r _ [17, 2, 18, 19, 20, 21, 22, 23, 24, 25, 26, 27, 28, 29, 30, 31, 32] (by decide +kernel) (by decide +kernel)
set_option maxRecDepth 20000 in
theorem gX8_restore_X8_atHome : GoodIn wsX8_restore (wsV RX8 48 RX8 yX8_atHome wsX8_atHome) := goodIn_app (goodIn_of _ (by decide +kernel)) ggX8_restore_X8_atHome
theorem dX8_restore_0 : decode cX8_restore 0 = .ok (.iload_n 1, 1) := by decide +kernel
theorem dX8_restore_1 : decode cX8_restore 1 = .ok (.iconst 0, 1) := by decide +kernel
theorem dX8_restore_2 : decode cX8_restore 2 = .ok (.iconst 1, 1) := by decide +kernel
theorem dX8_restore_3 : decode cX8_restore 3 = .ok (.invokestatic 40, 3) := by decide +kernel
theorem dX8_restore_6 : decode cX8_restore 6 = .ok (.ifCond .ne 6, 3) := by decide +kernel
theorem dX8_restore_9 : decode cX8_restore 9 = .ok (.bipush (-2), 2) := by decide +kernel
theorem dX8_restore_11 : decode cX8_restore 11 = .ok (.ireturn, 1) := by decide +kernel
theorem dX8_restore_12 : decode cX8_restore 12 = .ok (.aload_n 0, 1) := by decide +kernel
theorem dX8_restore_13 : decode cX8_restore 13 = .ok (.getfield 19, 3) := by decide +kernel
theorem dX8_restore_16 : decode cX8_restore 16 = .ok (.iload_n 1, 1) := by decide +kernel
theorem dX8_restore_17 : decode cX8_restore 17 = .ok (.iaload, 1) := by decide +kernel
theorem dX8_restore_18 : decode cX8_restore 18 = .ok (.ifCond .ne 6, 3) := by decide +kernel
theorem dX8_restore_21 : decode cX8_restore 21 = .ok (.bipush (-5), 2) := by decide +kernel
theorem dX8_restore_23 : decode cX8_restore 23 = .ok (.ireturn, 1) := by decide +kernel
theorem dX8_restore_24 : decode cX8_restore 24 = .ok (.aload_n 0, 1) := by decide +kernel
theorem dX8_restore_25 : decode cX8_restore 25 = .ok (.invokevirtual 52, 3) := by decide +kernel
theorem dX8_restore_28 : decode cX8_restore 28 = .ok (.iconst 0, 1) := by decide +kernel
theorem dX8_restore_29 : decode cX8_restore 29 = .ok (.istore_n 2, 1) := by decide +kernel
theorem dX8_restore_30 : decode cX8_restore 30 = .ok (.iload_n 2, 1) := by decide +kernel
theorem dX8_restore_31 : decode cX8_restore 31 = .ok (.sipush 194, 3) := by decide +kernel
theorem dX8_restore_34 : decode cX8_restore 34 = .ok (.if_icmp .ge 27, 3) := by decide +kernel
theorem dX8_restore_37 : decode cX8_restore 37 = .ok (.aload_n 0, 1) := by decide +kernel
theorem dX8_restore_38 : decode cX8_restore 38 = .ok (.getfield 7, 3) := by decide +kernel
theorem dX8_restore_41 : decode cX8_restore 41 = .ok (.iload_n 2, 1) := by decide +kernel
theorem dX8_restore_42 : decode cX8_restore 42 = .ok (.aload_n 0, 1) := by decide +kernel
theorem dX8_restore_43 : decode cX8_restore 43 = .ok (.getfield 16, 3) := by decide +kernel
theorem dX8_restore_46 : decode cX8_restore 46 = .ok (.sipush 194, 3) := by decide +kernel
theorem dX8_restore_49 : decode cX8_restore 49 = .ok (.iload_n 1, 1) := by decide +kernel
theorem dX8_restore_50 : decode cX8_restore 50 = .ok (.imul, 1) := by decide +kernel
theorem dX8_restore_51 : decode cX8_restore 51 = .ok (.iload_n 2, 1) := by decide +kernel
theorem dX8_restore_52 : decode cX8_restore 52 = .ok (.iadd, 1) := by decide +kernel
theorem dX8_restore_53 : decode cX8_restore 53 = .ok (.iaload, 1) := by decide +kernel
theorem dX8_restore_54 : decode cX8_restore 54 = .ok (.iastore, 1) := by decide +kernel
theorem dX8_restore_55 : decode cX8_restore 55 = .ok (.iinc 2 1, 3) := by decide +kernel
theorem dX8_restore_58 : decode cX8_restore 58 = .ok (.goto (-28), 3) := by decide +kernel
theorem dX8_restore_61 : decode cX8_restore 61 = .ok (.aload_n 0, 1) := by decide +kernel
theorem dX8_restore_62 : decode cX8_restore 62 = .ok (.invokevirtual 48, 3) := by decide +kernel
theorem dX8_restore_65 : decode cX8_restore 65 = .ok (.ireturn, 1) := by decide +kernel
theorem dX8_raised_0 : decode cX8_raised 0 = .ok (.iconst 0, 1) := by decide +kernel
theorem dX8_raised_1 : decode cX8_raised 1 = .ok (.istore_n 2, 1) := by decide +kernel
theorem dX8_raised_2 : decode cX8_raised 2 = .ok (.iconst 0, 1) := by decide +kernel
theorem dX8_raised_3 : decode cX8_raised 3 = .ok (.istore_n 3, 1) := by decide +kernel
theorem dX8_raised_4 : decode cX8_raised 4 = .ok (.iload_n 3, 1) := by decide +kernel
theorem dX8_raised_5 : decode cX8_raised 5 = .ok (.bipush 12, 2) := by decide +kernel
theorem dX8_raised_7 : decode cX8_raised 7 = .ok (.if_icmp .ge 43, 3) := by decide +kernel
theorem dX8_raised_10 : decode cX8_raised 10 = .ok (.iload_n 2, 1) := by decide +kernel
theorem dX8_raised_11 : decode cX8_raised 11 = .ok (.aload_n 0, 1) := by decide +kernel
theorem dX8_raised_12 : decode cX8_raised 12 = .ok (.getfield 7, 3) := by decide +kernel
theorem dX8_raised_15 : decode cX8_raised 15 = .ok (.bipush 12, 2) := by decide +kernel
theorem dX8_raised_17 : decode cX8_raised 17 = .ok (.iload_n 1, 1) := by decide +kernel
theorem dX8_raised_18 : decode cX8_raised 18 = .ok (.iadd, 1) := by decide +kernel
theorem dX8_raised_19 : decode cX8_raised 19 = .ok (.iaload, 1) := by decide +kernel
theorem dX8_raised_20 : decode cX8_raised 20 = .ok (.aload_n 0, 1) := by decide +kernel
theorem dX8_raised_21 : decode cX8_raised 21 = .ok (.getfield 7, 3) := by decide +kernel
theorem dX8_raised_24 : decode cX8_raised 24 = .ok (.iconst 0, 1) := by decide +kernel
theorem dX8_raised_25 : decode cX8_raised 25 = .ok (.iload_n 3, 1) := by decide +kernel
theorem dX8_raised_26 : decode cX8_raised 26 = .ok (.iadd, 1) := by decide +kernel
theorem dX8_raised_27 : decode cX8_raised 27 = .ok (.iaload, 1) := by decide +kernel
theorem dX8_raised_28 : decode cX8_raised 28 = .ok (.ishr, 1) := by decide +kernel
theorem dX8_raised_29 : decode cX8_raised 29 = .ok (.iconst 1, 1) := by decide +kernel
theorem dX8_raised_30 : decode cX8_raised 30 = .ok (.iand, 1) := by decide +kernel
theorem dX8_raised_31 : decode cX8_raised 31 = .ok (.iconst 1, 1) := by decide +kernel
theorem dX8_raised_32 : decode cX8_raised 32 = .ok (.if_icmp .ne 9, 3) := by decide +kernel
theorem dX8_raised_35 : decode cX8_raised 35 = .ok (.iconst 1, 1) := by decide +kernel
theorem dX8_raised_36 : decode cX8_raised 36 = .ok (.iload_n 3, 1) := by decide +kernel
theorem dX8_raised_37 : decode cX8_raised 37 = .ok (.ishl, 1) := by decide +kernel
theorem dX8_raised_38 : decode cX8_raised 38 = .ok (.goto 4, 3) := by decide +kernel
theorem dX8_raised_41 : decode cX8_raised 41 = .ok (.iconst 0, 1) := by decide +kernel
theorem dX8_raised_42 : decode cX8_raised 42 = .ok (.ior, 1) := by decide +kernel
theorem dX8_raised_43 : decode cX8_raised 43 = .ok (.istore_n 2, 1) := by decide +kernel
theorem dX8_raised_44 : decode cX8_raised 44 = .ok (.iinc 3 1, 3) := by decide +kernel
theorem dX8_raised_47 : decode cX8_raised 47 = .ok (.goto (-43), 3) := by decide +kernel
theorem dX8_raised_50 : decode cX8_raised 50 = .ok (.iload_n 2, 1) := by decide +kernel
theorem dX8_raised_51 : decode cX8_raised 51 = .ok (.ireturn, 1) := by decide +kernel
theorem dX8_atHome_0 : decode cX8_atHome 0 = .ok (.iconst 0, 1) := by decide +kernel
theorem dX8_atHome_1 : decode cX8_atHome 1 = .ok (.istore_n 1, 1) := by decide +kernel
theorem dX8_atHome_2 : decode cX8_atHome 2 = .ok (.iconst 0, 1) := by decide +kernel
theorem dX8_atHome_3 : decode cX8_atHome 3 = .ok (.istore_n 2, 1) := by decide +kernel
theorem dX8_atHome_4 : decode cX8_atHome 4 = .ok (.iload_n 2, 1) := by decide +kernel
theorem dX8_atHome_5 : decode cX8_atHome 5 = .ok (.bipush 12, 2) := by decide +kernel
theorem dX8_atHome_7 : decode cX8_atHome 7 = .ok (.if_icmp .ge 30, 3) := by decide +kernel
theorem dX8_atHome_10 : decode cX8_atHome 10 = .ok (.iload_n 1, 1) := by decide +kernel
theorem dX8_atHome_11 : decode cX8_atHome 11 = .ok (.aload_n 0, 1) := by decide +kernel
theorem dX8_atHome_12 : decode cX8_atHome 12 = .ok (.getfield 7, 3) := by decide +kernel
theorem dX8_atHome_15 : decode cX8_atHome 15 = .ok (.bipush 18, 2) := by decide +kernel
theorem dX8_atHome_17 : decode cX8_atHome 17 = .ok (.iload_n 2, 1) := by decide +kernel
theorem dX8_atHome_18 : decode cX8_atHome 18 = .ok (.iadd, 1) := by decide +kernel
theorem dX8_atHome_19 : decode cX8_atHome 19 = .ok (.iaload, 1) := by decide +kernel
theorem dX8_atHome_20 : decode cX8_atHome 20 = .ok (.iload_n 2, 1) := by decide +kernel
theorem dX8_atHome_21 : decode cX8_atHome 21 = .ok (.if_icmp .ne 7, 3) := by decide +kernel
theorem dX8_atHome_24 : decode cX8_atHome 24 = .ok (.iconst 1, 1) := by decide +kernel
theorem dX8_atHome_25 : decode cX8_atHome 25 = .ok (.goto 4, 3) := by decide +kernel
theorem dX8_atHome_28 : decode cX8_atHome 28 = .ok (.iconst 0, 1) := by decide +kernel
theorem dX8_atHome_29 : decode cX8_atHome 29 = .ok (.iadd, 1) := by decide +kernel
theorem dX8_atHome_30 : decode cX8_atHome 30 = .ok (.istore_n 1, 1) := by decide +kernel
theorem dX8_atHome_31 : decode cX8_atHome 31 = .ok (.iinc 2 1, 3) := by decide +kernel
theorem dX8_atHome_34 : decode cX8_atHome 34 = .ok (.goto (-30), 3) := by decide +kernel
theorem dX8_atHome_37 : decode cX8_atHome 37 = .ok (.iload_n 1, 1) := by decide +kernel
theorem dX8_atHome_38 : decode cX8_atHome 38 = .ok (.ireturn, 1) := by decide +kernel
set_option maxRecDepth 20000 in
theorem ggX8_pressed_X8_raised : GoodIn wsX8_pressed wsX8_raised := goodIn_r _ [5, 6, 7, 8, 9, 10, 11, 12, 13, 14, 15, 16, 17, 18, 19, 20, 21] (by decide +kernel) (by decide +kernel)
set_option maxRecDepth 20000 in
theorem gX8_pressed_X8_raised : GoodIn wsX8_pressed (wsV RX8 55 RX8 yX8_raised wsX8_raised) := goodIn_app (goodIn_of _ (by decide +kernel)) ggX8_pressed_X8_raised
theorem dX8_pressed_0 : decode cX8_pressed 0 = .ok (.aload_n 0, 1) := by decide +kernel
theorem dX8_pressed_1 : decode cX8_pressed 1 = .ok (.iload_n 2, 1) := by decide +kernel
theorem dX8_pressed_2 : decode cX8_pressed 2 = .ok (.bipush 6, 2) := by decide +kernel
theorem dX8_pressed_4 : decode cX8_pressed 4 = .ok (.irem, 1) := by decide +kernel
theorem dX8_pressed_5 : decode cX8_pressed 5 = .ok (.invokevirtual 55, 3) := by decide +kernel
theorem dX8_pressed_8 : decode cX8_pressed 8 = .ok (.istore_n 3, 1) := by decide +kernel
theorem dX8_pressed_9 : decode cX8_pressed 9 = .ok (.iload_n 3, 1) := by decide +kernel
theorem dX8_pressed_10 : decode cX8_pressed 10 = .ok (.iload_n 1, 1) := by decide +kernel
theorem dX8_pressed_11 : decode cX8_pressed 11 = .ok (.ishr, 1) := by decide +kernel
theorem dX8_pressed_12 : decode cX8_pressed 12 = .ok (.iconst 1, 1) := by decide +kernel
theorem dX8_pressed_13 : decode cX8_pressed 13 = .ok (.iand, 1) := by decide +kernel
theorem dX8_pressed_14 : decode cX8_pressed 14 = .ok (.ifCond .ne 5, 3) := by decide +kernel
theorem dX8_pressed_17 : decode cX8_pressed 17 = .ok (.iload_n 1, 1) := by decide +kernel
theorem dX8_pressed_18 : decode cX8_pressed 18 = .ok (.ireturn, 1) := by decide +kernel
theorem dX8_pressed_19 : decode cX8_pressed 19 = .ok (.iload_n 2, 1) := by decide +kernel
theorem dX8_pressed_20 : decode cX8_pressed 20 = .ok (.bipush 6, 2) := by decide +kernel
theorem dX8_pressed_22 : decode cX8_pressed 22 = .ok (.if_icmp .ge 7, 3) := by decide +kernel
theorem dX8_pressed_25 : decode cX8_pressed 25 = .ok (.iconst 1, 1) := by decide +kernel
theorem dX8_pressed_26 : decode cX8_pressed 26 = .ok (.goto 5, 3) := by decide +kernel
theorem dX8_pressed_29 : decode cX8_pressed 29 = .ok (.bipush 11, 2) := by decide +kernel
theorem dX8_pressed_31 : decode cX8_pressed 31 = .ok (.istore 4, 2) := by decide +kernel
theorem dX8_pressed_33 : decode cX8_pressed 33 = .ok (.iload_n 1, 1) := by decide +kernel
theorem dX8_pressed_34 : decode cX8_pressed 34 = .ok (.iload 4, 2) := by decide +kernel
theorem dX8_pressed_36 : decode cX8_pressed 36 = .ok (.iadd, 1) := by decide +kernel
theorem dX8_pressed_37 : decode cX8_pressed 37 = .ok (.bipush 12, 2) := by decide +kernel
theorem dX8_pressed_39 : decode cX8_pressed 39 = .ok (.irem, 1) := by decide +kernel
theorem dX8_pressed_40 : decode cX8_pressed 40 = .ok (.istore 5, 2) := by decide +kernel
theorem dX8_pressed_42 : decode cX8_pressed 42 = .ok (.iload_n 3, 1) := by decide +kernel
theorem dX8_pressed_43 : decode cX8_pressed 43 = .ok (.iload 5, 2) := by decide +kernel
theorem dX8_pressed_45 : decode cX8_pressed 45 = .ok (.ishr, 1) := by decide +kernel
theorem dX8_pressed_46 : decode cX8_pressed 46 = .ok (.iconst 1, 1) := by decide +kernel
theorem dX8_pressed_47 : decode cX8_pressed 47 = .ok (.iand, 1) := by decide +kernel
theorem dX8_pressed_48 : decode cX8_pressed 48 = .ok (.ifCond .ne 16, 3) := by decide +kernel
theorem dX8_pressed_51 : decode cX8_pressed 51 = .ok (.iload 5, 2) := by decide +kernel
theorem dX8_pressed_53 : decode cX8_pressed 53 = .ok (.iload 4, 2) := by decide +kernel
theorem dX8_pressed_55 : decode cX8_pressed 55 = .ok (.iadd, 1) := by decide +kernel
theorem dX8_pressed_56 : decode cX8_pressed 56 = .ok (.bipush 12, 2) := by decide +kernel
theorem dX8_pressed_58 : decode cX8_pressed 58 = .ok (.irem, 1) := by decide +kernel
theorem dX8_pressed_59 : decode cX8_pressed 59 = .ok (.istore 5, 2) := by decide +kernel
theorem dX8_pressed_61 : decode cX8_pressed 61 = .ok (.goto (-19), 3) := by decide +kernel
theorem dX8_pressed_64 : decode cX8_pressed 64 = .ok (.iload 5, 2) := by decide +kernel
theorem dX8_pressed_66 : decode cX8_pressed 66 = .ok (.ireturn, 1) := by decide +kernel
theorem dX8_lengthOf_0 : decode cX8_lengthOf 0 = .ok (.aload_n 0, 1) := by decide +kernel
theorem dX8_lengthOf_1 : decode cX8_lengthOf 1 = .ok (.getfield 7, 3) := by decide +kernel
theorem dX8_lengthOf_4 : decode cX8_lengthOf 4 = .ok (.bipush 42, 2) := by decide +kernel
theorem dX8_lengthOf_6 : decode cX8_lengthOf 6 = .ok (.iload_n 1, 1) := by decide +kernel
theorem dX8_lengthOf_7 : decode cX8_lengthOf 7 = .ok (.iadd, 1) := by decide +kernel
theorem dX8_lengthOf_8 : decode cX8_lengthOf 8 = .ok (.iaload, 1) := by decide +kernel
theorem dX8_lengthOf_9 : decode cX8_lengthOf 9 = .ok (.ireturn, 1) := by decide +kernel
theorem dX8_pressOf_0 : decode cX8_pressOf 0 = .ok (.aload_n 0, 1) := by decide +kernel
theorem dX8_pressOf_1 : decode cX8_pressOf 1 = .ok (.getfield 7, 3) := by decide +kernel
theorem dX8_pressOf_4 : decode cX8_pressOf 4 = .ok (.bipush 48, 2) := by decide +kernel
theorem dX8_pressOf_6 : decode cX8_pressOf 6 = .ok (.bipush 24, 2) := by decide +kernel
theorem dX8_pressOf_8 : decode cX8_pressOf 8 = .ok (.iload_n 1, 1) := by decide +kernel
theorem dX8_pressOf_9 : decode cX8_pressOf 9 = .ok (.imul, 1) := by decide +kernel
theorem dX8_pressOf_10 : decode cX8_pressOf 10 = .ok (.iadd, 1) := by decide +kernel
theorem dX8_pressOf_11 : decode cX8_pressOf 11 = .ok (.iload_n 2, 1) := by decide +kernel
theorem dX8_pressOf_12 : decode cX8_pressOf 12 = .ok (.iadd, 1) := by decide +kernel
theorem dX8_pressOf_13 : decode cX8_pressOf 13 = .ok (.iaload, 1) := by decide +kernel
theorem dX8_pressOf_14 : decode cX8_pressOf 14 = .ok (.ireturn, 1) := by decide +kernel
set_option maxRecDepth 20000 in
theorem ggX8_lay_X8_lengthOf : GoodIn wsX8_lay wsX8_lengthOf := goodIn_r _ [6, 7, 20, 21, 22, 23, 24, 25, 26, 27, 28, 29, 30, 31, 32, 33, 34] (by decide +kernel) (by decide +kernel)
set_option maxRecDepth 20000 in
theorem gX8_lay_X8_lengthOf : GoodIn wsX8_lay (wsV RX8 59 RX8 yX8_lengthOf wsX8_lengthOf) := goodIn_app (goodIn_of _ (by decide +kernel)) ggX8_lay_X8_lengthOf
set_option maxRecDepth 20000 in
theorem ggX8_lay_X8_pressOf : GoodIn wsX8_lay wsX8_pressOf := goodIn_r _ [11, 7, 20, 21, 22, 23, 24, 25, 26, 27, 28, 29, 30, 31, 32, 33, 34] (by decide +kernel) (by decide +kernel)
set_option maxRecDepth 20000 in
theorem gX8_lay_X8_pressOf : GoodIn wsX8_lay (wsV RX8 62 RX8 yX8_pressOf wsX8_pressOf) := goodIn_app (goodIn_of _ (by decide +kernel)) ggX8_lay_X8_pressOf
set_option maxRecDepth 20000 in
theorem ggX8_lay_X8_pressed : GoodIn wsX8_lay wsX8_pressed := goodIn_r _ [15, 16, 17, 18, 5, 19, 7, 20, 21, 22, 23, 24, 25, 26, 27, 28, 29, 30, 31, 32, 33, 34] (by decide +kernel) (by decide +kernel)
set_option maxRecDepth 20000 in
theorem gX8_lay_X8_pressed : GoodIn wsX8_lay (wsV RX8 66 RX8 yX8_pressed wsX8_pressed) := goodIn_app (goodIn_of _ (by decide +kernel)) ggX8_lay_X8_pressed
theorem dX8_lay_0 : decode cX8_lay 0 = .ok (.iconst 0, 1) := by decide +kernel
theorem dX8_lay_1 : decode cX8_lay 1 = .ok (.istore_n 2, 1) := by decide +kernel
theorem dX8_lay_2 : decode cX8_lay 2 = .ok (.iload_n 2, 1) := by decide +kernel
theorem dX8_lay_3 : decode cX8_lay 3 = .ok (.bipush 12, 2) := by decide +kernel
theorem dX8_lay_5 : decode cX8_lay 5 = .ok (.if_icmp .ge 55, 3) := by decide +kernel
theorem dX8_lay_8 : decode cX8_lay 8 = .ok (.iload_n 2, 1) := by decide +kernel
theorem dX8_lay_9 : decode cX8_lay 9 = .ok (.istore_n 3, 1) := by decide +kernel
theorem dX8_lay_10 : decode cX8_lay 10 = .ok (.iconst 0, 1) := by decide +kernel
theorem dX8_lay_11 : decode cX8_lay 11 = .ok (.istore 4, 2) := by decide +kernel
theorem dX8_lay_13 : decode cX8_lay 13 = .ok (.iload 4, 2) := by decide +kernel
theorem dX8_lay_15 : decode cX8_lay 15 = .ok (.aload_n 0, 1) := by decide +kernel
theorem dX8_lay_16 : decode cX8_lay 16 = .ok (.iload_n 1, 1) := by decide +kernel
theorem dX8_lay_17 : decode cX8_lay 17 = .ok (.invokevirtual 59, 3) := by decide +kernel
theorem dX8_lay_20 : decode cX8_lay 20 = .ok (.if_icmp .ge 22, 3) := by decide +kernel
theorem dX8_lay_23 : decode cX8_lay 23 = .ok (.aload_n 0, 1) := by decide +kernel
theorem dX8_lay_24 : decode cX8_lay 24 = .ok (.iload_n 3, 1) := by decide +kernel
theorem dX8_lay_25 : decode cX8_lay 25 = .ok (.aload_n 0, 1) := by decide +kernel
theorem dX8_lay_26 : decode cX8_lay 26 = .ok (.iload_n 1, 1) := by decide +kernel
theorem dX8_lay_27 : decode cX8_lay 27 = .ok (.iload 4, 2) := by decide +kernel
theorem dX8_lay_29 : decode cX8_lay 29 = .ok (.invokevirtual 62, 3) := by decide +kernel
theorem dX8_lay_32 : decode cX8_lay 32 = .ok (.invokevirtual 66, 3) := by decide +kernel
theorem dX8_lay_35 : decode cX8_lay 35 = .ok (.istore_n 3, 1) := by decide +kernel
theorem dX8_lay_36 : decode cX8_lay 36 = .ok (.iinc 4 1, 3) := by decide +kernel
theorem dX8_lay_39 : decode cX8_lay 39 = .ok (.goto (-26), 3) := by decide +kernel
theorem dX8_lay_42 : decode cX8_lay 42 = .ok (.aload_n 0, 1) := by decide +kernel
theorem dX8_lay_43 : decode cX8_lay 43 = .ok (.getfield 28, 3) := by decide +kernel
theorem dX8_lay_46 : decode cX8_lay 46 = .ok (.bipush 12, 2) := by decide +kernel
theorem dX8_lay_48 : decode cX8_lay 48 = .ok (.iload_n 1, 1) := by decide +kernel
theorem dX8_lay_49 : decode cX8_lay 49 = .ok (.imul, 1) := by decide +kernel
theorem dX8_lay_50 : decode cX8_lay 50 = .ok (.iload_n 2, 1) := by decide +kernel
theorem dX8_lay_51 : decode cX8_lay 51 = .ok (.iadd, 1) := by decide +kernel
theorem dX8_lay_52 : decode cX8_lay 52 = .ok (.iload_n 3, 1) := by decide +kernel
theorem dX8_lay_53 : decode cX8_lay 53 = .ok (.iastore, 1) := by decide +kernel
theorem dX8_lay_54 : decode cX8_lay 54 = .ok (.iinc 2 1, 3) := by decide +kernel
theorem dX8_lay_57 : decode cX8_lay 57 = .ok (.goto (-55), 3) := by decide +kernel
theorem dX8_lay_60 : decode cX8_lay 60 = .ok (.return_, 1) := by decide +kernel
theorem dX8_comesBy_0 : decode cX8_comesBy 0 = .ok (.aload_n 0, 1) := by decide +kernel
theorem dX8_comesBy_1 : decode cX8_comesBy 1 = .ok (.getfield 28, 3) := by decide +kernel
theorem dX8_comesBy_4 : decode cX8_comesBy 4 = .ok (.bipush 12, 2) := by decide +kernel
theorem dX8_comesBy_6 : decode cX8_comesBy 6 = .ok (.iload_n 1, 1) := by decide +kernel
theorem dX8_comesBy_7 : decode cX8_comesBy 7 = .ok (.imul, 1) := by decide +kernel
theorem dX8_comesBy_8 : decode cX8_comesBy 8 = .ok (.iload_n 2, 1) := by decide +kernel
theorem dX8_comesBy_9 : decode cX8_comesBy 9 = .ok (.iadd, 1) := by decide +kernel
theorem dX8_comesBy_10 : decode cX8_comesBy 10 = .ok (.iaload, 1) := by decide +kernel
theorem dX8_comesBy_11 : decode cX8_comesBy 11 = .ok (.ireturn, 1) := by decide +kernel
set_option maxRecDepth 20000 in
theorem ggX8_layAll_X8_lay : GoodIn wsX8_layAll wsX8_lay := goodIn_r _ [5, 6, 7, 8, 9, 4, 10, 11, 12, 13, 14, 15, 16, 17, 18, 19, 20, 21, 22, 23, 24, 25, 26, 27, 28, 29, 30, 31, 32, 33, 34, 35, 36, 37, 38] (by decide +kernel) (by decide +kernel)
set_option maxRecDepth 20000 in
theorem gX8_layAll_X8_lay : GoodIn wsX8_layAll (wsV RX8 69 RX8 yX8_lay wsX8_lay) := goodIn_app (goodIn_of _ (by decide +kernel)) ggX8_layAll_X8_lay
theorem dX8_layAll_0 : decode cX8_layAll 0 = .ok (.iconst 0, 1) := by decide +kernel
theorem dX8_layAll_1 : decode cX8_layAll 1 = .ok (.istore_n 1, 1) := by decide +kernel
theorem dX8_layAll_2 : decode cX8_layAll 2 = .ok (.iload_n 1, 1) := by decide +kernel
theorem dX8_layAll_3 : decode cX8_layAll 3 = .ok (.bipush 6, 2) := by decide +kernel
theorem dX8_layAll_5 : decode cX8_layAll 5 = .ok (.if_icmp .ge 14, 3) := by decide +kernel
theorem dX8_layAll_8 : decode cX8_layAll 8 = .ok (.aload_n 0, 1) := by decide +kernel
theorem dX8_layAll_9 : decode cX8_layAll 9 = .ok (.iload_n 1, 1) := by decide +kernel
theorem dX8_layAll_10 : decode cX8_layAll 10 = .ok (.invokevirtual 69, 3) := by decide +kernel
theorem dX8_layAll_13 : decode cX8_layAll 13 = .ok (.iinc 1 1, 3) := by decide +kernel
theorem dX8_layAll_16 : decode cX8_layAll 16 = .ok (.goto (-14), 3) := by decide +kernel
theorem dX8_layAll_19 : decode cX8_layAll 19 = .ok (.return_, 1) := by decide +kernel
set_option maxRecDepth 20000 in
theorem ggX8_stays_X8_comesBy : GoodIn wsX8_stays wsX8_comesBy := goodIn_r _ [5, 6, 7, 8, 9, 10, 11, 12, 13, 14, 15, 16, 17, 18, 19, 20, 21] (by decide +kernel) (by decide +kernel)
set_option maxRecDepth 20000 in
theorem gX8_stays_X8_comesBy : GoodIn wsX8_stays (wsV RX8 73 RX8 yX8_comesBy wsX8_comesBy) := goodIn_app (goodIn_of _ (by decide +kernel)) ggX8_stays_X8_comesBy
theorem dX8_stays_0 : decode cX8_stays 0 = .ok (.iconst 0, 1) := by decide +kernel
theorem dX8_stays_1 : decode cX8_stays 1 = .ok (.istore_n 2, 1) := by decide +kernel
theorem dX8_stays_2 : decode cX8_stays 2 = .ok (.iconst 0, 1) := by decide +kernel
theorem dX8_stays_3 : decode cX8_stays 3 = .ok (.istore_n 3, 1) := by decide +kernel
theorem dX8_stays_4 : decode cX8_stays 4 = .ok (.iload_n 3, 1) := by decide +kernel
theorem dX8_stays_5 : decode cX8_stays 5 = .ok (.bipush 12, 2) := by decide +kernel
theorem dX8_stays_7 : decode cX8_stays 7 = .ok (.if_icmp .ge 29, 3) := by decide +kernel
theorem dX8_stays_10 : decode cX8_stays 10 = .ok (.iload_n 2, 1) := by decide +kernel
theorem dX8_stays_11 : decode cX8_stays 11 = .ok (.aload_n 0, 1) := by decide +kernel
theorem dX8_stays_12 : decode cX8_stays 12 = .ok (.iload_n 1, 1) := by decide +kernel
theorem dX8_stays_13 : decode cX8_stays 13 = .ok (.iload_n 3, 1) := by decide +kernel
theorem dX8_stays_14 : decode cX8_stays 14 = .ok (.invokevirtual 73, 3) := by decide +kernel
theorem dX8_stays_17 : decode cX8_stays 17 = .ok (.iload_n 3, 1) := by decide +kernel
theorem dX8_stays_18 : decode cX8_stays 18 = .ok (.if_icmp .ne 9, 3) := by decide +kernel
theorem dX8_stays_21 : decode cX8_stays 21 = .ok (.iconst 1, 1) := by decide +kernel
theorem dX8_stays_22 : decode cX8_stays 22 = .ok (.iload_n 3, 1) := by decide +kernel
theorem dX8_stays_23 : decode cX8_stays 23 = .ok (.ishl, 1) := by decide +kernel
theorem dX8_stays_24 : decode cX8_stays 24 = .ok (.goto 4, 3) := by decide +kernel
theorem dX8_stays_27 : decode cX8_stays 27 = .ok (.iconst 0, 1) := by decide +kernel
theorem dX8_stays_28 : decode cX8_stays 28 = .ok (.ior, 1) := by decide +kernel
theorem dX8_stays_29 : decode cX8_stays 29 = .ok (.istore_n 2, 1) := by decide +kernel
theorem dX8_stays_30 : decode cX8_stays 30 = .ok (.iinc 3 1, 3) := by decide +kernel
theorem dX8_stays_33 : decode cX8_stays 33 = .ok (.goto (-29), 3) := by decide +kernel
theorem dX8_stays_36 : decode cX8_stays 36 = .ok (.iload_n 2, 1) := by decide +kernel
theorem dX8_stays_37 : decode cX8_stays 37 = .ok (.ireturn, 1) := by decide +kernel
set_option maxRecDepth 20000 in
theorem ggX8_cycleOf_X8_comesBy : GoodIn wsX8_cycleOf wsX8_comesBy := goodIn_r _ [5, 6, 7, 8, 9, 10, 11, 12, 13, 14, 15, 16, 17, 18, 19, 20, 21] (by decide +kernel) (by decide +kernel)
set_option maxRecDepth 20000 in
theorem gX8_cycleOf_X8_comesBy : GoodIn wsX8_cycleOf (wsV RX8 73 RX8 yX8_comesBy wsX8_comesBy) := goodIn_app (goodIn_of _ (by decide +kernel)) ggX8_cycleOf_X8_comesBy
theorem dX8_cycleOf_0 : decode cX8_cycleOf 0 = .ok (.iconst 1, 1) := by decide +kernel
theorem dX8_cycleOf_1 : decode cX8_cycleOf 1 = .ok (.istore_n 3, 1) := by decide +kernel
theorem dX8_cycleOf_2 : decode cX8_cycleOf 2 = .ok (.aload_n 0, 1) := by decide +kernel
theorem dX8_cycleOf_3 : decode cX8_cycleOf 3 = .ok (.iload_n 1, 1) := by decide +kernel
theorem dX8_cycleOf_4 : decode cX8_cycleOf 4 = .ok (.iload_n 2, 1) := by decide +kernel
theorem dX8_cycleOf_5 : decode cX8_cycleOf 5 = .ok (.invokevirtual 73, 3) := by decide +kernel
theorem dX8_cycleOf_8 : decode cX8_cycleOf 8 = .ok (.istore 4, 2) := by decide +kernel
theorem dX8_cycleOf_10 : decode cX8_cycleOf 10 = .ok (.iload 4, 2) := by decide +kernel
theorem dX8_cycleOf_12 : decode cX8_cycleOf 12 = .ok (.iload_n 2, 1) := by decide +kernel
theorem dX8_cycleOf_13 : decode cX8_cycleOf 13 = .ok (.if_icmp .eq 18, 3) := by decide +kernel
theorem dX8_cycleOf_16 : decode cX8_cycleOf 16 = .ok (.iinc 3 1, 3) := by decide +kernel
theorem dX8_cycleOf_19 : decode cX8_cycleOf 19 = .ok (.aload_n 0, 1) := by decide +kernel
theorem dX8_cycleOf_20 : decode cX8_cycleOf 20 = .ok (.iload_n 1, 1) := by decide +kernel
theorem dX8_cycleOf_21 : decode cX8_cycleOf 21 = .ok (.iload 4, 2) := by decide +kernel
theorem dX8_cycleOf_23 : decode cX8_cycleOf 23 = .ok (.invokevirtual 73, 3) := by decide +kernel
theorem dX8_cycleOf_26 : decode cX8_cycleOf 26 = .ok (.istore 4, 2) := by decide +kernel
theorem dX8_cycleOf_28 : decode cX8_cycleOf 28 = .ok (.goto (-18), 3) := by decide +kernel
theorem dX8_cycleOf_31 : decode cX8_cycleOf 31 = .ok (.iload_n 3, 1) := by decide +kernel
theorem dX8_cycleOf_32 : decode cX8_cycleOf 32 = .ok (.ireturn, 1) := by decide +kernel
set_option maxRecDepth 20000 in
theorem ggX8_orderOf_X8_cycleOf : GoodIn wsX8_orderOf wsX8_cycleOf := goodIn_r _ [5, 6, 7, 8, 4, 9, 10, 11, 12, 13, 14, 15, 16, 17, 18, 19, 20, 21, 22, 23, 24, 25] (by decide +kernel) (by decide +kernel)
set_option maxRecDepth 20000 in
theorem gX8_orderOf_X8_cycleOf : GoodIn wsX8_orderOf (wsV RX8 76 RX8 yX8_cycleOf wsX8_cycleOf) := goodIn_app (goodIn_of _ (by decide +kernel)) ggX8_orderOf_X8_cycleOf
theorem dX8_orderOf_0 : decode cX8_orderOf 0 = .ok (.iconst 0, 1) := by decide +kernel
theorem dX8_orderOf_1 : decode cX8_orderOf 1 = .ok (.istore_n 2, 1) := by decide +kernel
theorem dX8_orderOf_2 : decode cX8_orderOf 2 = .ok (.iconst 0, 1) := by decide +kernel
theorem dX8_orderOf_3 : decode cX8_orderOf 3 = .ok (.istore_n 3, 1) := by decide +kernel
theorem dX8_orderOf_4 : decode cX8_orderOf 4 = .ok (.iload_n 3, 1) := by decide +kernel
theorem dX8_orderOf_5 : decode cX8_orderOf 5 = .ok (.ifCond .ne 49, 3) := by decide +kernel
theorem dX8_orderOf_8 : decode cX8_orderOf 8 = .ok (.iinc 2 1, 3) := by decide +kernel
theorem dX8_orderOf_11 : decode cX8_orderOf 11 = .ok (.iconst 1, 1) := by decide +kernel
theorem dX8_orderOf_12 : decode cX8_orderOf 12 = .ok (.istore_n 3, 1) := by decide +kernel
theorem dX8_orderOf_13 : decode cX8_orderOf 13 = .ok (.iconst 0, 1) := by decide +kernel
theorem dX8_orderOf_14 : decode cX8_orderOf 14 = .ok (.istore 4, 2) := by decide +kernel
theorem dX8_orderOf_16 : decode cX8_orderOf 16 = .ok (.iload 4, 2) := by decide +kernel
theorem dX8_orderOf_18 : decode cX8_orderOf 18 = .ok (.bipush 12, 2) := by decide +kernel
theorem dX8_orderOf_20 : decode cX8_orderOf 20 = .ok (.if_icmp .ge 31, 3) := by decide +kernel
theorem dX8_orderOf_23 : decode cX8_orderOf 23 = .ok (.iload_n 3, 1) := by decide +kernel
theorem dX8_orderOf_24 : decode cX8_orderOf 24 = .ok (.ifCond .eq 19, 3) := by decide +kernel
theorem dX8_orderOf_27 : decode cX8_orderOf 27 = .ok (.iload_n 2, 1) := by decide +kernel
theorem dX8_orderOf_28 : decode cX8_orderOf 28 = .ok (.aload_n 0, 1) := by decide +kernel
theorem dX8_orderOf_29 : decode cX8_orderOf 29 = .ok (.iload_n 1, 1) := by decide +kernel
theorem dX8_orderOf_30 : decode cX8_orderOf 30 = .ok (.iload 4, 2) := by decide +kernel
theorem dX8_orderOf_32 : decode cX8_orderOf 32 = .ok (.invokevirtual 76, 3) := by decide +kernel
theorem dX8_orderOf_35 : decode cX8_orderOf 35 = .ok (.irem, 1) := by decide +kernel
theorem dX8_orderOf_36 : decode cX8_orderOf 36 = .ok (.ifCond .ne 7, 3) := by decide +kernel
theorem dX8_orderOf_39 : decode cX8_orderOf 39 = .ok (.iconst 1, 1) := by decide +kernel
theorem dX8_orderOf_40 : decode cX8_orderOf 40 = .ok (.goto 4, 3) := by decide +kernel
theorem dX8_orderOf_43 : decode cX8_orderOf 43 = .ok (.iconst 0, 1) := by decide +kernel
theorem dX8_orderOf_44 : decode cX8_orderOf 44 = .ok (.istore_n 3, 1) := by decide +kernel
theorem dX8_orderOf_45 : decode cX8_orderOf 45 = .ok (.iinc 4 1, 3) := by decide +kernel
theorem dX8_orderOf_48 : decode cX8_orderOf 48 = .ok (.goto (-32), 3) := by decide +kernel
theorem dX8_orderOf_51 : decode cX8_orderOf 51 = .ok (.goto (-47), 3) := by decide +kernel
theorem dX8_orderOf_54 : decode cX8_orderOf 54 = .ok (.iload_n 2, 1) := by decide +kernel
theorem dX8_orderOf_55 : decode cX8_orderOf 55 = .ok (.ireturn, 1) := by decide +kernel
set_option maxRecDepth 20000 in
theorem ggX8_cycles_X8_cycleOf : GoodIn wsX8_cycles wsX8_cycleOf := goodIn_r _ [5, 6, 7, 8, 4, 9, 10, 11, 12, 13, 14, 15, 16, 17, 18, 19, 20, 21, 22, 23, 24, 25] (by decide +kernel) (by decide +kernel)
set_option maxRecDepth 20000 in
theorem gX8_cycles_X8_cycleOf : GoodIn wsX8_cycles (wsV RX8 76 RX8 yX8_cycleOf wsX8_cycleOf) := goodIn_app (goodIn_of _ (by decide +kernel)) ggX8_cycles_X8_cycleOf
theorem dX8_cycles_0 : decode cX8_cycles 0 = .ok (.iconst 0, 1) := by decide +kernel
theorem dX8_cycles_1 : decode cX8_cycles 1 = .ok (.istore_n 2, 1) := by decide +kernel
theorem dX8_cycles_2 : decode cX8_cycles 2 = .ok (.iconst 2, 1) := by decide +kernel
theorem dX8_cycles_3 : decode cX8_cycles 3 = .ok (.istore_n 3, 1) := by decide +kernel
theorem dX8_cycles_4 : decode cX8_cycles 4 = .ok (.iload_n 3, 1) := by decide +kernel
theorem dX8_cycles_5 : decode cX8_cycles 5 = .ok (.bipush 12, 2) := by decide +kernel
theorem dX8_cycles_7 : decode cX8_cycles 7 = .ok (.if_icmp .gt 56, 3) := by decide +kernel
theorem dX8_cycles_10 : decode cX8_cycles 10 = .ok (.iconst 0, 1) := by decide +kernel
theorem dX8_cycles_11 : decode cX8_cycles 11 = .ok (.istore 4, 2) := by decide +kernel
theorem dX8_cycles_13 : decode cX8_cycles 13 = .ok (.iconst 0, 1) := by decide +kernel
theorem dX8_cycles_14 : decode cX8_cycles 14 = .ok (.istore 5, 2) := by decide +kernel
theorem dX8_cycles_16 : decode cX8_cycles 16 = .ok (.iload 5, 2) := by decide +kernel
theorem dX8_cycles_18 : decode cX8_cycles 18 = .ok (.bipush 12, 2) := by decide +kernel
theorem dX8_cycles_20 : decode cX8_cycles 20 = .ok (.if_icmp .ge 30, 3) := by decide +kernel
theorem dX8_cycles_23 : decode cX8_cycles 23 = .ok (.iload 4, 2) := by decide +kernel
theorem dX8_cycles_25 : decode cX8_cycles 25 = .ok (.aload_n 0, 1) := by decide +kernel
theorem dX8_cycles_26 : decode cX8_cycles 26 = .ok (.iload_n 1, 1) := by decide +kernel
theorem dX8_cycles_27 : decode cX8_cycles 27 = .ok (.iload 5, 2) := by decide +kernel
theorem dX8_cycles_29 : decode cX8_cycles 29 = .ok (.invokevirtual 76, 3) := by decide +kernel
theorem dX8_cycles_32 : decode cX8_cycles 32 = .ok (.iload_n 3, 1) := by decide +kernel
theorem dX8_cycles_33 : decode cX8_cycles 33 = .ok (.if_icmp .ne 7, 3) := by decide +kernel
theorem dX8_cycles_36 : decode cX8_cycles 36 = .ok (.iconst 1, 1) := by decide +kernel
theorem dX8_cycles_37 : decode cX8_cycles 37 = .ok (.goto 4, 3) := by decide +kernel
theorem dX8_cycles_40 : decode cX8_cycles 40 = .ok (.iconst 0, 1) := by decide +kernel
theorem dX8_cycles_41 : decode cX8_cycles 41 = .ok (.iadd, 1) := by decide +kernel
theorem dX8_cycles_42 : decode cX8_cycles 42 = .ok (.istore 4, 2) := by decide +kernel
theorem dX8_cycles_44 : decode cX8_cycles 44 = .ok (.iinc 5 1, 3) := by decide +kernel
theorem dX8_cycles_47 : decode cX8_cycles 47 = .ok (.goto (-31), 3) := by decide +kernel
theorem dX8_cycles_50 : decode cX8_cycles 50 = .ok (.iload_n 2, 1) := by decide +kernel
theorem dX8_cycles_51 : decode cX8_cycles 51 = .ok (.iload 4, 2) := by decide +kernel
theorem dX8_cycles_53 : decode cX8_cycles 53 = .ok (.iload_n 3, 1) := by decide +kernel
theorem dX8_cycles_54 : decode cX8_cycles 54 = .ok (.idiv, 1) := by decide +kernel
theorem dX8_cycles_55 : decode cX8_cycles 55 = .ok (.iadd, 1) := by decide +kernel
theorem dX8_cycles_56 : decode cX8_cycles 56 = .ok (.istore_n 2, 1) := by decide +kernel
theorem dX8_cycles_57 : decode cX8_cycles 57 = .ok (.iinc 3 1, 3) := by decide +kernel
theorem dX8_cycles_60 : decode cX8_cycles 60 = .ok (.goto (-56), 3) := by decide +kernel
theorem dX8_cycles_63 : decode cX8_cycles 63 = .ok (.iload_n 2, 1) := by decide +kernel
theorem dX8_cycles_64 : decode cX8_cycles 64 = .ok (.ireturn, 1) := by decide +kernel
set_option maxRecDepth 20000 in
theorem ggX8_longest_X8_cycleOf : GoodIn wsX8_longest wsX8_cycleOf := goodIn_r _ [5, 6, 7, 8, 4, 9, 10, 11, 12, 13, 14, 15, 16, 17, 18, 19, 20, 21, 22, 23, 24, 25] (by decide +kernel) (by decide +kernel)
set_option maxRecDepth 20000 in
theorem gX8_longest_X8_cycleOf : GoodIn wsX8_longest (wsV RX8 76 RX8 yX8_cycleOf wsX8_cycleOf) := goodIn_app (goodIn_of _ (by decide +kernel)) ggX8_longest_X8_cycleOf
theorem dX8_longest_0 : decode cX8_longest 0 = .ok (.iconst 0, 1) := by decide +kernel
theorem dX8_longest_1 : decode cX8_longest 1 = .ok (.istore_n 2, 1) := by decide +kernel
theorem dX8_longest_2 : decode cX8_longest 2 = .ok (.iconst 0, 1) := by decide +kernel
theorem dX8_longest_3 : decode cX8_longest 3 = .ok (.istore_n 3, 1) := by decide +kernel
theorem dX8_longest_4 : decode cX8_longest 4 = .ok (.iload_n 3, 1) := by decide +kernel
theorem dX8_longest_5 : decode cX8_longest 5 = .ok (.bipush 12, 2) := by decide +kernel
theorem dX8_longest_7 : decode cX8_longest 7 = .ok (.if_icmp .ge 30, 3) := by decide +kernel
theorem dX8_longest_10 : decode cX8_longest 10 = .ok (.aload_n 0, 1) := by decide +kernel
theorem dX8_longest_11 : decode cX8_longest 11 = .ok (.iload_n 1, 1) := by decide +kernel
theorem dX8_longest_12 : decode cX8_longest 12 = .ok (.iload_n 3, 1) := by decide +kernel
theorem dX8_longest_13 : decode cX8_longest 13 = .ok (.invokevirtual 76, 3) := by decide +kernel
theorem dX8_longest_16 : decode cX8_longest 16 = .ok (.iload_n 2, 1) := by decide +kernel
theorem dX8_longest_17 : decode cX8_longest 17 = .ok (.if_icmp .le 12, 3) := by decide +kernel
theorem dX8_longest_20 : decode cX8_longest 20 = .ok (.aload_n 0, 1) := by decide +kernel
theorem dX8_longest_21 : decode cX8_longest 21 = .ok (.iload_n 1, 1) := by decide +kernel
theorem dX8_longest_22 : decode cX8_longest 22 = .ok (.iload_n 3, 1) := by decide +kernel
theorem dX8_longest_23 : decode cX8_longest 23 = .ok (.invokevirtual 76, 3) := by decide +kernel
theorem dX8_longest_26 : decode cX8_longest 26 = .ok (.goto 4, 3) := by decide +kernel
theorem dX8_longest_29 : decode cX8_longest 29 = .ok (.iload_n 2, 1) := by decide +kernel
theorem dX8_longest_30 : decode cX8_longest 30 = .ok (.istore_n 2, 1) := by decide +kernel
theorem dX8_longest_31 : decode cX8_longest 31 = .ok (.iinc 3 1, 3) := by decide +kernel
theorem dX8_longest_34 : decode cX8_longest 34 = .ok (.goto (-30), 3) := by decide +kernel
theorem dX8_longest_37 : decode cX8_longest 37 = .ok (.iload_n 2, 1) := by decide +kernel
theorem dX8_longest_38 : decode cX8_longest 38 = .ok (.iconst 1, 1) := by decide +kernel
theorem dX8_longest_39 : decode cX8_longest 39 = .ok (.if_icmp .le 7, 3) := by decide +kernel
theorem dX8_longest_42 : decode cX8_longest 42 = .ok (.iload_n 2, 1) := by decide +kernel
theorem dX8_longest_43 : decode cX8_longest 43 = .ok (.goto 4, 3) := by decide +kernel
theorem dX8_longest_46 : decode cX8_longest 46 = .ok (.iconst 0, 1) := by decide +kernel
theorem dX8_longest_47 : decode cX8_longest 47 = .ok (.ireturn, 1) := by decide +kernel
set_option maxRecDepth 20000 in
theorem ggX8_turnedPairs_X8_comesBy : GoodIn wsX8_turnedPairs wsX8_comesBy := goodIn_r _ [5, 6, 7, 8, 9, 10, 11, 12, 13, 14, 15, 16, 17, 18, 19, 20, 21] (by decide +kernel) (by decide +kernel)
set_option maxRecDepth 20000 in
theorem gX8_turnedPairs_X8_comesBy : GoodIn wsX8_turnedPairs (wsV RX8 73 RX8 yX8_comesBy wsX8_comesBy) := goodIn_app (goodIn_of _ (by decide +kernel)) ggX8_turnedPairs_X8_comesBy
theorem dX8_turnedPairs_0 : decode cX8_turnedPairs 0 = .ok (.iconst 0, 1) := by decide +kernel
theorem dX8_turnedPairs_1 : decode cX8_turnedPairs 1 = .ok (.istore_n 2, 1) := by decide +kernel
theorem dX8_turnedPairs_2 : decode cX8_turnedPairs 2 = .ok (.iconst 0, 1) := by decide +kernel
theorem dX8_turnedPairs_3 : decode cX8_turnedPairs 3 = .ok (.istore_n 3, 1) := by decide +kernel
theorem dX8_turnedPairs_4 : decode cX8_turnedPairs 4 = .ok (.iload_n 3, 1) := by decide +kernel
theorem dX8_turnedPairs_5 : decode cX8_turnedPairs 5 = .ok (.bipush 12, 2) := by decide +kernel
theorem dX8_turnedPairs_7 : decode cX8_turnedPairs 7 = .ok (.if_icmp .ge 51, 3) := by decide +kernel
theorem dX8_turnedPairs_10 : decode cX8_turnedPairs 10 = .ok (.iload_n 3, 1) := by decide +kernel
theorem dX8_turnedPairs_11 : decode cX8_turnedPairs 11 = .ok (.iconst 1, 1) := by decide +kernel
theorem dX8_turnedPairs_12 : decode cX8_turnedPairs 12 = .ok (.iadd, 1) := by decide +kernel
theorem dX8_turnedPairs_13 : decode cX8_turnedPairs 13 = .ok (.istore 4, 2) := by decide +kernel
theorem dX8_turnedPairs_15 : decode cX8_turnedPairs 15 = .ok (.iload 4, 2) := by decide +kernel
theorem dX8_turnedPairs_17 : decode cX8_turnedPairs 17 = .ok (.bipush 12, 2) := by decide +kernel
theorem dX8_turnedPairs_19 : decode cX8_turnedPairs 19 = .ok (.if_icmp .ge 33, 3) := by decide +kernel
theorem dX8_turnedPairs_22 : decode cX8_turnedPairs 22 = .ok (.iload_n 2, 1) := by decide +kernel
theorem dX8_turnedPairs_23 : decode cX8_turnedPairs 23 = .ok (.aload_n 0, 1) := by decide +kernel
theorem dX8_turnedPairs_24 : decode cX8_turnedPairs 24 = .ok (.iload_n 1, 1) := by decide +kernel
theorem dX8_turnedPairs_25 : decode cX8_turnedPairs 25 = .ok (.iload_n 3, 1) := by decide +kernel
theorem dX8_turnedPairs_26 : decode cX8_turnedPairs 26 = .ok (.invokevirtual 73, 3) := by decide +kernel
theorem dX8_turnedPairs_29 : decode cX8_turnedPairs 29 = .ok (.aload_n 0, 1) := by decide +kernel
theorem dX8_turnedPairs_30 : decode cX8_turnedPairs 30 = .ok (.iload_n 1, 1) := by decide +kernel
theorem dX8_turnedPairs_31 : decode cX8_turnedPairs 31 = .ok (.iload 4, 2) := by decide +kernel
theorem dX8_turnedPairs_33 : decode cX8_turnedPairs 33 = .ok (.invokevirtual 73, 3) := by decide +kernel
theorem dX8_turnedPairs_36 : decode cX8_turnedPairs 36 = .ok (.if_icmp .le 7, 3) := by decide +kernel
theorem dX8_turnedPairs_39 : decode cX8_turnedPairs 39 = .ok (.iconst 1, 1) := by decide +kernel
theorem dX8_turnedPairs_40 : decode cX8_turnedPairs 40 = .ok (.goto 4, 3) := by decide +kernel
theorem dX8_turnedPairs_43 : decode cX8_turnedPairs 43 = .ok (.iconst 0, 1) := by decide +kernel
theorem dX8_turnedPairs_44 : decode cX8_turnedPairs 44 = .ok (.iadd, 1) := by decide +kernel
theorem dX8_turnedPairs_45 : decode cX8_turnedPairs 45 = .ok (.istore_n 2, 1) := by decide +kernel
theorem dX8_turnedPairs_46 : decode cX8_turnedPairs 46 = .ok (.iinc 4 1, 3) := by decide +kernel
theorem dX8_turnedPairs_49 : decode cX8_turnedPairs 49 = .ok (.goto (-34), 3) := by decide +kernel
theorem dX8_turnedPairs_52 : decode cX8_turnedPairs 52 = .ok (.iinc 3 1, 3) := by decide +kernel
theorem dX8_turnedPairs_55 : decode cX8_turnedPairs 55 = .ok (.goto (-51), 3) := by decide +kernel
theorem dX8_turnedPairs_58 : decode cX8_turnedPairs 58 = .ok (.iload_n 2, 1) := by decide +kernel
theorem dX8_turnedPairs_59 : decode cX8_turnedPairs 59 = .ok (.ireturn, 1) := by decide +kernel
theorem dX8_takeThreads_0 : decode cX8_takeThreads 0 = .ok (.iconst 0, 1) := by decide +kernel
theorem dX8_takeThreads_1 : decode cX8_takeThreads 1 = .ok (.istore_n 1, 1) := by decide +kernel
theorem dX8_takeThreads_2 : decode cX8_takeThreads 2 = .ok (.iload_n 1, 1) := by decide +kernel
theorem dX8_takeThreads_3 : decode cX8_takeThreads 3 = .ok (.bipush 12, 2) := by decide +kernel
theorem dX8_takeThreads_5 : decode cX8_takeThreads 5 = .ok (.if_icmp .ge 24, 3) := by decide +kernel
theorem dX8_takeThreads_8 : decode cX8_takeThreads 8 = .ok (.aload_n 0, 1) := by decide +kernel
theorem dX8_takeThreads_9 : decode cX8_takeThreads 9 = .ok (.getfield 31, 3) := by decide +kernel
theorem dX8_takeThreads_12 : decode cX8_takeThreads 12 = .ok (.iload_n 1, 1) := by decide +kernel
theorem dX8_takeThreads_13 : decode cX8_takeThreads 13 = .ok (.aload_n 0, 1) := by decide +kernel
theorem dX8_takeThreads_14 : decode cX8_takeThreads 14 = .ok (.getfield 7, 3) := by decide +kernel
theorem dX8_takeThreads_17 : decode cX8_takeThreads 17 = .ok (.bipush 18, 2) := by decide +kernel
theorem dX8_takeThreads_19 : decode cX8_takeThreads 19 = .ok (.iload_n 1, 1) := by decide +kernel
theorem dX8_takeThreads_20 : decode cX8_takeThreads 20 = .ok (.iadd, 1) := by decide +kernel
theorem dX8_takeThreads_21 : decode cX8_takeThreads 21 = .ok (.iaload, 1) := by decide +kernel
theorem dX8_takeThreads_22 : decode cX8_takeThreads 22 = .ok (.iastore, 1) := by decide +kernel
theorem dX8_takeThreads_23 : decode cX8_takeThreads 23 = .ok (.iinc 1 1, 3) := by decide +kernel
theorem dX8_takeThreads_26 : decode cX8_takeThreads 26 = .ok (.goto (-24), 3) := by decide +kernel
theorem dX8_takeThreads_29 : decode cX8_takeThreads 29 = .ok (.return_, 1) := by decide +kernel
set_option maxRecDepth 20000 in
theorem ggX8_weaveOnce_X8_comesBy : GoodIn wsX8_weaveOnce wsX8_comesBy := goodIn_r _ [7, 8, 9, 10, 11, 12, 13, 14, 15, 16, 17, 18, 19, 20, 21, 22, 23] (by decide +kernel) (by decide +kernel)
set_option maxRecDepth 20000 in
theorem gX8_weaveOnce_X8_comesBy : GoodIn wsX8_weaveOnce (wsV RX8 73 RX8 yX8_comesBy wsX8_comesBy) := goodIn_app (goodIn_of _ (by decide +kernel)) ggX8_weaveOnce_X8_comesBy
theorem dX8_weaveOnce_0 : decode cX8_weaveOnce 0 = .ok (.iconst 0, 1) := by decide +kernel
theorem dX8_weaveOnce_1 : decode cX8_weaveOnce 1 = .ok (.istore_n 2, 1) := by decide +kernel
theorem dX8_weaveOnce_2 : decode cX8_weaveOnce 2 = .ok (.iload_n 2, 1) := by decide +kernel
theorem dX8_weaveOnce_3 : decode cX8_weaveOnce 3 = .ok (.bipush 12, 2) := by decide +kernel
theorem dX8_weaveOnce_5 : decode cX8_weaveOnce 5 = .ok (.if_icmp .ge 26, 3) := by decide +kernel
theorem dX8_weaveOnce_8 : decode cX8_weaveOnce 8 = .ok (.aload_n 0, 1) := by decide +kernel
theorem dX8_weaveOnce_9 : decode cX8_weaveOnce 9 = .ok (.getfield 34, 3) := by decide +kernel
theorem dX8_weaveOnce_12 : decode cX8_weaveOnce 12 = .ok (.aload_n 0, 1) := by decide +kernel
theorem dX8_weaveOnce_13 : decode cX8_weaveOnce 13 = .ok (.iload_n 1, 1) := by decide +kernel
theorem dX8_weaveOnce_14 : decode cX8_weaveOnce 14 = .ok (.iload_n 2, 1) := by decide +kernel
theorem dX8_weaveOnce_15 : decode cX8_weaveOnce 15 = .ok (.invokevirtual 73, 3) := by decide +kernel
theorem dX8_weaveOnce_18 : decode cX8_weaveOnce 18 = .ok (.aload_n 0, 1) := by decide +kernel
theorem dX8_weaveOnce_19 : decode cX8_weaveOnce 19 = .ok (.getfield 31, 3) := by decide +kernel
theorem dX8_weaveOnce_22 : decode cX8_weaveOnce 22 = .ok (.iload_n 2, 1) := by decide +kernel
theorem dX8_weaveOnce_23 : decode cX8_weaveOnce 23 = .ok (.iaload, 1) := by decide +kernel
theorem dX8_weaveOnce_24 : decode cX8_weaveOnce 24 = .ok (.iastore, 1) := by decide +kernel
theorem dX8_weaveOnce_25 : decode cX8_weaveOnce 25 = .ok (.iinc 2 1, 3) := by decide +kernel
theorem dX8_weaveOnce_28 : decode cX8_weaveOnce 28 = .ok (.goto (-26), 3) := by decide +kernel
theorem dX8_weaveOnce_31 : decode cX8_weaveOnce 31 = .ok (.iconst 0, 1) := by decide +kernel
theorem dX8_weaveOnce_32 : decode cX8_weaveOnce 32 = .ok (.istore_n 2, 1) := by decide +kernel
theorem dX8_weaveOnce_33 : decode cX8_weaveOnce 33 = .ok (.iload_n 2, 1) := by decide +kernel
theorem dX8_weaveOnce_34 : decode cX8_weaveOnce 34 = .ok (.bipush 12, 2) := by decide +kernel
theorem dX8_weaveOnce_36 : decode cX8_weaveOnce 36 = .ok (.if_icmp .ge 21, 3) := by decide +kernel
theorem dX8_weaveOnce_39 : decode cX8_weaveOnce 39 = .ok (.aload_n 0, 1) := by decide +kernel
theorem dX8_weaveOnce_40 : decode cX8_weaveOnce 40 = .ok (.getfield 31, 3) := by decide +kernel
theorem dX8_weaveOnce_43 : decode cX8_weaveOnce 43 = .ok (.iload_n 2, 1) := by decide +kernel
theorem dX8_weaveOnce_44 : decode cX8_weaveOnce 44 = .ok (.aload_n 0, 1) := by decide +kernel
theorem dX8_weaveOnce_45 : decode cX8_weaveOnce 45 = .ok (.getfield 34, 3) := by decide +kernel
theorem dX8_weaveOnce_48 : decode cX8_weaveOnce 48 = .ok (.iload_n 2, 1) := by decide +kernel
theorem dX8_weaveOnce_49 : decode cX8_weaveOnce 49 = .ok (.iaload, 1) := by decide +kernel
theorem dX8_weaveOnce_50 : decode cX8_weaveOnce 50 = .ok (.iastore, 1) := by decide +kernel
theorem dX8_weaveOnce_51 : decode cX8_weaveOnce 51 = .ok (.iinc 2 1, 3) := by decide +kernel
theorem dX8_weaveOnce_54 : decode cX8_weaveOnce 54 = .ok (.goto (-21), 3) := by decide +kernel
theorem dX8_weaveOnce_57 : decode cX8_weaveOnce 57 = .ok (.return_, 1) := by decide +kernel
theorem dX8_isSameCloth_0 : decode cX8_isSameCloth 0 = .ok (.iconst 1, 1) := by decide +kernel
theorem dX8_isSameCloth_1 : decode cX8_isSameCloth 1 = .ok (.istore_n 1, 1) := by decide +kernel
theorem dX8_isSameCloth_2 : decode cX8_isSameCloth 2 = .ok (.iconst 0, 1) := by decide +kernel
theorem dX8_isSameCloth_3 : decode cX8_isSameCloth 3 = .ok (.istore_n 2, 1) := by decide +kernel
theorem dX8_isSameCloth_4 : decode cX8_isSameCloth 4 = .ok (.iload_n 2, 1) := by decide +kernel
theorem dX8_isSameCloth_5 : decode cX8_isSameCloth 5 = .ok (.bipush 12, 2) := by decide +kernel
theorem dX8_isSameCloth_7 : decode cX8_isSameCloth 7 = .ok (.if_icmp .ge 53, 3) := by decide +kernel
theorem dX8_isSameCloth_10 : decode cX8_isSameCloth 10 = .ok (.iload_n 1, 1) := by decide +kernel
theorem dX8_isSameCloth_11 : decode cX8_isSameCloth 11 = .ok (.ifCond .eq 41, 3) := by decide +kernel
theorem dX8_isSameCloth_14 : decode cX8_isSameCloth 14 = .ok (.aload_n 0, 1) := by decide +kernel
theorem dX8_isSameCloth_15 : decode cX8_isSameCloth 15 = .ok (.getfield 7, 3) := by decide +kernel
theorem dX8_isSameCloth_18 : decode cX8_isSameCloth 18 = .ok (.bipush 30, 2) := by decide +kernel
theorem dX8_isSameCloth_20 : decode cX8_isSameCloth 20 = .ok (.aload_n 0, 1) := by decide +kernel
theorem dX8_isSameCloth_21 : decode cX8_isSameCloth 21 = .ok (.getfield 31, 3) := by decide +kernel
theorem dX8_isSameCloth_24 : decode cX8_isSameCloth 24 = .ok (.iload_n 2, 1) := by decide +kernel
theorem dX8_isSameCloth_25 : decode cX8_isSameCloth 25 = .ok (.iaload, 1) := by decide +kernel
theorem dX8_isSameCloth_26 : decode cX8_isSameCloth 26 = .ok (.iadd, 1) := by decide +kernel
theorem dX8_isSameCloth_27 : decode cX8_isSameCloth 27 = .ok (.iaload, 1) := by decide +kernel
theorem dX8_isSameCloth_28 : decode cX8_isSameCloth 28 = .ok (.aload_n 0, 1) := by decide +kernel
theorem dX8_isSameCloth_29 : decode cX8_isSameCloth 29 = .ok (.getfield 7, 3) := by decide +kernel
theorem dX8_isSameCloth_32 : decode cX8_isSameCloth 32 = .ok (.bipush 30, 2) := by decide +kernel
theorem dX8_isSameCloth_34 : decode cX8_isSameCloth 34 = .ok (.aload_n 0, 1) := by decide +kernel
theorem dX8_isSameCloth_35 : decode cX8_isSameCloth 35 = .ok (.getfield 7, 3) := by decide +kernel
theorem dX8_isSameCloth_38 : decode cX8_isSameCloth 38 = .ok (.bipush 18, 2) := by decide +kernel
theorem dX8_isSameCloth_40 : decode cX8_isSameCloth 40 = .ok (.iload_n 2, 1) := by decide +kernel
theorem dX8_isSameCloth_41 : decode cX8_isSameCloth 41 = .ok (.iadd, 1) := by decide +kernel
theorem dX8_isSameCloth_42 : decode cX8_isSameCloth 42 = .ok (.iaload, 1) := by decide +kernel
theorem dX8_isSameCloth_43 : decode cX8_isSameCloth 43 = .ok (.iadd, 1) := by decide +kernel
theorem dX8_isSameCloth_44 : decode cX8_isSameCloth 44 = .ok (.iaload, 1) := by decide +kernel
theorem dX8_isSameCloth_45 : decode cX8_isSameCloth 45 = .ok (.if_icmp .ne 7, 3) := by decide +kernel
theorem dX8_isSameCloth_48 : decode cX8_isSameCloth 48 = .ok (.iconst 1, 1) := by decide +kernel
theorem dX8_isSameCloth_49 : decode cX8_isSameCloth 49 = .ok (.goto 4, 3) := by decide +kernel
theorem dX8_isSameCloth_52 : decode cX8_isSameCloth 52 = .ok (.iconst 0, 1) := by decide +kernel
theorem dX8_isSameCloth_53 : decode cX8_isSameCloth 53 = .ok (.istore_n 1, 1) := by decide +kernel
theorem dX8_isSameCloth_54 : decode cX8_isSameCloth 54 = .ok (.iinc 2 1, 3) := by decide +kernel
theorem dX8_isSameCloth_57 : decode cX8_isSameCloth 57 = .ok (.goto (-53), 3) := by decide +kernel
theorem dX8_isSameCloth_60 : decode cX8_isSameCloth 60 = .ok (.iload_n 1, 1) := by decide +kernel
theorem dX8_isSameCloth_61 : decode cX8_isSameCloth 61 = .ok (.ireturn, 1) := by decide +kernel
set_option maxRecDepth 20000 in
theorem ggX8_repeats_X8_takeThreads : GoodIn wsX8_repeats wsX8_takeThreads := goodIn_r _ [5, 6, 7, 22, 23, 24, 25, 26, 27, 28, 29, 30, 31, 32, 33, 34, 35, 36] (by decide +kernel) (by decide +kernel)
set_option maxRecDepth 20000 in
theorem gX8_repeats_X8_takeThreads : GoodIn wsX8_repeats (wsV RX8 79 RX8 yX8_takeThreads wsX8_takeThreads) := goodIn_app (goodIn_of _ (by decide +kernel)) ggX8_repeats_X8_takeThreads
set_option maxRecDepth 20000 in
theorem ggX8_repeats_X8_weaveOnce : GoodIn wsX8_repeats wsX8_weaveOnce := goodIn_r _ [11, 12, 6, 13, 14, 15, 4, 16, 17, 22, 23, 24, 25, 26, 27, 28, 29, 30, 31, 32, 33, 34, 35, 36] (by decide +kernel) (by decide +kernel)
set_option maxRecDepth 20000 in
theorem gX8_repeats_X8_weaveOnce : GoodIn wsX8_repeats (wsV RX8 82 RX8 yX8_weaveOnce wsX8_weaveOnce) := goodIn_app (goodIn_of _ (by decide +kernel)) ggX8_repeats_X8_weaveOnce
set_option maxRecDepth 20000 in
theorem ggX8_repeats_X8_isSameCloth : GoodIn wsX8_repeats wsX8_isSameCloth := goodIn_r _ [21, 7, 6, 22, 23, 24, 25, 26, 27, 28, 29, 30, 31, 32, 33, 34, 35, 36] (by decide +kernel) (by decide +kernel)
set_option maxRecDepth 20000 in
theorem gX8_repeats_X8_isSameCloth : GoodIn wsX8_repeats (wsV RX8 85 RX8 yX8_isSameCloth wsX8_isSameCloth) := goodIn_app (goodIn_of _ (by decide +kernel)) ggX8_repeats_X8_isSameCloth
theorem dX8_repeats_0 : decode cX8_repeats 0 = .ok (.aload_n 0, 1) := by decide +kernel
theorem dX8_repeats_1 : decode cX8_repeats 1 = .ok (.invokevirtual 79, 3) := by decide +kernel
theorem dX8_repeats_4 : decode cX8_repeats 4 = .ok (.iconst 0, 1) := by decide +kernel
theorem dX8_repeats_5 : decode cX8_repeats 5 = .ok (.istore_n 2, 1) := by decide +kernel
theorem dX8_repeats_6 : decode cX8_repeats 6 = .ok (.iconst 0, 1) := by decide +kernel
theorem dX8_repeats_7 : decode cX8_repeats 7 = .ok (.istore_n 3, 1) := by decide +kernel
theorem dX8_repeats_8 : decode cX8_repeats 8 = .ok (.iload_n 3, 1) := by decide +kernel
theorem dX8_repeats_9 : decode cX8_repeats 9 = .ok (.ifCond .ne 19, 3) := by decide +kernel
theorem dX8_repeats_12 : decode cX8_repeats 12 = .ok (.aload_n 0, 1) := by decide +kernel
theorem dX8_repeats_13 : decode cX8_repeats 13 = .ok (.iload_n 1, 1) := by decide +kernel
theorem dX8_repeats_14 : decode cX8_repeats 14 = .ok (.invokevirtual 82, 3) := by decide +kernel
theorem dX8_repeats_17 : decode cX8_repeats 17 = .ok (.iinc 2 1, 3) := by decide +kernel
theorem dX8_repeats_20 : decode cX8_repeats 20 = .ok (.aload_n 0, 1) := by decide +kernel
theorem dX8_repeats_21 : decode cX8_repeats 21 = .ok (.invokevirtual 85, 3) := by decide +kernel
theorem dX8_repeats_24 : decode cX8_repeats 24 = .ok (.istore_n 3, 1) := by decide +kernel
theorem dX8_repeats_25 : decode cX8_repeats 25 = .ok (.goto (-17), 3) := by decide +kernel
theorem dX8_repeats_28 : decode cX8_repeats 28 = .ok (.iload_n 2, 1) := by decide +kernel
theorem dX8_repeats_29 : decode cX8_repeats 29 = .ok (.ireturn, 1) := by decide +kernel
theorem dX8_homeNow_0 : decode cX8_homeNow 0 = .ok (.iconst 0, 1) := by decide +kernel
theorem dX8_homeNow_1 : decode cX8_homeNow 1 = .ok (.istore_n 1, 1) := by decide +kernel
theorem dX8_homeNow_2 : decode cX8_homeNow 2 = .ok (.iconst 0, 1) := by decide +kernel
theorem dX8_homeNow_3 : decode cX8_homeNow 3 = .ok (.istore_n 2, 1) := by decide +kernel
theorem dX8_homeNow_4 : decode cX8_homeNow 4 = .ok (.iload_n 2, 1) := by decide +kernel
theorem dX8_homeNow_5 : decode cX8_homeNow 5 = .ok (.bipush 12, 2) := by decide +kernel
theorem dX8_homeNow_7 : decode cX8_homeNow 7 = .ok (.if_icmp .ge 27, 3) := by decide +kernel
theorem dX8_homeNow_10 : decode cX8_homeNow 10 = .ok (.iload_n 1, 1) := by decide +kernel
theorem dX8_homeNow_11 : decode cX8_homeNow 11 = .ok (.aload_n 0, 1) := by decide +kernel
theorem dX8_homeNow_12 : decode cX8_homeNow 12 = .ok (.getfield 31, 3) := by decide +kernel
theorem dX8_homeNow_15 : decode cX8_homeNow 15 = .ok (.iload_n 2, 1) := by decide +kernel
theorem dX8_homeNow_16 : decode cX8_homeNow 16 = .ok (.iaload, 1) := by decide +kernel
theorem dX8_homeNow_17 : decode cX8_homeNow 17 = .ok (.iload_n 2, 1) := by decide +kernel
theorem dX8_homeNow_18 : decode cX8_homeNow 18 = .ok (.if_icmp .ne 7, 3) := by decide +kernel
theorem dX8_homeNow_21 : decode cX8_homeNow 21 = .ok (.iconst 1, 1) := by decide +kernel
theorem dX8_homeNow_22 : decode cX8_homeNow 22 = .ok (.goto 4, 3) := by decide +kernel
theorem dX8_homeNow_25 : decode cX8_homeNow 25 = .ok (.iconst 0, 1) := by decide +kernel
theorem dX8_homeNow_26 : decode cX8_homeNow 26 = .ok (.iadd, 1) := by decide +kernel
theorem dX8_homeNow_27 : decode cX8_homeNow 27 = .ok (.istore_n 1, 1) := by decide +kernel
theorem dX8_homeNow_28 : decode cX8_homeNow 28 = .ok (.iinc 2 1, 3) := by decide +kernel
