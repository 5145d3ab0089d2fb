theorem dX5_addMaker_1 : decode cX5_addMaker 1 = .ok (.getfield 15, 3) := by decide +kernel
theorem dX5_addMaker_4 : decode cX5_addMaker 4 = .ok (.bipush 6, 2) := by decide +kernel
theorem dX5_addMaker_6 : decode cX5_addMaker 6 = .ok (.invokestatic 28, 3) := by decide +kernel
theorem dX5_addMaker_9 : decode cX5_addMaker 9 = .ok (.ifCond .ne 4, 3) := by decide +kernel
theorem dX5_addMaker_12 : decode cX5_addMaker 12 = .ok (.return_, 1) := by decide +kernel
theorem dX5_addMaker_13 : decode cX5_addMaker 13 = .ok (.aload_n 0, 1) := by decide +kernel
theorem dX5_addMaker_14 : decode cX5_addMaker 14 = .ok (.getfield 9, 3) := by decide +kernel
theorem dX5_addMaker_17 : decode cX5_addMaker 17 = .ok (.aload_n 0, 1) := by decide +kernel
theorem dX5_addMaker_18 : decode cX5_addMaker 18 = .ok (.getfield 15, 3) := by decide +kernel
theorem dX5_addMaker_21 : decode cX5_addMaker 21 = .ok (.lload_n 1, 1) := by decide +kernel
theorem dX5_addMaker_22 : decode cX5_addMaker 22 = .ok (.lastore, 1) := by decide +kernel
theorem dX5_addMaker_23 : decode cX5_addMaker 23 = .ok (.aload_n 0, 1) := by decide +kernel
theorem dX5_addMaker_24 : decode cX5_addMaker 24 = .ok (.dup, 1) := by decide +kernel
theorem dX5_addMaker_25 : decode cX5_addMaker 25 = .ok (.getfield 15, 3) := by decide +kernel
theorem dX5_addMaker_28 : decode cX5_addMaker 28 = .ok (.iconst 1, 1) := by decide +kernel
theorem dX5_addMaker_29 : decode cX5_addMaker 29 = .ok (.iadd, 1) := by decide +kernel
theorem dX5_addMaker_30 : decode cX5_addMaker 30 = .ok (.putfield 15, 3) := by decide +kernel
theorem dX5_addMaker_33 : decode cX5_addMaker 33 = .ok (.return_, 1) := by decide +kernel
set_option maxRecDepth 20000 in
theorem ggX5_placesFrom_X5_broughtTo : GoodIn wsX5_placesFrom wsX5_broughtTo := goodIn_r _ [6, 7, 8, 9, 10, 11, 12, 13] (by decide +kernel) (by decide +kernel)
set_option maxRecDepth 20000 in
theorem gX5_placesFrom_X5_broughtTo : GoodIn wsX5_placesFrom (va_wsS RX5 32 yX5_broughtTo wsX5_broughtTo) := goodIn_app (goodIn_of _ (by decide +kernel)) ggX5_placesFrom_X5_broughtTo
theorem dX5_placesFrom_0 : decode cX5_placesFrom 0 = .ok (.iconst 1, 1) := by decide +kernel
theorem dX5_placesFrom_1 : decode cX5_placesFrom 1 = .ok (.iload_n 1, 1) := by decide +kernel
theorem dX5_placesFrom_2 : decode cX5_placesFrom 2 = .ok (.ishl, 1) := by decide +kernel
theorem dX5_placesFrom_3 : decode cX5_placesFrom 3 = .ok (.istore_n 2, 1) := by decide +kernel
theorem dX5_placesFrom_4 : decode cX5_placesFrom 4 = .ok (.iconst 0, 1) := by decide +kernel
theorem dX5_placesFrom_5 : decode cX5_placesFrom 5 = .ok (.istore_n 3, 1) := by decide +kernel
theorem dX5_placesFrom_6 : decode cX5_placesFrom 6 = .ok (.iload_n 3, 1) := by decide +kernel
theorem dX5_placesFrom_7 : decode cX5_placesFrom 7 = .ok (.bipush 12, 2) := by decide +kernel
theorem dX5_placesFrom_9 : decode cX5_placesFrom 9 = .ok (.if_icmp .ge 48, 3) := by decide +kernel
theorem dX5_placesFrom_12 : decode cX5_placesFrom 12 = .ok (.iconst 0, 1) := by decide +kernel
theorem dX5_placesFrom_13 : decode cX5_placesFrom 13 = .ok (.istore 4, 2) := by decide +kernel
theorem dX5_placesFrom_15 : decode cX5_placesFrom 15 = .ok (.iload 4, 2) := by decide +kernel
theorem dX5_placesFrom_17 : decode cX5_placesFrom 17 = .ok (.aload_n 0, 1) := by decide +kernel
theorem dX5_placesFrom_18 : decode cX5_placesFrom 18 = .ok (.getfield 15, 3) := by decide +kernel
theorem dX5_placesFrom_21 : decode cX5_placesFrom 21 = .ok (.if_icmp .ge 30, 3) := by decide +kernel
theorem dX5_placesFrom_24 : decode cX5_placesFrom 24 = .ok (.iload 4, 2) := by decide +kernel
theorem dX5_placesFrom_26 : decode cX5_placesFrom 26 = .ok (.bipush 6, 2) := by decide +kernel
theorem dX5_placesFrom_28 : decode cX5_placesFrom 28 = .ok (.if_icmp .ge 23, 3) := by decide +kernel
theorem dX5_placesFrom_31 : decode cX5_placesFrom 31 = .ok (.iload_n 2, 1) := by decide +kernel
theorem dX5_placesFrom_32 : decode cX5_placesFrom 32 = .ok (.aload_n 0, 1) := by decide +kernel
theorem dX5_placesFrom_33 : decode cX5_placesFrom 33 = .ok (.getfield 9, 3) := by decide +kernel
theorem dX5_placesFrom_36 : decode cX5_placesFrom 36 = .ok (.iload 4, 2) := by decide +kernel
theorem dX5_placesFrom_38 : decode cX5_placesFrom 38 = .ok (.laload, 1) := by decide +kernel
theorem dX5_placesFrom_39 : decode cX5_placesFrom 39 = .ok (.iload_n 2, 1) := by decide +kernel
theorem dX5_placesFrom_40 : decode cX5_placesFrom 40 = .ok (.invokestatic 32, 3) := by decide +kernel
theorem dX5_placesFrom_43 : decode cX5_placesFrom 43 = .ok (.ior, 1) := by decide +kernel
theorem dX5_placesFrom_44 : decode cX5_placesFrom 44 = .ok (.istore_n 2, 1) := by decide +kernel
theorem dX5_placesFrom_45 : decode cX5_placesFrom 45 = .ok (.iinc 4 1, 3) := by decide +kernel
theorem dX5_placesFrom_48 : decode cX5_placesFrom 48 = .ok (.goto (-33), 3) := by decide +kernel
theorem dX5_placesFrom_51 : decode cX5_placesFrom 51 = .ok (.iinc 3 1, 3) := by decide +kernel
theorem dX5_placesFrom_54 : decode cX5_placesFrom 54 = .ok (.goto (-48), 3) := by decide +kernel
theorem dX5_placesFrom_57 : decode cX5_placesFrom 57 = .ok (.iload_n 2, 1) := by decide +kernel
theorem dX5_placesFrom_58 : decode cX5_placesFrom 58 = .ok (.ireturn, 1) := by decide +kernel
set_option maxRecDepth 20000 in
theorem ggX5_broughtTo_X7_hasBit : GoodIn wsX5_broughtTo wsX7_hasBit := goodIn_r _ [3] (by decide +kernel) (by decide +kernel)
set_option maxRecDepth 20000 in
theorem gX5_broughtTo_X7_hasBit_n50 : GoodIn wsX5_broughtTo (wsX7_hasBit) := ggX5_broughtTo_X7_hasBit
set_option maxRecDepth 20000 in
theorem ggX5_broughtTo_X4_at : GoodIn wsX5_broughtTo wsX4_at := goodIn_r _ [7] (by decide +kernel) (by decide +kernel)
set_option maxRecDepth 20000 in
theorem gX5_broughtTo_X4_at : GoodIn wsX5_broughtTo (va_wsS RX5 53 yX4_at wsX4_at) := goodIn_app (goodIn_of _ (by decide +kernel)) ggX5_broughtTo_X4_at
theorem dX5_broughtTo_0 : decode cX5_broughtTo 0 = .ok (.iconst 0, 1) := by decide +kernel
theorem dX5_broughtTo_1 : decode cX5_broughtTo 1 = .ok (.istore_n 3, 1) := by decide +kernel
theorem dX5_broughtTo_2 : decode cX5_broughtTo 2 = .ok (.iconst 0, 1) := by decide +kernel
theorem dX5_broughtTo_3 : decode cX5_broughtTo 3 = .ok (.istore 4, 2) := by decide +kernel
theorem dX5_broughtTo_5 : decode cX5_broughtTo 5 = .ok (.iload 4, 2) := by decide +kernel
theorem dX5_broughtTo_7 : decode cX5_broughtTo 7 = .ok (.bipush 12, 2) := by decide +kernel
theorem dX5_broughtTo_9 : decode cX5_broughtTo 9 = .ok (.if_icmp .ge 29, 3) := by decide +kernel
theorem dX5_broughtTo_12 : decode cX5_broughtTo 12 = .ok (.iload_n 2, 1) := by decide +kernel
theorem dX5_broughtTo_13 : decode cX5_broughtTo 13 = .ok (.iload 4, 2) := by decide +kernel
theorem dX5_broughtTo_15 : decode cX5_broughtTo 15 = .ok (.invokestatic 50, 3) := by decide +kernel
theorem dX5_broughtTo_18 : decode cX5_broughtTo 18 = .ok (.ifCond .eq 14, 3) := by decide +kernel
theorem dX5_broughtTo_21 : decode cX5_broughtTo 21 = .ok (.iload_n 3, 1) := by decide +kernel
theorem dX5_broughtTo_22 : decode cX5_broughtTo 22 = .ok (.iconst 1, 1) := by decide +kernel
theorem dX5_broughtTo_23 : decode cX5_broughtTo 23 = .ok (.lload_n 0, 1) := by decide +kernel
theorem dX5_broughtTo_24 : decode cX5_broughtTo 24 = .ok (.iload 4, 2) := by decide +kernel
theorem dX5_broughtTo_26 : decode cX5_broughtTo 26 = .ok (.invokestatic 53, 3) := by decide +kernel
theorem dX5_broughtTo_29 : decode cX5_broughtTo 29 = .ok (.ishl, 1) := by decide +kernel
theorem dX5_broughtTo_30 : decode cX5_broughtTo 30 = .ok (.ior, 1) := by decide +kernel
theorem dX5_broughtTo_31 : decode cX5_broughtTo 31 = .ok (.istore_n 3, 1) := by decide +kernel
theorem dX5_broughtTo_32 : decode cX5_broughtTo 32 = .ok (.iinc 4 1, 3) := by decide +kernel
theorem dX5_broughtTo_35 : decode cX5_broughtTo 35 = .ok (.goto (-30), 3) := by decide +kernel
theorem dX5_broughtTo_38 : decode cX5_broughtTo 38 = .ok (.iload_n 3, 1) := by decide +kernel
theorem dX5_broughtTo_39 : decode cX5_broughtTo 39 = .ok (.ireturn, 1) := by decide +kernel
set_option maxRecDepth 20000 in
theorem ggX6_then_X4_at : GoodIn wsX6_then wsX4_at := goodIn_r _ [4] (by decide +kernel) (by decide +kernel)
set_option maxRecDepth 20000 in
theorem gX6_then_X4_at : GoodIn wsX6_then (va_wsS RX6 9 yX4_at wsX4_at) := goodIn_app (goodIn_of _ (by decide +kernel)) ggX6_then_X4_at
theorem dX6_then_0 : decode cX6_then 0 = .ok (.lconst 0, 1) := by decide +kernel
theorem dX6_then_1 : decode cX6_then 1 = .ok (.lstore 4, 2) := by decide +kernel
theorem dX6_then_3 : decode cX6_then 3 = .ok (.iconst 0, 1) := by decide +kernel
theorem dX6_then_4 : decode cX6_then 4 = .ok (.istore 6, 2) := by decide +kernel
theorem dX6_then_6 : decode cX6_then 6 = .ok (.iload 6, 2) := by decide +kernel
theorem dX6_then_8 : decode cX6_then 8 = .ok (.bipush 12, 2) := by decide +kernel
theorem dX6_then_10 : decode cX6_then 10 = .ok (.if_icmp .ge 30, 3) := by decide +kernel
theorem dX6_then_13 : decode cX6_then 13 = .ok (.lload 4, 2) := by decide +kernel
theorem dX6_then_15 : decode cX6_then 15 = .ok (.lload_n 2, 1) := by decide +kernel
theorem dX6_then_16 : decode cX6_then 16 = .ok (.lload_n 0, 1) := by decide +kernel
theorem dX6_then_17 : decode cX6_then 17 = .ok (.iload 6, 2) := by decide +kernel
theorem dX6_then_19 : decode cX6_then 19 = .ok (.invokestatic 9, 3) := by decide +kernel
theorem dX6_then_22 : decode cX6_then 22 = .ok (.invokestatic 9, 3) := by decide +kernel
theorem dX6_then_25 : decode cX6_then 25 = .ok (.i2l, 1) := by decide +kernel
theorem dX6_then_26 : decode cX6_then 26 = .ok (.iconst 4, 1) := by decide +kernel
theorem dX6_then_27 : decode cX6_then 27 = .ok (.iload 6, 2) := by decide +kernel
theorem dX6_then_29 : decode cX6_then 29 = .ok (.imul, 1) := by decide +kernel
theorem dX6_then_30 : decode cX6_then 30 = .ok (.lshl, 1) := by decide +kernel
theorem dX6_then_31 : decode cX6_then 31 = .ok (.lor, 1) := by decide +kernel
theorem dX6_then_32 : decode cX6_then 32 = .ok (.lstore 4, 2) := by decide +kernel
theorem dX6_then_34 : decode cX6_then 34 = .ok (.iinc 6 1, 3) := by decide +kernel
theorem dX6_then_37 : decode cX6_then 37 = .ok (.goto (-31), 3) := by decide +kernel
theorem dX6_then_40 : decode cX6_then 40 = .ok (.lload 4, 2) := by decide +kernel
theorem dX6_then_42 : decode cX6_then 42 = .ok (.lreturn, 1) := by decide +kernel
set_option maxRecDepth 20000 in
theorem ggX6_round_X7_hasBit : GoodIn wsX6_round wsX7_hasBit := goodIn_r _ [4] (by decide +kernel) (by decide +kernel)
set_option maxRecDepth 20000 in
theorem gX6_round_X7_hasBit_n17 : GoodIn wsX6_round (wsX7_hasBit) := ggX6_round_X7_hasBit
set_option maxRecDepth 20000 in
theorem ggX6_round_X4_with : GoodIn wsX6_round wsX4_with := goodIn_r _ [8, 9, 10] (by decide +kernel) (by decide +kernel)
set_option maxRecDepth 20000 in
theorem gX6_round_X4_with : GoodIn wsX6_round (va_wsS RX6 21 yX4_with wsX4_with) := goodIn_app (goodIn_of _ (by decide +kernel)) ggX6_round_X4_with
theorem dX6_round_0 : decode cX6_round 0 = .ok (.ldc2_w 15, 3) := by decide +kernel
theorem dX6_round_3 : decode cX6_round 3 = .ok (.lstore_n 1, 1) := by decide +kernel
theorem dX6_round_4 : decode cX6_round 4 = .ok (.iconst (-1), 1) := by decide +kernel
theorem dX6_round_5 : decode cX6_round 5 = .ok (.istore_n 3, 1) := by decide +kernel
theorem dX6_round_6 : decode cX6_round 6 = .ok (.iconst (-1), 1) := by decide +kernel
theorem dX6_round_7 : decode cX6_round 7 = .ok (.istore 4, 2) := by decide +kernel
theorem dX6_round_9 : decode cX6_round 9 = .ok (.iconst 0, 1) := by decide +kernel
theorem dX6_round_10 : decode cX6_round 10 = .ok (.istore 5, 2) := by decide +kernel
theorem dX6_round_12 : decode cX6_round 12 = .ok (.iload 5, 2) := by decide +kernel
theorem dX6_round_14 : decode cX6_round 14 = .ok (.bipush 12, 2) := by decide +kernel
theorem dX6_round_16 : decode cX6_round 16 = .ok (.if_icmp .ge 44, 3) := by decide +kernel
theorem dX6_round_19 : decode cX6_round 19 = .ok (.iload_n 0, 1) := by decide +kernel
theorem dX6_round_20 : decode cX6_round 20 = .ok (.iload 5, 2) := by decide +kernel
theorem dX6_round_22 : decode cX6_round 22 = .ok (.invokestatic 17, 3) := by decide +kernel
theorem dX6_round_25 : decode cX6_round 25 = .ok (.ifCond .ne 6, 3) := by decide +kernel
theorem dX6_round_28 : decode cX6_round 28 = .ok (.goto 26, 3) := by decide +kernel
theorem dX6_round_31 : decode cX6_round 31 = .ok (.iload_n 3, 1) := by decide +kernel
theorem dX6_round_32 : decode cX6_round 32 = .ok (.ifCond .ge 9, 3) := by decide +kernel
theorem dX6_round_35 : decode cX6_round 35 = .ok (.iload 5, 2) := by decide +kernel
theorem dX6_round_37 : decode cX6_round 37 = .ok (.istore_n 3, 1) := by decide +kernel
theorem dX6_round_38 : decode cX6_round 38 = .ok (.goto 12, 3) := by decide +kernel
theorem dX6_round_41 : decode cX6_round 41 = .ok (.lload_n 1, 1) := by decide +kernel
theorem dX6_round_42 : decode cX6_round 42 = .ok (.iload 4, 2) := by decide +kernel
theorem dX6_round_44 : decode cX6_round 44 = .ok (.iload 5, 2) := by decide +kernel
theorem dX6_round_46 : decode cX6_round 46 = .ok (.invokestatic 21, 3) := by decide +kernel
theorem dX6_round_49 : decode cX6_round 49 = .ok (.lstore_n 1, 1) := by decide +kernel
theorem dX6_round_50 : decode cX6_round 50 = .ok (.iload 5, 2) := by decide +kernel
theorem dX6_round_52 : decode cX6_round 52 = .ok (.istore 4, 2) := by decide +kernel
theorem dX6_round_54 : decode cX6_round 54 = .ok (.iinc 5 1, 3) := by decide +kernel
theorem dX6_round_57 : decode cX6_round 57 = .ok (.goto (-45), 3) := by decide +kernel
theorem dX6_round_60 : decode cX6_round 60 = .ok (.iload_n 3, 1) := by decide +kernel
theorem dX6_round_61 : decode cX6_round 61 = .ok (.ifCond .ge 7, 3) := by decide +kernel
theorem dX6_round_64 : decode cX6_round 64 = .ok (.lload_n 1, 1) := by decide +kernel
theorem dX6_round_65 : decode cX6_round 65 = .ok (.goto 10, 3) := by decide +kernel
theorem dX6_round_68 : decode cX6_round 68 = .ok (.lload_n 1, 1) := by decide +kernel
theorem dX6_round_69 : decode cX6_round 69 = .ok (.iload 4, 2) := by decide +kernel
theorem dX6_round_71 : decode cX6_round 71 = .ok (.iload_n 3, 1) := by decide +kernel
theorem dX6_round_72 : decode cX6_round 72 = .ok (.invokestatic 21, 3) := by decide +kernel
theorem dX6_round_75 : decode cX6_round 75 = .ok (.lreturn, 1) := by decide +kernel
set_option maxRecDepth 20000 in
theorem ggX6_back_X4_moved : GoodIn wsX6_back wsX4_moved := goodIn_r _ [5, 6, 7, 4, 8] (by decide +kernel) (by decide +kernel)
set_option maxRecDepth 20000 in
theorem gX6_back_X4_moved : GoodIn wsX6_back (va_wsS RX6 25 yX4_moved wsX4_moved) := goodIn_app (goodIn_of _ (by decide +kernel)) ggX6_back_X4_moved
theorem dX6_back_0 : decode cX6_back 0 = .ok (.ldc2_w 15, 3) := by decide +kernel
theorem dX6_back_3 : decode cX6_back 3 = .ok (.lload_n 0, 1) := by decide +kernel
theorem dX6_back_4 : decode cX6_back 4 = .ok (.invokestatic 25, 3) := by decide +kernel
theorem dX6_back_7 : decode cX6_back 7 = .ok (.lreturn, 1) := by decide +kernel
set_option maxRecDepth 20000 in
theorem ggX6_power_X6_then : GoodIn wsX6_power wsX6_then := goodIn_r _ [5, 6, 7, 8, 9] (by decide +kernel) (by decide +kernel)
set_option maxRecDepth 20000 in
theorem gX6_power_X6_then : GoodIn wsX6_power (va_wsS RX6 29 yX6_then wsX6_then) := goodIn_app (goodIn_of _ (by decide +kernel)) ggX6_power_X6_then
theorem dX6_power_0 : decode cX6_power 0 = .ok (.ldc2_w 15, 3) := by decide +kernel
theorem dX6_power_3 : decode cX6_power 3 = .ok (.lstore_n 3, 1) := by decide +kernel
theorem dX6_power_4 : decode cX6_power 4 = .ok (.lload_n 0, 1) := by decide +kernel
theorem dX6_power_5 : decode cX6_power 5 = .ok (.lstore 5, 2) := by decide +kernel
theorem dX6_power_7 : decode cX6_power 7 = .ok (.iload_n 2, 1) := by decide +kernel
theorem dX6_power_8 : decode cX6_power 8 = .ok (.istore 7, 2) := by decide +kernel
theorem dX6_power_10 : decode cX6_power 10 = .ok (.iload 7, 2) := by decide +kernel
theorem dX6_power_12 : decode cX6_power 12 = .ok (.ifCond .le 36, 3) := by decide +kernel
theorem dX6_power_15 : decode cX6_power 15 = .ok (.iload 7, 2) := by decide +kernel
theorem dX6_power_17 : decode cX6_power 17 = .ok (.iconst 1, 1) := by decide +kernel
theorem dX6_power_18 : decode cX6_power 18 = .ok (.iand, 1) := by decide +kernel
theorem dX6_power_19 : decode cX6_power 19 = .ok (.iconst 1, 1) := by decide +kernel
theorem dX6_power_20 : decode cX6_power 20 = .ok (.if_icmp .ne 10, 3) := by decide +kernel
theorem dX6_power_23 : decode cX6_power 23 = .ok (.lload_n 3, 1) := by decide +kernel
theorem dX6_power_24 : decode cX6_power 24 = .ok (.lload 5, 2) := by decide +kernel
theorem dX6_power_26 : decode cX6_power 26 = .ok (.invokestatic 29, 3) := by decide +kernel
theorem dX6_power_29 : decode cX6_power 29 = .ok (.lstore_n 3, 1) := by decide +kernel
theorem dX6_power_30 : decode cX6_power 30 = .ok (.lload 5, 2) := by decide +kernel
theorem dX6_power_32 : decode cX6_power 32 = .ok (.lload 5, 2) := by decide +kernel
theorem dX6_power_34 : decode cX6_power 34 = .ok (.invokestatic 29, 3) := by decide +kernel
theorem dX6_power_37 : decode cX6_power 37 = .ok (.lstore 5, 2) := by decide +kernel
theorem dX6_power_39 : decode cX6_power 39 = .ok (.iload 7, 2) := by decide +kernel
theorem dX6_power_41 : decode cX6_power 41 = .ok (.iconst 1, 1) := by decide +kernel
theorem dX6_power_42 : decode cX6_power 42 = .ok (.ishr, 1) := by decide +kernel
theorem dX6_power_43 : decode cX6_power 43 = .ok (.istore 7, 2) := by decide +kernel
theorem dX6_power_45 : decode cX6_power 45 = .ok (.goto (-35), 3) := by decide +kernel
theorem dX6_power_48 : decode cX6_power 48 = .ok (.lload_n 3, 1) := by decide +kernel
theorem dX6_power_49 : decode cX6_power 49 = .ok (.lreturn, 1) := by decide +kernel
set_option maxRecDepth 20000 in
theorem ggX6_alikePlaces_X4_at : GoodIn wsX6_alikePlaces wsX4_at := goodIn_r _ [4] (by decide +kernel) (by decide +kernel)
set_option maxRecDepth 20000 in
theorem gX6_alikePlaces_X4_at : GoodIn wsX6_alikePlaces (va_wsS RX6 9 yX4_at wsX4_at) := goodIn_app (goodIn_of _ (by decide +kernel)) ggX6_alikePlaces_X4_at
theorem dX6_alikePlaces_0 : decode cX6_alikePlaces 0 = .ok (.iconst 0, 1) := by decide +kernel
theorem dX6_alikePlaces_1 : decode cX6_alikePlaces 1 = .ok (.istore 4, 2) := by decide +kernel
theorem dX6_alikePlaces_3 : decode cX6_alikePlaces 3 = .ok (.iconst 0, 1) := by decide +kernel
theorem dX6_alikePlaces_4 : decode cX6_alikePlaces 4 = .ok (.istore 5, 2) := by decide +kernel
theorem dX6_alikePlaces_6 : decode cX6_alikePlaces 6 = .ok (.iload 5, 2) := by decide +kernel
theorem dX6_alikePlaces_8 : decode cX6_alikePlaces 8 = .ok (.bipush 12, 2) := by decide +kernel
theorem dX6_alikePlaces_10 : decode cX6_alikePlaces 10 = .ok (.if_icmp .ge 33, 3) := by decide +kernel
theorem dX6_alikePlaces_13 : decode cX6_alikePlaces 13 = .ok (.lload_n 0, 1) := by decide +kernel
theorem dX6_alikePlaces_14 : decode cX6_alikePlaces 14 = .ok (.iload 5, 2) := by decide +kernel
theorem dX6_alikePlaces_16 : decode cX6_alikePlaces 16 = .ok (.invokestatic 9, 3) := by decide +kernel
theorem dX6_alikePlaces_19 : decode cX6_alikePlaces 19 = .ok (.lload_n 2, 1) := by decide +kernel
theorem dX6_alikePlaces_20 : decode cX6_alikePlaces 20 = .ok (.iload 5, 2) := by decide +kernel
theorem dX6_alikePlaces_22 : decode cX6_alikePlaces 22 = .ok (.invokestatic 9, 3) := by decide +kernel
theorem dX6_alikePlaces_25 : decode cX6_alikePlaces 25 = .ok (.if_icmp .ne 12, 3) := by decide +kernel
theorem dX6_alikePlaces_28 : decode cX6_alikePlaces 28 = .ok (.iload 4, 2) := by decide +kernel
theorem dX6_alikePlaces_30 : decode cX6_alikePlaces 30 = .ok (.iconst 1, 1) := by decide +kernel
theorem dX6_alikePlaces_31 : decode cX6_alikePlaces 31 = .ok (.iload 5, 2) := by decide +kernel
theorem dX6_alikePlaces_33 : decode cX6_alikePlaces 33 = .ok (.ishl, 1) := by decide +kernel
theorem dX6_alikePlaces_34 : decode cX6_alikePlaces 34 = .ok (.ior, 1) := by decide +kernel
theorem dX6_alikePlaces_35 : decode cX6_alikePlaces 35 = .ok (.istore 4, 2) := by decide +kernel
theorem dX6_alikePlaces_37 : decode cX6_alikePlaces 37 = .ok (.iinc 5 1, 3) := by decide +kernel
theorem dX6_alikePlaces_40 : decode cX6_alikePlaces 40 = .ok (.goto (-34), 3) := by decide +kernel
theorem dX6_alikePlaces_43 : decode cX6_alikePlaces 43 = .ok (.iload 4, 2) := by decide +kernel
theorem dX6_alikePlaces_45 : decode cX6_alikePlaces 45 = .ok (.ireturn, 1) := by decide +kernel
set_option maxRecDepth 20000 in
theorem ggX6_staying_X6_alikePlaces : GoodIn wsX6_staying wsX6_alikePlaces := goodIn_r _ [5, 6, 7, 8, 9] (by decide +kernel) (by decide +kernel)
set_option maxRecDepth 20000 in
theorem gX6_staying_X6_alikePlaces : GoodIn wsX6_staying (va_wsS RX6 34 yX6_alikePlaces wsX6_alikePlaces) := goodIn_app (goodIn_of _ (by decide +kernel)) ggX6_staying_X6_alikePlaces
set_option maxRecDepth 20000 in
theorem ggX6_staying_J6_bitCount_0f7a4 : GoodIn wsX6_staying wsJ6_bitCount_0f7a4 := goodIn_r _ [13, 14, 15, 16] (by decide +kernel) (by decide +kernel)
set_option maxRecDepth 20000 in
theorem gX6_staying_J6_bitCount_0f7a4 : GoodIn wsX6_staying (va_wsS RX6 38 yJ6_bitCount_0f7a4 wsJ6_bitCount_0f7a4) := goodIn_app (goodIn_of _ (by decide +kernel)) ggX6_staying_J6_bitCount_0f7a4
theorem dX6_staying_0 : decode cX6_staying 0 = .ok (.lload_n 0, 1) := by decide +kernel
theorem dX6_staying_1 : decode cX6_staying 1 = .ok (.ldc2_w 15, 3) := by decide +kernel
theorem dX6_staying_4 : decode cX6_staying 4 = .ok (.invokestatic 34, 3) := by decide +kernel
theorem dX6_staying_7 : decode cX6_staying 7 = .ok (.invokestatic 38, 3) := by decide +kernel
theorem dX6_staying_10 : decode cX6_staying 10 = .ok (.ireturn, 1) := by decide +kernel
set_option maxRecDepth 20000 in
theorem ggX6_timesUntilAgain_X4_moved : GoodIn wsX6_timesUntilAgain wsX4_moved := goodIn_r _ [4, 5, 6, 3, 7] (by decide +kernel) (by decide +kernel)
set_option maxRecDepth 20000 in
theorem gX6_timesUntilAgain_X4_moved : GoodIn wsX6_timesUntilAgain (va_wsS RX6 25 yX4_moved wsX4_moved) := goodIn_app (goodIn_of _ (by decide +kernel)) ggX6_timesUntilAgain_X4_moved
theorem dX6_timesUntilAgain_0 : decode cX6_timesUntilAgain 0 = .ok (.lload_n 2, 1) := by decide +kernel
theorem dX6_timesUntilAgain_1 : decode cX6_timesUntilAgain 1 = .ok (.lload_n 0, 1) := by decide +kernel
theorem dX6_timesUntilAgain_2 : decode cX6_timesUntilAgain 2 = .ok (.invokestatic 25, 3) := by decide +kernel
theorem dX6_timesUntilAgain_5 : decode cX6_timesUntilAgain 5 = .ok (.lstore 4, 2) := by decide +kernel
theorem dX6_timesUntilAgain_7 : decode cX6_timesUntilAgain 7 = .ok (.iconst 1, 1) := by decide +kernel
theorem dX6_timesUntilAgain_8 : decode cX6_timesUntilAgain 8 = .ok (.istore 6, 2) := by decide +kernel
theorem dX6_timesUntilAgain_10 : decode cX6_timesUntilAgain 10 = .ok (.lload 4, 2) := by decide +kernel
theorem dX6_timesUntilAgain_12 : decode cX6_timesUntilAgain 12 = .ok (.lload_n 2, 1) := by decide +kernel
theorem dX6_timesUntilAgain_13 : decode cX6_timesUntilAgain 13 = .ok (.lcmp, 1) := by decide +kernel
theorem dX6_timesUntilAgain_14 : decode cX6_timesUntilAgain 14 = .ok (.ifCond .eq 24, 3) := by decide +kernel
theorem dX6_timesUntilAgain_17 : decode cX6_timesUntilAgain 17 = .ok (.iload 6, 2) := by decide +kernel
theorem dX6_timesUntilAgain_19 : decode cX6_timesUntilAgain 19 = .ok (.bipush 60, 2) := by decide +kernel
theorem dX6_timesUntilAgain_21 : decode cX6_timesUntilAgain 21 = .ok (.if_icmp .ge 17, 3) := by decide +kernel
theorem dX6_timesUntilAgain_24 : decode cX6_timesUntilAgain 24 = .ok (.lload 4, 2) := by decide +kernel
theorem dX6_timesUntilAgain_26 : decode cX6_timesUntilAgain 26 = .ok (.lload_n 0, 1) := by decide +kernel
theorem dX6_timesUntilAgain_27 : decode cX6_timesUntilAgain 27 = .ok (.invokestatic 25, 3) := by decide +kernel
theorem dX6_timesUntilAgain_30 : decode cX6_timesUntilAgain 30 = .ok (.lstore 4, 2) := by decide +kernel
theorem dX6_timesUntilAgain_32 : decode cX6_timesUntilAgain 32 = .ok (.iinc 6 1, 3) := by decide +kernel
theorem dX6_timesUntilAgain_35 : decode cX6_timesUntilAgain 35 = .ok (.goto (-25), 3) := by decide +kernel
theorem dX6_timesUntilAgain_38 : decode cX6_timesUntilAgain 38 = .ok (.iload 6, 2) := by decide +kernel
theorem dX6_timesUntilAgain_40 : decode cX6_timesUntilAgain 40 = .ok (.ireturn, 1) := by decide +kernel
set_option maxRecDepth 20000 in
theorem ggX6_cycleOf_X4_at : GoodIn wsX6_cycleOf wsX4_at := goodIn_r _ [4] (by decide +kernel) (by decide +kernel)
set_option maxRecDepth 20000 in
theorem gX6_cycleOf_X4_at : GoodIn wsX6_cycleOf (va_wsS RX6 9 yX4_at wsX4_at) := goodIn_app (goodIn_of _ (by decide +kernel)) ggX6_cycleOf_X4_at
theorem dX6_cycleOf_0 : decode cX6_cycleOf 0 = .ok (.iconst 1, 1) := by decide +kernel
theorem dX6_cycleOf_1 : decode cX6_cycleOf 1 = .ok (.iload_n 2, 1) := by decide +kernel
theorem dX6_cycleOf_2 : decode cX6_cycleOf 2 = .ok (.ishl, 1) := by decide +kernel
theorem dX6_cycleOf_3 : decode cX6_cycleOf 3 = .ok (.istore_n 3, 1) := by decide +kernel
theorem dX6_cycleOf_4 : decode cX6_cycleOf 4 = .ok (.lload_n 0, 1) := by decide +kernel
theorem dX6_cycleOf_5 : decode cX6_cycleOf 5 = .ok (.iload_n 2, 1) := by decide +kernel
theorem dX6_cycleOf_6 : decode cX6_cycleOf 6 = .ok (.invokestatic 9, 3) := by decide +kernel
theorem dX6_cycleOf_9 : decode cX6_cycleOf 9 = .ok (.istore 4, 2) := by decide +kernel
theorem dX6_cycleOf_11 : decode cX6_cycleOf 11 = .ok (.iconst 1, 1) := by decide +kernel
theorem dX6_cycleOf_12 : decode cX6_cycleOf 12 = .ok (.istore 5, 2) := by decide +kernel
theorem dX6_cycleOf_14 : decode cX6_cycleOf 14 = .ok (.iload 5, 2) := by decide +kernel
theorem dX6_cycleOf_16 : decode cX6_cycleOf 16 = .ok (.bipush 12, 2) := by decide +kernel
theorem dX6_cycleOf_18 : decode cX6_cycleOf 18 = .ok (.if_icmp .ge 30, 3) := by decide +kernel
theorem dX6_cycleOf_21 : decode cX6_cycleOf 21 = .ok (.iload 4, 2) := by decide +kernel
theorem dX6_cycleOf_23 : decode cX6_cycleOf 23 = .ok (.iload_n 2, 1) := by decide +kernel
theorem dX6_cycleOf_24 : decode cX6_cycleOf 24 = .ok (.if_icmp .eq 24, 3) := by decide +kernel
theorem dX6_cycleOf_27 : decode cX6_cycleOf 27 = .ok (.iload_n 3, 1) := by decide +kernel
theorem dX6_cycleOf_28 : decode cX6_cycleOf 28 = .ok (.iconst 1, 1) := by decide +kernel
theorem dX6_cycleOf_29 : decode cX6_cycleOf 29 = .ok (.iload 4, 2) := by decide +kernel
theorem dX6_cycleOf_31 : decode cX6_cycleOf 31 = .ok (.ishl, 1) := by decide +kernel
theorem dX6_cycleOf_32 : decode cX6_cycleOf 32 = .ok (.ior, 1) := by decide +kernel
theorem dX6_cycleOf_33 : decode cX6_cycleOf 33 = .ok (.istore_n 3, 1) := by decide +kernel
theorem dX6_cycleOf_34 : decode cX6_cycleOf 34 = .ok (.lload_n 0, 1) := by decide +kernel
theorem dX6_cycleOf_35 : decode cX6_cycleOf 35 = .ok (.iload 4, 2) := by decide +kernel
theorem dX6_cycleOf_37 : decode cX6_cycleOf 37 = .ok (.invokestatic 9, 3) := by decide +kernel
theorem dX6_cycleOf_40 : decode cX6_cycleOf 40 = .ok (.istore 4, 2) := by decide +kernel
theorem dX6_cycleOf_42 : decode cX6_cycleOf 42 = .ok (.iinc 5 1, 3) := by decide +kernel
theorem dX6_cycleOf_45 : decode cX6_cycleOf 45 = .ok (.goto (-31), 3) := by decide +kernel
theorem dX6_cycleOf_48 : decode cX6_cycleOf 48 = .ok (.iload_n 3, 1) := by decide +kernel
theorem dX6_cycleOf_49 : decode cX6_cycleOf 49 = .ok (.ireturn, 1) := by decide +kernel
set_option maxRecDepth 20000 in
theorem ggX6_cycles_X6_cycleOf : GoodIn wsX6_cycles wsX6_cycleOf := goodIn_r _ [4, 5, 6, 7, 8] (by decide +kernel) (by decide +kernel)
set_option maxRecDepth 20000 in
theorem gX6_cycles_X6_cycleOf : GoodIn wsX6_cycles (va_wsS RX6 44 yX6_cycleOf wsX6_cycleOf) := goodIn_app (goodIn_of _ (by decide +kernel)) ggX6_cycles_X6_cycleOf
theorem dX6_cycles_0 : decode cX6_cycles 0 = .ok (.iconst 0, 1) := by decide +kernel
theorem dX6_cycles_1 : decode cX6_cycles 1 = .ok (.istore_n 2, 1) := by decide +kernel
theorem dX6_cycles_2 : decode cX6_cycles 2 = .ok (.iconst 0, 1) := by decide +kernel
theorem dX6_cycles_3 : decode cX6_cycles 3 = .ok (.istore_n 3, 1) := by decide +kernel
theorem dX6_cycles_4 : decode cX6_cycles 4 = .ok (.iload_n 3, 1) := by decide +kernel
theorem dX6_cycles_5 : decode cX6_cycles 5 = .ok (.bipush 12, 2) := by decide +kernel
theorem dX6_cycles_7 : decode cX6_cycles 7 = .ok (.if_icmp .ge 50, 3) := by decide +kernel
theorem dX6_cycles_10 : decode cX6_cycles 10 = .ok (.lload_n 0, 1) := by decide +kernel
theorem dX6_cycles_11 : decode cX6_cycles 11 = .ok (.iload_n 3, 1) := by decide +kernel
theorem dX6_cycles_12 : decode cX6_cycles 12 = .ok (.invokestatic 44, 3) := by decide +kernel
theorem dX6_cycles_15 : decode cX6_cycles 15 = .ok (.istore 4, 2) := by decide +kernel
theorem dX6_cycles_17 : decode cX6_cycles 17 = .ok (.iload 4, 2) := by decide +kernel
theorem dX6_cycles_19 : decode cX6_cycles 19 = .ok (.iconst 1, 1) := by decide +kernel
theorem dX6_cycles_20 : decode cX6_cycles 20 = .ok (.iload_n 3, 1) := by decide +kernel
theorem dX6_cycles_21 : decode cX6_cycles 21 = .ok (.ishl, 1) := by decide +kernel
theorem dX6_cycles_22 : decode cX6_cycles 22 = .ok (.iconst 1, 1) := by decide +kernel
theorem dX6_cycles_23 : decode cX6_cycles 23 = .ok (.isub, 1) := by decide +kernel
theorem dX6_cycles_24 : decode cX6_cycles 24 = .ok (.iand, 1) := by decide +kernel
theorem dX6_cycles_25 : decode cX6_cycles 25 = .ok (.ifCond .ne 7, 3) := by decide +kernel
theorem dX6_cycles_28 : decode cX6_cycles 28 = .ok (.iconst 1, 1) := by decide +kernel
theorem dX6_cycles_29 : decode cX6_cycles 29 = .ok (.goto 4, 3) := by decide +kernel
theorem dX6_cycles_32 : decode cX6_cycles 32 = .ok (.iconst 0, 1) := by decide +kernel
theorem dX6_cycles_33 : decode cX6_cycles 33 = .ok (.istore 5, 2) := by decide +kernel
theorem dX6_cycles_35 : decode cX6_cycles 35 = .ok (.iload 5, 2) := by decide +kernel
theorem dX6_cycles_37 : decode cX6_cycles 37 = .ok (.ifCond .eq 14, 3) := by decide +kernel
theorem dX6_cycles_40 : decode cX6_cycles 40 = .ok (.iload 4, 2) := by decide +kernel
theorem dX6_cycles_42 : decode cX6_cycles 42 = .ok (.iconst 1, 1) := by decide +kernel
theorem dX6_cycles_43 : decode cX6_cycles 43 = .ok (.iload_n 3, 1) := by decide +kernel
theorem dX6_cycles_44 : decode cX6_cycles 44 = .ok (.ishl, 1) := by decide +kernel
theorem dX6_cycles_45 : decode cX6_cycles 45 = .ok (.if_icmp .eq 6, 3) := by decide +kernel
theorem dX6_cycles_48 : decode cX6_cycles 48 = .ok (.iinc 2 1, 3) := by decide +kernel
theorem dX6_cycles_51 : decode cX6_cycles 51 = .ok (.iinc 3 1, 3) := by decide +kernel
theorem dX6_cycles_54 : decode cX6_cycles 54 = .ok (.goto (-50), 3) := by decide +kernel
theorem dX6_cycles_57 : decode cX6_cycles 57 = .ok (.iload_n 2, 1) := by decide +kernel
theorem dX6_cycles_58 : decode cX6_cycles 58 = .ok (.ireturn, 1) := by decide +kernel
set_option maxRecDepth 20000 in
theorem ggX6_longestCycle_X6_cycleOf : GoodIn wsX6_longestCycle wsX6_cycleOf := goodIn_r _ [4, 5, 6, 7, 8] (by decide +kernel) (by decide +kernel)
set_option maxRecDepth 20000 in
theorem gX6_longestCycle_X6_cycleOf : GoodIn wsX6_longestCycle (va_wsS RX6 44 yX6_cycleOf wsX6_cycleOf) := goodIn_app (goodIn_of _ (by decide +kernel)) ggX6_longestCycle_X6_cycleOf
set_option maxRecDepth 20000 in
theorem ggX6_longestCycle_J6_bitCount_0f7a4 : GoodIn wsX6_longestCycle wsJ6_bitCount_0f7a4 := goodIn_r _ [12, 13, 14, 15] (by decide +kernel) (by decide +kernel)
set_option maxRecDepth 20000 in
theorem gX6_longestCycle_J6_bitCount_0f7a4 : GoodIn wsX6_longestCycle (va_wsS RX6 38 yJ6_bitCount_0f7a4 wsJ6_bitCount_0f7a4) := goodIn_app (goodIn_of _ (by decide +kernel)) ggX6_longestCycle_J6_bitCount_0f7a4
theorem dX6_longestCycle_0 : decode cX6_longestCycle 0 = .ok (.iconst 0, 1) := by decide +kernel
theorem dX6_longestCycle_1 : decode cX6_longestCycle 1 = .ok (.istore_n 2, 1) := by decide +kernel
theorem dX6_longestCycle_2 : decode cX6_longestCycle 2 = .ok (.iconst 0, 1) := by decide +kernel
theorem dX6_longestCycle_3 : decode cX6_longestCycle 3 = .ok (.istore_n 3, 1) := by decide +kernel
theorem dX6_longestCycle_4 : decode cX6_longestCycle 4 = .ok (.iload_n 3, 1) := by decide +kernel
theorem dX6_longestCycle_5 : decode cX6_longestCycle 5 = .ok (.bipush 12, 2) := by decide +kernel
theorem dX6_longestCycle_7 : decode cX6_longestCycle 7 = .ok (.if_icmp .ge 34, 3) := by decide +kernel
theorem dX6_longestCycle_10 : decode cX6_longestCycle 10 = .ok (.lload_n 0, 1) := by decide +kernel
theorem dX6_longestCycle_11 : decode cX6_longestCycle 11 = .ok (.iload_n 3, 1) := by decide +kernel
theorem dX6_longestCycle_12 : decode cX6_longestCycle 12 = .ok (.invokestatic 44, 3) := by decide +kernel
theorem dX6_longestCycle_15 : decode cX6_longestCycle 15 = .ok (.invokestatic 38, 3) := by decide +kernel
theorem dX6_longestCycle_18 : decode cX6_longestCycle 18 = .ok (.istore 4, 2) := by decide +kernel
theorem dX6_longestCycle_20 : decode cX6_longestCycle 20 = .ok (.iload 4, 2) := by decide +kernel
theorem dX6_longestCycle_22 : decode cX6_longestCycle 22 = .ok (.iconst 1, 1) := by decide +kernel
theorem dX6_longestCycle_23 : decode cX6_longestCycle 23 = .ok (.if_icmp .le 12, 3) := by decide +kernel
theorem dX6_longestCycle_26 : decode cX6_longestCycle 26 = .ok (.iload 4, 2) := by decide +kernel
theorem dX6_longestCycle_28 : decode cX6_longestCycle 28 = .ok (.iload_n 2, 1) := by decide +kernel
theorem dX6_longestCycle_29 : decode cX6_longestCycle 29 = .ok (.if_icmp .le 6, 3) := by decide +kernel
theorem dX6_longestCycle_32 : decode cX6_longestCycle 32 = .ok (.iload 4, 2) := by decide +kernel
theorem dX6_longestCycle_34 : decode cX6_longestCycle 34 = .ok (.istore_n 2, 1) := by decide +kernel
theorem dX6_longestCycle_35 : decode cX6_longestCycle 35 = .ok (.iinc 3 1, 3) := by decide +kernel
theorem dX6_longestCycle_38 : decode cX6_longestCycle 38 = .ok (.goto (-34), 3) := by decide +kernel
theorem dX6_longestCycle_41 : decode cX6_longestCycle 41 = .ok (.iload_n 2, 1) := by decide +kernel
theorem dX6_longestCycle_42 : decode cX6_longestCycle 42 = .ok (.ireturn, 1) := by decide +kernel
set_option maxRecDepth 20000 in
theorem ggX6_crossings_X4_at : GoodIn wsX6_crossings wsX4_at := goodIn_r _ [4] (by decide +kernel) (by decide +kernel)
set_option maxRecDepth 20000 in
theorem gX6_crossings_X4_at : GoodIn wsX6_crossings (va_wsS RX6 9 yX4_at wsX4_at) := goodIn_app (goodIn_of _ (by decide +kernel)) ggX6_crossings_X4_at
theorem dX6_crossings_0 : decode cX6_crossings 0 = .ok (.iconst 0, 1) := by decide +kernel
theorem dX6_crossings_1 : decode cX6_crossings 1 = .ok (.istore_n 2, 1) := by decide +kernel
theorem dX6_crossings_2 : decode cX6_crossings 2 = .ok (.iconst 0, 1) := by decide +kernel
theorem dX6_crossings_3 : decode cX6_crossings 3 = .ok (.istore_n 3, 1) := by decide +kernel
theorem dX6_crossings_4 : decode cX6_crossings 4 = .ok (.iload_n 3, 1) := by decide +kernel
theorem dX6_crossings_5 : decode cX6_crossings 5 = .ok (.bipush 12, 2) := by decide +kernel
theorem dX6_crossings_7 : decode cX6_crossings 7 = .ok (.if_icmp .ge 44, 3) := by decide +kernel
theorem dX6_crossings_10 : decode cX6_crossings 10 = .ok (.iload_n 3, 1) := by decide +kernel
theorem dX6_crossings_11 : decode cX6_crossings 11 = .ok (.iconst 1, 1) := by decide +kernel
theorem dX6_crossings_12 : decode cX6_crossings 12 = .ok (.iadd, 1) := by decide +kernel
theorem dX6_crossings_13 : decode cX6_crossings 13 = .ok (.istore 4, 2) := by decide +kernel
theorem dX6_crossings_15 : decode cX6_crossings 15 = .ok (.iload 4, 2) := by decide +kernel
theorem dX6_crossings_17 : decode cX6_crossings 17 = .ok (.bipush 12, 2) := by decide +kernel
theorem dX6_crossings_19 : decode cX6_crossings 19 = .ok (.if_icmp .ge 26, 3) := by decide +kernel
theorem dX6_crossings_22 : decode cX6_crossings 22 = .ok (.lload_n 0, 1) := by decide +kernel
theorem dX6_crossings_23 : decode cX6_crossings 23 = .ok (.iload_n 3, 1) := by decide +kernel
theorem dX6_crossings_24 : decode cX6_crossings 24 = .ok (.invokestatic 9, 3) := by decide +kernel
theorem dX6_crossings_27 : decode cX6_crossings 27 = .ok (.lload_n 0, 1) := by decide +kernel
theorem dX6_crossings_28 : decode cX6_crossings 28 = .ok (.iload 4, 2) := by decide +kernel
theorem dX6_crossings_30 : decode cX6_crossings 30 = .ok (.invokestatic 9, 3) := by decide +kernel
theorem dX6_crossings_33 : decode cX6_crossings 33 = .ok (.if_icmp .le 6, 3) := by decide +kernel
theorem dX6_crossings_36 : decode cX6_crossings 36 = .ok (.iinc 2 1, 3) := by decide +kernel
theorem dX6_crossings_39 : decode cX6_crossings 39 = .ok (.iinc 4 1, 3) := by decide +kernel
theorem dX6_crossings_42 : decode cX6_crossings 42 = .ok (.goto (-27), 3) := by decide +kernel
theorem dX6_crossings_45 : decode cX6_crossings 45 = .ok (.iinc 3 1, 3) := by decide +kernel
theorem dX6_crossings_48 : decode cX6_crossings 48 = .ok (.goto (-44), 3) := by decide +kernel
theorem dX6_crossings_51 : decode cX6_crossings 51 = .ok (.iload_n 2, 1) := by decide +kernel
theorem dX6_crossings_52 : decode cX6_crossings 52 = .ok (.ireturn, 1) := by decide +kernel
set_option maxRecDepth 20000 in
theorem ggX7_init_X1_init : GoodIn wsX7_init wsX1_init := goodIn_r _ [27, 28, 2, 3, 29, 30, 31, 32, 33, 34, 35, 36, 37, 38, 39, 22, 23, 40, 41, 42, 43, 44, 66, 67, 68, 69, 70, 71, 72, 88, 89] (by decide +kernel) (by decide +kernel)
set_option maxRecDepth 20000 in
theorem gX7_init_X1_init : GoodIn wsX7_init (wsX1_init) := ggX7_init_X1_init
set_option maxRecDepth 20000 in
theorem ggX7_init_X3_init : GoodIn wsX7_init wsX3_init := goodIn_r _ [46, 47, 2, 3, 48, 49, 50, 79, 80] (by decide +kernel) (by decide +kernel)
set_option maxRecDepth 20000 in
theorem gX7_init_X3_init_n18 : GoodIn wsX7_init (wsX3_init) := ggX7_init_X3_init
set_option maxRecDepth 20000 in
theorem ggX7_init_X2_init : GoodIn wsX7_init wsX2_init := goodIn_r _ [52, 53, 2, 3, 54, 55, 56, 81, 82] (by decide +kernel) (by decide +kernel)
set_option maxRecDepth 20000 in
theorem gX7_init_X2_init_n29 : GoodIn wsX7_init (wsX2_init) := ggX7_init_X2_init
set_option maxRecDepth 20000 in
theorem ggX7_init_X5_init : GoodIn wsX7_init wsX5_init := goodIn_r _ [58, 59, 2, 3, 60, 61, 62, 63, 64, 65, 83, 84, 85, 86, 87] (by decide +kernel) (by decide +kernel)
set_option maxRecDepth 20000 in
theorem gX7_init_X5_init_n36 : GoodIn wsX7_init (wsX5_init) := ggX7_init_X5_init
set_option maxRecDepth 20000 in
theorem ggX7_init_X0_init : GoodIn wsX7_init wsX0_init := goodIn_r _ [41, 42, 2, 3, 34, 43, 44, 88, 89] (by decide +kernel) (by decide +kernel)
set_option maxRecDepth 20000 in
theorem gX7_init_X0_init_n43 : GoodIn wsX7_init (wsX0_init) := ggX7_init_X0_init
theorem dX7_init_0 : decode cX7_init 0 = .ok (.aload_n 0, 1) := by decide +kernel
theorem dX7_init_1 : decode cX7_init 1 = .ok (.invokespecial 1, 3) := by decide +kernel
theorem dX7_init_4 : decode cX7_init 4 = .ok (.aload_n 0, 1) := by decide +kernel
theorem dX7_init_5 : decode cX7_init 5 = .ok (.new 7, 3) := by decide +kernel
theorem dX7_init_8 : decode cX7_init 8 = .ok (.dup, 1) := by decide +kernel
theorem dX7_init_9 : decode cX7_init 9 = .ok (.invokespecial 9, 3) := by decide +kernel
theorem dX7_init_12 : decode cX7_init 12 = .ok (.putfield 10, 3) := by decide +kernel
theorem dX7_init_15 : decode cX7_init 15 = .ok (.aload_n 0, 1) := by decide +kernel
theorem dX7_init_16 : decode cX7_init 16 = .ok (.new 16, 3) := by decide +kernel
theorem dX7_init_19 : decode cX7_init 19 = .ok (.dup, 1) := by decide +kernel
theorem dX7_init_20 : decode cX7_init 20 = .ok (.invokespecial 18, 3) := by decide +kernel
theorem dX7_init_23 : decode cX7_init 23 = .ok (.putfield 19, 3) := by decide +kernel
theorem dX7_init_26 : decode cX7_init 26 = .ok (.aload_n 0, 1) := by decide +kernel
theorem dX7_init_27 : decode cX7_init 27 = .ok (.iconst 2, 1) := by decide +kernel
theorem dX7_init_28 : decode cX7_init 28 = .ok (.anewarray 7, 3) := by decide +kernel
theorem dX7_init_31 : decode cX7_init 31 = .ok (.putfield 23, 3) := by decide +kernel
theorem dX7_init_34 : decode cX7_init 34 = .ok (.aload_n 0, 1) := by decide +kernel
theorem dX7_init_35 : decode cX7_init 35 = .ok (.new 27, 3) := by decide +kernel
theorem dX7_init_38 : decode cX7_init 38 = .ok (.dup, 1) := by decide +kernel
theorem dX7_init_39 : decode cX7_init 39 = .ok (.invokespecial 29, 3) := by decide +kernel
theorem dX7_init_42 : decode cX7_init 42 = .ok (.putfield 30, 3) := by decide +kernel
theorem dX7_init_45 : decode cX7_init 45 = .ok (.aload_n 0, 1) := by decide +kernel
theorem dX7_init_46 : decode cX7_init 46 = .ok (.new 34, 3) := by decide +kernel
theorem dX7_init_49 : decode cX7_init 49 = .ok (.dup, 1) := by decide +kernel
theorem dX7_init_50 : decode cX7_init 50 = .ok (.invokespecial 36, 3) := by decide +kernel
theorem dX7_init_53 : decode cX7_init 53 = .ok (.putfield 37, 3) := by decide +kernel
theorem dX7_init_56 : decode cX7_init 56 = .ok (.aload_n 0, 1) := by decide +kernel
theorem dX7_init_57 : decode cX7_init 57 = .ok (.new 41, 3) := by decide +kernel
theorem dX7_init_60 : decode cX7_init 60 = .ok (.dup, 1) := by decide +kernel
theorem dX7_init_61 : decode cX7_init 61 = .ok (.invokespecial 43, 3) := by decide +kernel
theorem dX7_init_64 : decode cX7_init 64 = .ok (.putfield 44, 3) := by decide +kernel
theorem dX7_init_67 : decode cX7_init 67 = .ok (.return_, 1) := by decide +kernel
set_option maxRecDepth 20000 in
theorem ggX7_put_X7_isBelow : GoodIn wsX7_put wsX7_isBelow := goodIn_r _ [7] (by decide +kernel) (by decide +kernel)
set_option maxRecDepth 20000 in
theorem gX7_put_X7_isBelow : GoodIn wsX7_put (va_wsS RX7 48 yX7_isBelow wsX7_isBelow) := goodIn_app (goodIn_of _ (by decide +kernel)) ggX7_put_X7_isBelow
set_option maxRecDepth 20000 in
theorem ggX7_put_X3_keep : GoodIn wsX7_put wsX3_keep := goodIn_r _ [12, 13, 14, 15, 16, 17, 18, 19, 20, 11, 21, 5, 6, 7, 22, 23, 24, 25, 26, 27, 28, 29, 30, 31, 32, 33, 34, 35, 36, 37, 38, 39, 40, 41, 42, 43, 44, 45, 46, 47, 48, 49, 50, 51, 52, 53, 54, 55, 56, 57, 58, 81, 82, 74, 75, 76, 77, 78, 79, 80, 83, 84] (by decide +kernel) (by decide +kernel)
set_option maxRecDepth 20000 in
theorem gX7_put_X3_keep : GoodIn wsX7_put (wsV RX7 52 RX3 yX3_keep wsX3_keep) := goodIn_app (goodIn_of _ (by decide +kernel)) ggX7_put_X3_keep
set_option maxRecDepth 20000 in
theorem ggX7_put_X4_at : GoodIn wsX7_put wsX4_at := goodIn_r _ [62] (by decide +kernel) (by decide +kernel)
set_option maxRecDepth 20000 in
theorem gX7_put_X4_at : GoodIn wsX7_put (va_wsS RX7 60 yX4_at wsX4_at) := goodIn_app (goodIn_of _ (by decide +kernel)) ggX7_put_X4_at
set_option maxRecDepth 20000 in
theorem ggX7_put_X4_with : GoodIn wsX7_put wsX4_with := goodIn_r _ [65, 66, 67] (by decide +kernel) (by decide +kernel)
set_option maxRecDepth 20000 in
theorem gX7_put_X4_with : GoodIn wsX7_put (va_wsS RX7 66 yX4_with wsX4_with) := goodIn_app (goodIn_of _ (by decide +kernel)) ggX7_put_X4_with
theorem dX7_put_0 : decode cX7_put 0 = .ok (.iload_n 1, 1) := by decide +kernel
theorem dX7_put_1 : decode cX7_put 1 = .ok (.bipush 12, 2) := by decide +kernel
theorem dX7_put_3 : decode cX7_put 3 = .ok (.invokestatic 48, 3) := by decide +kernel
theorem dX7_put_6 : decode cX7_put 6 = .ok (.ifCond .eq 12, 3) := by decide +kernel
theorem dX7_put_9 : decode cX7_put 9 = .ok (.iload_n 2, 1) := by decide +kernel
theorem dX7_put_10 : decode cX7_put 10 = .ok (.bipush 6, 2) := by decide +kernel
theorem dX7_put_12 : decode cX7_put 12 = .ok (.invokestatic 48, 3) := by decide +kernel
theorem dX7_put_15 : decode cX7_put 15 = .ok (.ifCond .ne 5, 3) := by decide +kernel
theorem dX7_put_18 : decode cX7_put 18 = .ok (.iconst (-1), 1) := by decide +kernel
theorem dX7_put_19 : decode cX7_put 19 = .ok (.ireturn, 1) := by decide +kernel
theorem dX7_put_20 : decode cX7_put 20 = .ok (.aload_n 0, 1) := by decide +kernel
theorem dX7_put_21 : decode cX7_put 21 = .ok (.getfield 19, 3) := by decide +kernel
theorem dX7_put_24 : decode cX7_put 24 = .ok (.aload_n 0, 1) := by decide +kernel
theorem dX7_put_25 : decode cX7_put 25 = .ok (.getfield 10, 3) := by decide +kernel
theorem dX7_put_28 : decode cX7_put 28 = .ok (.invokevirtual 52, 3) := by decide +kernel
theorem dX7_put_31 : decode cX7_put 31 = .ok (.aload_n 0, 1) := by decide +kernel
theorem dX7_put_32 : decode cX7_put 32 = .ok (.getfield 10, 3) := by decide +kernel
theorem dX7_put_35 : decode cX7_put 35 = .ok (.getfield 56, 3) := by decide +kernel
theorem dX7_put_38 : decode cX7_put 38 = .ok (.iload_n 1, 1) := by decide +kernel
theorem dX7_put_39 : decode cX7_put 39 = .ok (.invokestatic 60, 3) := by decide +kernel
theorem dX7_put_42 : decode cX7_put 42 = .ok (.istore_n 3, 1) := by decide +kernel
theorem dX7_put_43 : decode cX7_put 43 = .ok (.aload_n 0, 1) := by decide +kernel
theorem dX7_put_44 : decode cX7_put 44 = .ok (.getfield 10, 3) := by decide +kernel
theorem dX7_put_47 : decode cX7_put 47 = .ok (.aload_n 0, 1) := by decide +kernel
theorem dX7_put_48 : decode cX7_put 48 = .ok (.getfield 10, 3) := by decide +kernel
theorem dX7_put_51 : decode cX7_put 51 = .ok (.getfield 56, 3) := by decide +kernel
theorem dX7_put_54 : decode cX7_put 54 = .ok (.iload_n 1, 1) := by decide +kernel
theorem dX7_put_55 : decode cX7_put 55 = .ok (.iload_n 2, 1) := by decide +kernel
theorem dX7_put_56 : decode cX7_put 56 = .ok (.invokestatic 66, 3) := by decide +kernel
theorem dX7_put_59 : decode cX7_put 59 = .ok (.putfield 56, 3) := by decide +kernel
theorem dX7_put_62 : decode cX7_put 62 = .ok (.iload_n 3, 1) := by decide +kernel
theorem dX7_put_63 : decode cX7_put 63 = .ok (.ireturn, 1) := by decide +kernel
set_option maxRecDepth 20000 in
theorem ggX7_tie_X7_isBelow : GoodIn wsX7_tie wsX7_isBelow := goodIn_r _ [7] (by decide +kernel) (by decide +kernel)
set_option maxRecDepth 20000 in
theorem gX7_tie_X7_isBelow : GoodIn wsX7_tie (va_wsS RX7 48 yX7_isBelow wsX7_isBelow) := goodIn_app (goodIn_of _ (by decide +kernel)) ggX7_tie_X7_isBelow
set_option maxRecDepth 20000 in
theorem ggX7_tie_X3_keep : GoodIn wsX7_tie wsX3_keep := goodIn_r _ [12, 13, 14, 15, 16, 17, 18, 19, 20, 11, 21, 5, 6, 7, 22, 23, 24, 25, 26, 27, 28, 29, 30, 31, 32, 33, 34, 35, 36, 37, 38, 39, 40, 41, 42, 43, 44, 45, 46, 47, 48, 49, 50, 51, 52, 53, 54, 55, 56, 57, 58, 89, 90, 82, 83, 84, 85, 86, 87, 88, 91, 92] (by decide +kernel) (by decide +kernel)
set_option maxRecDepth 20000 in
theorem gX7_tie_X3_keep : GoodIn wsX7_tie (wsV RX7 52 RX3 yX3_keep wsX3_keep) := goodIn_app (goodIn_of _ (by decide +kernel)) ggX7_tie_X3_keep
set_option maxRecDepth 20000 in
theorem ggX7_tie_X1_raisedBy : GoodIn wsX7_tie wsX1_raisedBy := goodIn_r _ [62, 34, 29, 5, 6, 7, 63, 64, 65, 66, 67, 68, 82, 83, 84, 85, 86, 87, 88] (by decide +kernel) (by decide +kernel)
set_option maxRecDepth 20000 in
theorem gX7_tie_X1_raisedBy : GoodIn wsX7_tie (wsV RX7 74 RX1 yX1_raisedBy wsX1_raisedBy) := goodIn_app (goodIn_of _ (by decide +kernel)) ggX7_tie_X1_raisedBy
set_option maxRecDepth 20000 in
theorem ggX7_tie_J6_bitCount_0f7a4 : GoodIn wsX7_tie wsJ6_bitCount_0f7a4 := goodIn_r _ [72, 73, 74, 75] (by decide +kernel) (by decide +kernel)
set_option maxRecDepth 20000 in
theorem gX7_tie_J6_bitCount_0f7a4 : GoodIn wsX7_tie (va_wsS RX7 78 yJ6_bitCount_0f7a4 wsJ6_bitCount_0f7a4) := goodIn_app (goodIn_of _ (by decide +kernel)) ggX7_tie_J6_bitCount_0f7a4
theorem dX7_tie_0 : decode cX7_tie 0 = .ok (.iload_n 1, 1) := by decide +kernel
theorem dX7_tie_1 : decode cX7_tie 1 = .ok (.bipush 6, 2) := by decide +kernel
theorem dX7_tie_3 : decode cX7_tie 3 = .ok (.invokestatic 48, 3) := by decide +kernel
theorem dX7_tie_6 : decode cX7_tie 6 = .ok (.ifCond .ne 5, 3) := by decide +kernel
theorem dX7_tie_9 : decode cX7_tie 9 = .ok (.iconst (-1), 1) := by decide +kernel
theorem dX7_tie_10 : decode cX7_tie 10 = .ok (.ireturn, 1) := by decide +kernel
theorem dX7_tie_11 : decode cX7_tie 11 = .ok (.iload_n 2, 1) := by decide +kernel
theorem dX7_tie_12 : decode cX7_tie 12 = .ok (.bipush 64, 2) := by decide +kernel
theorem dX7_tie_14 : decode cX7_tie 14 = .ok (.invokestatic 48, 3) := by decide +kernel
theorem dX7_tie_17 : decode cX7_tie 17 = .ok (.ifCond .ne 6, 3) := by decide +kernel
theorem dX7_tie_20 : decode cX7_tie 20 = .ok (.bipush (-2), 2) := by decide +kernel
theorem dX7_tie_22 : decode cX7_tie 22 = .ok (.ireturn, 1) := by decide +kernel
theorem dX7_tie_23 : decode cX7_tie 23 = .ok (.aload_n 0, 1) := by decide +kernel
theorem dX7_tie_24 : decode cX7_tie 24 = .ok (.getfield 19, 3) := by decide +kernel
theorem dX7_tie_27 : decode cX7_tie 27 = .ok (.aload_n 0, 1) := by decide +kernel
theorem dX7_tie_28 : decode cX7_tie 28 = .ok (.getfield 10, 3) := by decide +kernel
theorem dX7_tie_31 : decode cX7_tie 31 = .ok (.invokevirtual 52, 3) := by decide +kernel
theorem dX7_tie_34 : decode cX7_tie 34 = .ok (.aload_n 0, 1) := by decide +kernel
theorem dX7_tie_35 : decode cX7_tie 35 = .ok (.getfield 10, 3) := by decide +kernel
theorem dX7_tie_38 : decode cX7_tie 38 = .ok (.getfield 70, 3) := by decide +kernel
theorem dX7_tie_41 : decode cX7_tie 41 = .ok (.iload_n 1, 1) := by decide +kernel
theorem dX7_tie_42 : decode cX7_tie 42 = .ok (.iload_n 2, 1) := by decide +kernel
theorem dX7_tie_43 : decode cX7_tie 43 = .ok (.iastore, 1) := by decide +kernel
theorem dX7_tie_44 : decode cX7_tie 44 = .ok (.aload_n 0, 1) := by decide +kernel
theorem dX7_tie_45 : decode cX7_tie 45 = .ok (.getfield 10, 3) := by decide +kernel
theorem dX7_tie_48 : decode cX7_tie 48 = .ok (.iload_n 1, 1) := by decide +kernel
theorem dX7_tie_49 : decode cX7_tie 49 = .ok (.invokevirtual 74, 3) := by decide +kernel
theorem dX7_tie_52 : decode cX7_tie 52 = .ok (.invokestatic 78, 3) := by decide +kernel
theorem dX7_tie_55 : decode cX7_tie 55 = .ok (.ireturn, 1) := by decide +kernel
set_option maxRecDepth 20000 in
theorem ggX7_read_X1_draftAt : GoodIn wsX7_read wsX1_draftAt := goodIn_r _ [11, 12, 13, 14, 15, 94, 95, 96, 97, 98, 99, 100] (by decide +kernel) (by decide +kernel)
set_option maxRecDepth 20000 in
theorem gX7_read_X1_draftAt : GoodIn wsX7_read (wsV RX7 83 RX1 yX1_draftAt wsX1_draftAt) := goodIn_app (goodIn_of _ (by decide +kernel)) ggX7_read_X1_draftAt
set_option maxRecDepth 20000 in
theorem ggX7_read_X2_layOut : GoodIn wsX7_read wsX2_layOut := goodIn_r _ [20, 21, 22, 23, 24, 25, 19, 26, 27, 28, 29, 30, 31, 32, 33, 34, 35, 36, 13, 14, 15, 92, 93, 90, 91] (by decide +kernel) (by decide +kernel)
set_option maxRecDepth 20000 in
theorem gX7_read_X2_layOut : GoodIn wsX7_read (wsV RX7 87 RX2 yX2_layOut wsX2_layOut) := goodIn_app (goodIn_of _ (by decide +kernel)) ggX7_read_X2_layOut
set_option maxRecDepth 20000 in
theorem ggX7_read_X3_keep : GoodIn wsX7_read wsX3_keep := goodIn_r _ [41, 42, 43, 44, 45, 10, 46, 47, 48, 40, 49, 13, 14, 15, 50, 51, 52, 53, 54, 55, 56, 57, 58, 59, 60, 61, 62, 63, 12, 64, 65, 66, 33, 67, 68, 69, 36, 35, 70, 71, 72, 73, 74, 75, 76, 77, 78, 79, 80, 81, 82, 101, 102, 94, 95, 96, 97, 98, 99, 100, 92, 93] (by decide +kernel) (by decide +kernel)
set_option maxRecDepth 20000 in
theorem gX7_read_X3_keep : GoodIn wsX7_read (wsV RX7 52 RX3 yX3_keep wsX3_keep) := goodIn_app (goodIn_of _ (by decide +kernel)) ggX7_read_X3_keep
set_option maxRecDepth 20000 in
theorem ggX7_read_X0_copyFrom : GoodIn wsX7_read wsX0_copyFrom := goodIn_r _ [81, 36, 82, 75, 76, 77, 35, 92, 93] (by decide +kernel) (by decide +kernel)
set_option maxRecDepth 20000 in
theorem gX7_read_X0_copyFrom : GoodIn wsX7_read (wsV RX7 91 RX0 yX0_copyFrom wsX0_copyFrom) := goodIn_app (goodIn_of _ (by decide +kernel)) ggX7_read_X0_copyFrom
theorem dX7_read_0 : decode cX7_read 0 = .ok (.aload_n 0, 1) := by decide +kernel
theorem dX7_read_1 : decode cX7_read 1 = .ok (.getfield 10, 3) := by decide +kernel
theorem dX7_read_4 : decode cX7_read 4 = .ok (.iload_n 1, 1) := by decide +kernel
theorem dX7_read_5 : decode cX7_read 5 = .ok (.invokevirtual 83, 3) := by decide +kernel
theorem dX7_read_8 : decode cX7_read 8 = .ok (.astore_n 2, 1) := by decide +kernel
theorem dX7_read_9 : decode cX7_read 9 = .ok (.aload_n 2, 1) := by decide +kernel
theorem dX7_read_10 : decode cX7_read 10 = .ok (.ifnonnull 5, 3) := by decide +kernel
theorem dX7_read_13 : decode cX7_read 13 = .ok (.iconst (-1), 1) := by decide +kernel
theorem dX7_read_14 : decode cX7_read 14 = .ok (.ireturn, 1) := by decide +kernel
theorem dX7_read_15 : decode cX7_read 15 = .ok (.aload_n 0, 1) := by decide +kernel
theorem dX7_read_16 : decode cX7_read 16 = .ok (.getfield 30, 3) := by decide +kernel
theorem dX7_read_19 : decode cX7_read 19 = .ok (.aload_n 0, 1) := by decide +kernel
theorem dX7_read_20 : decode cX7_read 20 = .ok (.getfield 44, 3) := by decide +kernel
theorem dX7_read_23 : decode cX7_read 23 = .ok (.invokevirtual 87, 3) := by decide +kernel
theorem dX7_read_26 : decode cX7_read 26 = .ok (.bipush (-6), 2) := by decide +kernel
theorem dX7_read_28 : decode cX7_read 28 = .ok (.if_icmp .eq 6, 3) := by decide +kernel
theorem dX7_read_31 : decode cX7_read 31 = .ok (.bipush (-3), 2) := by decide +kernel
theorem dX7_read_33 : decode cX7_read 33 = .ok (.ireturn, 1) := by decide +kernel
theorem dX7_read_34 : decode cX7_read 34 = .ok (.aload_n 0, 1) := by decide +kernel
theorem dX7_read_35 : decode cX7_read 35 = .ok (.getfield 19, 3) := by decide +kernel
theorem dX7_read_38 : decode cX7_read 38 = .ok (.aload_n 0, 1) := by decide +kernel
theorem dX7_read_39 : decode cX7_read 39 = .ok (.getfield 10, 3) := by decide +kernel
theorem dX7_read_42 : decode cX7_read 42 = .ok (.invokevirtual 52, 3) := by decide +kernel
theorem dX7_read_45 : decode cX7_read 45 = .ok (.aload_n 2, 1) := by decide +kernel
theorem dX7_read_46 : decode cX7_read 46 = .ok (.aload_n 0, 1) := by decide +kernel
theorem dX7_read_47 : decode cX7_read 47 = .ok (.getfield 44, 3) := by decide +kernel
theorem dX7_read_50 : decode cX7_read 50 = .ok (.invokevirtual 91, 3) := by decide +kernel
theorem dX7_read_53 : decode cX7_read 53 = .ok (.aload_n 0, 1) := by decide +kernel
theorem dX7_read_54 : decode cX7_read 54 = .ok (.getfield 30, 3) := by decide +kernel
theorem dX7_read_57 : decode cX7_read 57 = .ok (.iconst 0, 1) := by decide +kernel
theorem dX7_read_58 : decode cX7_read 58 = .ok (.putfield 95, 3) := by decide +kernel
theorem dX7_read_61 : decode cX7_read 61 = .ok (.aload_n 2, 1) := by decide +kernel
theorem dX7_read_62 : decode cX7_read 62 = .ok (.getfield 99, 3) := by decide +kernel
theorem dX7_read_65 : decode cX7_read 65 = .ok (.ireturn, 1) := by decide +kernel
set_option maxRecDepth 20000 in
theorem ggX7_compose_X1_draftAt : GoodIn wsX7_compose wsX1_draftAt := goodIn_r _ [9, 10, 11, 12, 13, 84, 85, 86, 87, 88, 89, 90] (by decide +kernel) (by decide +kernel)
set_option maxRecDepth 20000 in
theorem gX7_compose_X1_draftAt : GoodIn wsX7_compose (wsV RX7 83 RX1 yX1_draftAt wsX1_draftAt) := goodIn_app (goodIn_of _ (by decide +kernel)) ggX7_compose_X1_draftAt
set_option maxRecDepth 20000 in
theorem ggX7_compose_X3_keep : GoodIn wsX7_compose wsX3_keep := goodIn_r _ [18, 19, 20, 21, 22, 8, 23, 24, 25, 17, 26, 11, 12, 13, 27, 28, 29, 30, 31, 32, 33, 34, 35, 36, 37, 38, 39, 40, 10, 41, 42, 43, 44, 45, 46, 47, 48, 49, 50, 51, 52, 53, 54, 55, 56, 57, 58, 59, 60, 61, 62, 91, 92, 84, 85, 86, 87, 88, 89, 90, 82, 83] (by decide +kernel) (by decide +kernel)
set_option maxRecDepth 20000 in
theorem gX7_compose_X3_keep : GoodIn wsX7_compose (wsV RX7 52 RX3 yX3_keep wsX3_keep) := goodIn_app (goodIn_of _ (by decide +kernel)) ggX7_compose_X3_keep
set_option maxRecDepth 20000 in
theorem ggX7_compose_X0_append : GoodIn wsX7_compose wsX0_append := goodIn_r _ [66, 49, 67, 68, 69, 44, 70, 48, 11, 12, 13, 71, 72, 73, 74, 82, 83] (by decide +kernel) (by decide +kernel)
set_option maxRecDepth 20000 in
theorem gX7_compose_X0_append : GoodIn wsX7_compose (wsV RX7 100 RX0 yX0_append wsX0_append) := goodIn_app (goodIn_of _ (by decide +kernel)) ggX7_compose_X0_append
set_option maxRecDepth 20000 in
theorem ggX7_compose_X0_copyFrom : GoodIn wsX7_compose wsX0_copyFrom := goodIn_r _ [61, 48, 62, 55, 56, 57, 49, 82, 83] (by decide +kernel) (by decide +kernel)
set_option maxRecDepth 20000 in
theorem gX7_compose_X0_copyFrom : GoodIn wsX7_compose (wsV RX7 91 RX0 yX0_copyFrom wsX0_copyFrom) := goodIn_app (goodIn_of _ (by decide +kernel)) ggX7_compose_X0_copyFrom
theorem dX7_compose_0 : decode cX7_compose 0 = .ok (.aload_n 0, 1) := by decide +kernel
theorem dX7_compose_1 : decode cX7_compose 1 = .ok (.getfield 10, 3) := by decide +kernel
theorem dX7_compose_4 : decode cX7_compose 4 = .ok (.iload_n 1, 1) := by decide +kernel
theorem dX7_compose_5 : decode cX7_compose 5 = .ok (.invokevirtual 83, 3) := by decide +kernel
theorem dX7_compose_8 : decode cX7_compose 8 = .ok (.astore 4, 2) := by decide +kernel
theorem dX7_compose_10 : decode cX7_compose 10 = .ok (.aload_n 0, 1) := by decide +kernel
theorem dX7_compose_11 : decode cX7_compose 11 = .ok (.getfield 10, 3) := by decide +kernel
theorem dX7_compose_14 : decode cX7_compose 14 = .ok (.iload_n 2, 1) := by decide +kernel
theorem dX7_compose_15 : decode cX7_compose 15 = .ok (.invokevirtual 83, 3) := by decide +kernel
theorem dX7_compose_18 : decode cX7_compose 18 = .ok (.astore 5, 2) := by decide +kernel
theorem dX7_compose_20 : decode cX7_compose 20 = .ok (.aload_n 0, 1) := by decide +kernel
theorem dX7_compose_21 : decode cX7_compose 21 = .ok (.getfield 10, 3) := by decide +kernel
theorem dX7_compose_24 : decode cX7_compose 24 = .ok (.iload_n 3, 1) := by decide +kernel
theorem dX7_compose_25 : decode cX7_compose 25 = .ok (.invokevirtual 83, 3) := by decide +kernel
theorem dX7_compose_28 : decode cX7_compose 28 = .ok (.astore 6, 2) := by decide +kernel
theorem dX7_compose_30 : decode cX7_compose 30 = .ok (.aload 4, 2) := by decide +kernel
theorem dX7_compose_32 : decode cX7_compose 32 = .ok (.ifnull 13, 3) := by decide +kernel
theorem dX7_compose_35 : decode cX7_compose 35 = .ok (.aload 5, 2) := by decide +kernel
theorem dX7_compose_37 : decode cX7_compose 37 = .ok (.ifnull 8, 3) := by decide +kernel
theorem dX7_compose_40 : decode cX7_compose 40 = .ok (.aload 6, 2) := by decide +kernel
theorem dX7_compose_42 : decode cX7_compose 42 = .ok (.ifnonnull 5, 3) := by decide +kernel
theorem dX7_compose_45 : decode cX7_compose 45 = .ok (.iconst (-1), 1) := by decide +kernel
theorem dX7_compose_46 : decode cX7_compose 46 = .ok (.ireturn, 1) := by decide +kernel
theorem dX7_compose_47 : decode cX7_compose 47 = .ok (.aload 5, 2) := by decide +kernel
theorem dX7_compose_49 : decode cX7_compose 49 = .ok (.getfield 99, 3) := by decide +kernel
theorem dX7_compose_52 : decode cX7_compose 52 = .ok (.aload 6, 2) := by decide +kernel
theorem dX7_compose_54 : decode cX7_compose 54 = .ok (.getfield 99, 3) := by decide +kernel
theorem dX7_compose_57 : decode cX7_compose 57 = .ok (.iadd, 1) := by decide +kernel
theorem dX7_compose_58 : decode cX7_compose 58 = .ok (.bipush 24, 2) := by decide +kernel
theorem dX7_compose_60 : decode cX7_compose 60 = .ok (.if_icmp .le 6, 3) := by decide +kernel
theorem dX7_compose_63 : decode cX7_compose 63 = .ok (.bipush (-4), 2) := by decide +kernel
theorem dX7_compose_65 : decode cX7_compose 65 = .ok (.ireturn, 1) := by decide +kernel
theorem dX7_compose_66 : decode cX7_compose 66 = .ok (.aload_n 0, 1) := by decide +kernel
theorem dX7_compose_67 : decode cX7_compose 67 = .ok (.getfield 19, 3) := by decide +kernel
theorem dX7_compose_70 : decode cX7_compose 70 = .ok (.aload_n 0, 1) := by decide +kernel
theorem dX7_compose_71 : decode cX7_compose 71 = .ok (.getfield 10, 3) := by decide +kernel
theorem dX7_compose_74 : decode cX7_compose 74 = .ok (.invokevirtual 52, 3) := by decide +kernel
theorem dX7_compose_77 : decode cX7_compose 77 = .ok (.aload_n 0, 1) := by decide +kernel
theorem dX7_compose_78 : decode cX7_compose 78 = .ok (.getfield 44, 3) := by decide +kernel
theorem dX7_compose_81 : decode cX7_compose 81 = .ok (.iconst 0, 1) := by decide +kernel
theorem dX7_compose_82 : decode cX7_compose 82 = .ok (.putfield 99, 3) := by decide +kernel
theorem dX7_compose_85 : decode cX7_compose 85 = .ok (.aload_n 0, 1) := by decide +kernel
theorem dX7_compose_86 : decode cX7_compose 86 = .ok (.getfield 44, 3) := by decide +kernel
theorem dX7_compose_89 : decode cX7_compose 89 = .ok (.aload 5, 2) := by decide +kernel
theorem dX7_compose_91 : decode cX7_compose 91 = .ok (.invokevirtual 100, 3) := by decide +kernel
theorem dX7_compose_94 : decode cX7_compose 94 = .ok (.aload_n 0, 1) := by decide +kernel
theorem dX7_compose_95 : decode cX7_compose 95 = .ok (.getfield 44, 3) := by decide +kernel
theorem dX7_compose_98 : decode cX7_compose 98 = .ok (.aload 6, 2) := by decide +kernel
theorem dX7_compose_100 : decode cX7_compose 100 = .ok (.invokevirtual 100, 3) := by decide +kernel
theorem dX7_compose_103 : decode cX7_compose 103 = .ok (.aload 4, 2) := by decide +kernel
theorem dX7_compose_105 : decode cX7_compose 105 = .ok (.aload_n 0, 1) := by decide +kernel
theorem dX7_compose_106 : decode cX7_compose 106 = .ok (.getfield 44, 3) := by decide +kernel
theorem dX7_compose_109 : decode cX7_compose 109 = .ok (.invokevirtual 91, 3) := by decide +kernel
theorem dX7_compose_112 : decode cX7_compose 112 = .ok (.aload 4, 2) := by decide +kernel
theorem dX7_compose_114 : decode cX7_compose 114 = .ok (.getfield 99, 3) := by decide +kernel
theorem dX7_compose_117 : decode cX7_compose 117 = .ok (.ireturn, 1) := by decide +kernel
set_option maxRecDepth 20000 in
theorem ggX7_turnRound_X1_draftAt : GoodIn wsX7_turnRound wsX1_draftAt := goodIn_r _ [9, 10, 11, 12, 13, 84, 85, 86, 87, 88, 89, 90] (by decide +kernel) (by decide +kernel)
set_option maxRecDepth 20000 in
theorem gX7_turnRound_X1_draftAt : GoodIn wsX7_turnRound (wsV RX7 83 RX1 yX1_draftAt wsX1_draftAt) := goodIn_app (goodIn_of _ (by decide +kernel)) ggX7_turnRound_X1_draftAt
set_option maxRecDepth 20000 in
theorem ggX7_turnRound_X3_keep : GoodIn wsX7_turnRound wsX3_keep := goodIn_r _ [18, 19, 20, 21, 22, 8, 23, 24, 25, 17, 26, 11, 12, 13, 27, 28, 29, 30, 31, 32, 33, 34, 35, 36, 37, 38, 39, 40, 10, 41, 42, 43, 44, 45, 46, 47, 48, 49, 50, 51, 52, 53, 54, 55, 56, 57, 58, 59, 60, 61, 62, 91, 92, 84, 85, 86, 87, 88, 89, 90, 82, 83] (by decide +kernel) (by decide +kernel)
set_option maxRecDepth 20000 in
theorem gX7_turnRound_X3_keep : GoodIn wsX7_turnRound (wsV RX7 52 RX3 yX3_keep wsX3_keep) := goodIn_app (goodIn_of _ (by decide +kernel)) ggX7_turnRound_X3_keep
set_option maxRecDepth 20000 in
theorem ggX7_turnRound_X0_appendTurned : GoodIn wsX7_turnRound wsX0_appendTurned := goodIn_r _ [66, 49, 67, 68, 69, 44, 70, 48, 11, 12, 13, 71, 72, 73, 74, 82, 83] (by decide +kernel) (by decide +kernel)
set_option maxRecDepth 20000 in
theorem gX7_turnRound_X0_appendTurned : GoodIn wsX7_turnRound (wsV RX7 103 RX0 yX0_appendTurned wsX0_appendTurned) := goodIn_app (goodIn_of _ (by decide +kernel)) ggX7_turnRound_X0_appendTurned
set_option maxRecDepth 20000 in
theorem ggX7_turnRound_X0_copyFrom : GoodIn wsX7_turnRound wsX0_copyFrom := goodIn_r _ [61, 48, 62, 55, 56, 57, 49, 82, 83] (by decide +kernel) (by decide +kernel)
set_option maxRecDepth 20000 in
theorem gX7_turnRound_X0_copyFrom : GoodIn wsX7_turnRound (wsV RX7 91 RX0 yX0_copyFrom wsX0_copyFrom) := goodIn_app (goodIn_of _ (by decide +kernel)) ggX7_turnRound_X0_copyFrom
theorem dX7_turnRound_0 : decode cX7_turnRound 0 = .ok (.aload_n 0, 1) := by decide +kernel
theorem dX7_turnRound_1 : decode cX7_turnRound 1 = .ok (.getfield 10, 3) := by decide +kernel
theorem dX7_turnRound_4 : decode cX7_turnRound 4 = .ok (.iload_n 1, 1) := by decide +kernel
theorem dX7_turnRound_5 : decode cX7_turnRound 5 = .ok (.invokevirtual 83, 3) := by decide +kernel
theorem dX7_turnRound_8 : decode cX7_turnRound 8 = .ok (.astore_n 3, 1) := by decide +kernel
theorem dX7_turnRound_9 : decode cX7_turnRound 9 = .ok (.aload_n 0, 1) := by decide +kernel
theorem dX7_turnRound_10 : decode cX7_turnRound 10 = .ok (.getfield 10, 3) := by decide +kernel
theorem dX7_turnRound_13 : decode cX7_turnRound 13 = .ok (.iload_n 2, 1) := by decide +kernel
theorem dX7_turnRound_14 : decode cX7_turnRound 14 = .ok (.invokevirtual 83, 3) := by decide +kernel
theorem dX7_turnRound_17 : decode cX7_turnRound 17 = .ok (.astore 4, 2) := by decide +kernel
theorem dX7_turnRound_19 : decode cX7_turnRound 19 = .ok (.aload_n 3, 1) := by decide +kernel
theorem dX7_turnRound_20 : decode cX7_turnRound 20 = .ok (.ifnull 8, 3) := by decide +kernel
theorem dX7_turnRound_23 : decode cX7_turnRound 23 = .ok (.aload 4, 2) := by decide +kernel
theorem dX7_turnRound_25 : decode cX7_turnRound 25 = .ok (.ifnonnull 5, 3) := by decide +kernel
theorem dX7_turnRound_28 : decode cX7_turnRound 28 = .ok (.iconst (-1), 1) := by decide +kernel
theorem dX7_turnRound_29 : decode cX7_turnRound 29 = .ok (.ireturn, 1) := by decide +kernel
theorem dX7_turnRound_30 : decode cX7_turnRound 30 = .ok (.aload_n 0, 1) := by decide +kernel
theorem dX7_turnRound_31 : decode cX7_turnRound 31 = .ok (.getfield 19, 3) := by decide +kernel
theorem dX7_turnRound_34 : decode cX7_turnRound 34 = .ok (.aload_n 0, 1) := by decide +kernel
theorem dX7_turnRound_35 : decode cX7_turnRound 35 = .ok (.getfield 10, 3) := by decide +kernel
theorem dX7_turnRound_38 : decode cX7_turnRound 38 = .ok (.invokevirtual 52, 3) := by decide +kernel
theorem dX7_turnRound_41 : decode cX7_turnRound 41 = .ok (.aload_n 0, 1) := by decide +kernel
theorem dX7_turnRound_42 : decode cX7_turnRound 42 = .ok (.getfield 44, 3) := by decide +kernel
theorem dX7_turnRound_45 : decode cX7_turnRound 45 = .ok (.iconst 0, 1) := by decide +kernel
theorem dX7_turnRound_46 : decode cX7_turnRound 46 = .ok (.putfield 99, 3) := by decide +kernel
theorem dX7_turnRound_49 : decode cX7_turnRound 49 = .ok (.aload_n 0, 1) := by decide +kernel
theorem dX7_turnRound_50 : decode cX7_turnRound 50 = .ok (.getfield 44, 3) := by decide +kernel
theorem dX7_turnRound_53 : decode cX7_turnRound 53 = .ok (.aload 4, 2) := by decide +kernel
theorem dX7_turnRound_55 : decode cX7_turnRound 55 = .ok (.invokevirtual 103, 3) := by decide +kernel
theorem dX7_turnRound_58 : decode cX7_turnRound 58 = .ok (.aload_n 3, 1) := by decide +kernel
theorem dX7_turnRound_59 : decode cX7_turnRound 59 = .ok (.aload_n 0, 1) := by decide +kernel
theorem dX7_turnRound_60 : decode cX7_turnRound 60 = .ok (.getfield 44, 3) := by decide +kernel
theorem dX7_turnRound_63 : decode cX7_turnRound 63 = .ok (.invokevirtual 91, 3) := by decide +kernel
theorem dX7_turnRound_66 : decode cX7_turnRound 66 = .ok (.aload_n 3, 1) := by decide +kernel
theorem dX7_turnRound_67 : decode cX7_turnRound 67 = .ok (.getfield 99, 3) := by decide +kernel
theorem dX7_turnRound_70 : decode cX7_turnRound 70 = .ok (.ireturn, 1) := by decide +kernel
set_option maxRecDepth 20000 in
theorem ggX7_repeat_X1_draftAt : GoodIn wsX7_repeat wsX1_draftAt := goodIn_r _ [9, 10, 11, 12, 13, 84, 85, 86, 87, 88, 89, 90] (by decide +kernel) (by decide +kernel)
set_option maxRecDepth 20000 in
theorem gX7_repeat_X1_draftAt : GoodIn wsX7_repeat (wsV RX7 83 RX1 yX1_draftAt wsX1_draftAt) := goodIn_app (goodIn_of _ (by decide +kernel)) ggX7_repeat_X1_draftAt
set_option maxRecDepth 20000 in
theorem ggX7_repeat_X3_keep : GoodIn wsX7_repeat wsX3_keep := goodIn_r _ [18, 19, 20, 21, 22, 8, 23, 24, 25, 17, 26, 11, 12, 13, 27, 28, 29, 30, 31, 32, 33, 34, 35, 36, 37, 38, 39, 40, 10, 41, 42, 43, 44, 45, 46, 47, 48, 49, 50, 51, 52, 53, 54, 55, 56, 57, 58, 59, 60, 61, 62, 91, 92, 84, 85, 86, 87, 88, 89, 90, 82, 83] (by decide +kernel) (by decide +kernel)
set_option maxRecDepth 20000 in
theorem gX7_repeat_X3_keep : GoodIn wsX7_repeat (wsV RX7 52 RX3 yX3_keep wsX3_keep) := goodIn_app (goodIn_of _ (by decide +kernel)) ggX7_repeat_X3_keep
set_option maxRecDepth 20000 in
theorem ggX7_repeat_X0_append : GoodIn wsX7_repeat wsX0_append := goodIn_r _ [66, 49, 67, 68, 69, 44, 70, 48, 11, 12, 13, 71, 72, 73, 74, 82, 83] (by decide +kernel) (by decide +kernel)
set_option maxRecDepth 20000 in
theorem gX7_repeat_X0_append : GoodIn wsX7_repeat (wsV RX7 100 RX0 yX0_append wsX0_append) := goodIn_app (goodIn_of _ (by decide +kernel)) ggX7_repeat_X0_append
set_option maxRecDepth 20000 in
theorem ggX7_repeat_X0_copyFrom : GoodIn wsX7_repeat wsX0_copyFrom := goodIn_r _ [61, 48, 62, 55, 56, 57, 49, 82, 83] (by decide +kernel) (by decide +kernel)
set_option maxRecDepth 20000 in
theorem gX7_repeat_X0_copyFrom : GoodIn wsX7_repeat (wsV RX7 91 RX0 yX0_copyFrom wsX0_copyFrom) := goodIn_app (goodIn_of _ (by decide +kernel)) ggX7_repeat_X0_copyFrom
theorem dX7_repeat_0 : decode cX7_repeat 0 = .ok (.aload_n 0, 1) := by decide +kernel
theorem dX7_repeat_1 : decode cX7_repeat 1 = .ok (.getfield 10, 3) := by decide +kernel
theorem dX7_repeat_4 : decode cX7_repeat 4 = .ok (.iload_n 1, 1) := by decide +kernel
theorem dX7_repeat_5 : decode cX7_repeat 5 = .ok (.invokevirtual 83, 3) := by decide +kernel
theorem dX7_repeat_8 : decode cX7_repeat 8 = .ok (.astore 4, 2) := by decide +kernel
theorem dX7_repeat_10 : decode cX7_repeat 10 = .ok (.aload_n 0, 1) := by decide +kernel
theorem dX7_repeat_11 : decode cX7_repeat 11 = .ok (.getfield 10, 3) := by decide +kernel
theorem dX7_repeat_14 : decode cX7_repeat 14 = .ok (.iload_n 2, 1) := by decide +kernel
theorem dX7_repeat_15 : decode cX7_repeat 15 = .ok (.invokevirtual 83, 3) := by decide +kernel
theorem dX7_repeat_18 : decode cX7_repeat 18 = .ok (.astore 5, 2) := by decide +kernel
theorem dX7_repeat_20 : decode cX7_repeat 20 = .ok (.aload 4, 2) := by decide +kernel
theorem dX7_repeat_22 : decode cX7_repeat 22 = .ok (.ifnull 8, 3) := by decide +kernel
theorem dX7_repeat_25 : decode cX7_repeat 25 = .ok (.aload 5, 2) := by decide +kernel
theorem dX7_repeat_27 : decode cX7_repeat 27 = .ok (.ifnonnull 5, 3) := by decide +kernel
theorem dX7_repeat_30 : decode cX7_repeat 30 = .ok (.iconst (-1), 1) := by decide +kernel
theorem dX7_repeat_31 : decode cX7_repeat 31 = .ok (.ireturn, 1) := by decide +kernel
theorem dX7_repeat_32 : decode cX7_repeat 32 = .ok (.iload_n 3, 1) := by decide +kernel
theorem dX7_repeat_33 : decode cX7_repeat 33 = .ok (.ifCond .lt 9, 3) := by decide +kernel
theorem dX7_repeat_36 : decode cX7_repeat 36 = .ok (.iload_n 3, 1) := by decide +kernel
theorem dX7_repeat_37 : decode cX7_repeat 37 = .ok (.bipush 24, 2) := by decide +kernel
theorem dX7_repeat_39 : decode cX7_repeat 39 = .ok (.if_icmp .le 6, 3) := by decide +kernel
theorem dX7_repeat_42 : decode cX7_repeat 42 = .ok (.bipush (-2), 2) := by decide +kernel
theorem dX7_repeat_44 : decode cX7_repeat 44 = .ok (.ireturn, 1) := by decide +kernel
theorem dX7_repeat_45 : decode cX7_repeat 45 = .ok (.aload 5, 2) := by decide +kernel
theorem dX7_repeat_47 : decode cX7_repeat 47 = .ok (.getfield 99, 3) := by decide +kernel
theorem dX7_repeat_50 : decode cX7_repeat 50 = .ok (.iload_n 3, 1) := by decide +kernel
theorem dX7_repeat_51 : decode cX7_repeat 51 = .ok (.imul, 1) := by decide +kernel
theorem dX7_repeat_52 : decode cX7_repeat 52 = .ok (.bipush 24, 2) := by decide +kernel
theorem dX7_repeat_54 : decode cX7_repeat 54 = .ok (.if_icmp .le 6, 3) := by decide +kernel
theorem dX7_repeat_57 : decode cX7_repeat 57 = .ok (.bipush (-4), 2) := by decide +kernel
theorem dX7_repeat_59 : decode cX7_repeat 59 = .ok (.ireturn, 1) := by decide +kernel
theorem dX7_repeat_60 : decode cX7_repeat 60 = .ok (.aload_n 0, 1) := by decide +kernel
theorem dX7_repeat_61 : decode cX7_repeat 61 = .ok (.getfield 19, 3) := by decide +kernel
theorem dX7_repeat_64 : decode cX7_repeat 64 = .ok (.aload_n 0, 1) := by decide +kernel
theorem dX7_repeat_65 : decode cX7_repeat 65 = .ok (.getfield 10, 3) := by decide +kernel
theorem dX7_repeat_68 : decode cX7_repeat 68 = .ok (.invokevirtual 52, 3) := by decide +kernel
theorem dX7_repeat_71 : decode cX7_repeat 71 = .ok (.aload_n 0, 1) := by decide +kernel
theorem dX7_repeat_72 : decode cX7_repeat 72 = .ok (.getfield 44, 3) := by decide +kernel
theorem dX7_repeat_75 : decode cX7_repeat 75 = .ok (.iconst 0, 1) := by decide +kernel
theorem dX7_repeat_76 : decode cX7_repeat 76 = .ok (.putfield 99, 3) := by decide +kernel
theorem dX7_repeat_79 : decode cX7_repeat 79 = .ok (.iconst 0, 1) := by decide +kernel
theorem dX7_repeat_80 : decode cX7_repeat 80 = .ok (.istore 6, 2) := by decide +kernel
theorem dX7_repeat_82 : decode cX7_repeat 82 = .ok (.iload 6, 2) := by decide +kernel
theorem dX7_repeat_84 : decode cX7_repeat 84 = .ok (.iload_n 3, 1) := by decide +kernel
theorem dX7_repeat_85 : decode cX7_repeat 85 = .ok (.if_icmp .ge 18, 3) := by decide +kernel
theorem dX7_repeat_88 : decode cX7_repeat 88 = .ok (.aload_n 0, 1) := by decide +kernel
theorem dX7_repeat_89 : decode cX7_repeat 89 = .ok (.getfield 44, 3) := by decide +kernel
theorem dX7_repeat_92 : decode cX7_repeat 92 = .ok (.aload 5, 2) := by decide +kernel
theorem dX7_repeat_94 : decode cX7_repeat 94 = .ok (.invokevirtual 100, 3) := by decide +kernel
theorem dX7_repeat_97 : decode cX7_repeat 97 = .ok (.iinc 6 1, 3) := by decide +kernel
theorem dX7_repeat_100 : decode cX7_repeat 100 = .ok (.goto (-18), 3) := by decide +kernel
theorem dX7_repeat_103 : decode cX7_repeat 103 = .ok (.aload 4, 2) := by decide +kernel
theorem dX7_repeat_105 : decode cX7_repeat 105 = .ok (.aload_n 0, 1) := by decide +kernel
theorem dX7_repeat_106 : decode cX7_repeat 106 = .ok (.getfield 44, 3) := by decide +kernel
theorem dX7_repeat_109 : decode cX7_repeat 109 = .ok (.invokevirtual 91, 3) := by decide +kernel
theorem dX7_repeat_112 : decode cX7_repeat 112 = .ok (.aload 4, 2) := by decide +kernel
theorem dX7_repeat_114 : decode cX7_repeat 114 = .ok (.getfield 99, 3) := by decide +kernel
theorem dX7_repeat_117 : decode cX7_repeat 117 = .ok (.ireturn, 1) := by decide +kernel
set_option maxRecDepth 20000 in
theorem ggX7_weave_X1_draftAt : GoodIn wsX7_weave wsX1_draftAt := goodIn_r _ [11, 12, 13, 14, 15, 134, 135, 136, 137, 138, 139, 140] (by decide +kernel) (by decide +kernel)
set_option maxRecDepth 20000 in
theorem gX7_weave_X1_draftAt : GoodIn wsX7_weave (wsV RX7 83 RX1 yX1_draftAt wsX1_draftAt) := goodIn_app (goodIn_of _ (by decide +kernel)) ggX7_weave_X1_draftAt
set_option maxRecDepth 20000 in
theorem ggX7_weave_X3_keep : GoodIn wsX7_weave wsX3_keep := goodIn_r _ [20, 21, 22, 23, 24, 10, 25, 26, 27, 19, 28, 13, 14, 15, 29, 30, 31, 32, 33, 34, 35, 36, 37, 38, 39, 40, 41, 42, 12, 43, 44, 45, 46, 47, 48, 49, 50, 51, 52, 53, 54, 55, 56, 57, 58, 59, 60, 61, 62, 63, 64, 143, 144, 134, 135, 136, 137, 138, 139, 140, 141, 142] (by decide +kernel) (by decide +kernel)
set_option maxRecDepth 20000 in
theorem gX7_weave_X3_keep : GoodIn wsX7_weave (wsV RX7 52 RX3 yX3_keep wsX3_keep) := goodIn_app (goodIn_of _ (by decide +kernel)) ggX7_weave_X3_keep
set_option maxRecDepth 20000 in
theorem ggX7_weave_X1_wayOf : GoodIn wsX7_weave wsX1_wayOf := goodIn_r _ [68, 37, 69, 70, 8, 9, 10, 11, 12, 13, 14, 15, 71, 72, 73, 46, 74, 50, 75, 76, 77, 78, 79, 80, 81, 82, 41, 36, 83, 84, 85, 86, 87, 88, 89, 90, 91, 92, 93, 94, 95, 96, 97, 98, 99, 100, 101, 102, 103, 104, 105, 106, 107, 108, 109, 141, 142, 134, 135, 136, 137, 138, 139, 140] (by decide +kernel) (by decide +kernel)
set_option maxRecDepth 20000 in
theorem gX7_weave_X1_wayOf : GoodIn wsX7_weave (wsV RX7 109 RX1 yX1_wayOf wsX1_wayOf) := goodIn_app (goodIn_of _ (by decide +kernel)) ggX7_weave_X1_wayOf
set_option maxRecDepth 20000 in
theorem ggX7_weave_X6_power : GoodIn wsX7_weave wsX6_power := goodIn_r _ [112, 93, 113, 107, 91, 108, 109, 84, 85, 86] (by decide +kernel) (by decide +kernel)
set_option maxRecDepth 20000 in
theorem gX7_weave_X6_power : GoodIn wsX7_weave (va_wsS RX7 113 yX6_power wsX6_power) := goodIn_app (goodIn_of _ (by decide +kernel)) ggX7_weave_X6_power
set_option maxRecDepth 20000 in
theorem ggX7_weave_X4_moved : GoodIn wsX7_weave wsX4_moved := goodIn_r _ [104, 105, 84, 85, 86] (by decide +kernel) (by decide +kernel)
set_option maxRecDepth 20000 in
theorem gX7_weave_X4_moved : GoodIn wsX7_weave (va_wsS RX7 119 yX4_moved wsX4_moved) := goodIn_app (goodIn_of _ (by decide +kernel)) ggX7_weave_X4_moved
set_option maxRecDepth 20000 in
theorem ggX7_weave_X6_staying : GoodIn wsX7_weave wsX6_staying := goodIn_r _ [117, 93, 118, 119, 91, 120, 109, 84, 85, 86, 121, 122, 123, 124, 125, 126, 127] (by decide +kernel) (by decide +kernel)
set_option maxRecDepth 20000 in
theorem gX7_weave_X6_staying : GoodIn wsX7_weave (va_wsS RX7 129 yX6_staying wsX6_staying) := goodIn_app (goodIn_of _ (by decide +kernel)) ggX7_weave_X6_staying
theorem dX7_weave_0 : decode cX7_weave 0 = .ok (.aload_n 0, 1) := by decide +kernel
theorem dX7_weave_1 : decode cX7_weave 1 = .ok (.getfield 10, 3) := by decide +kernel
theorem dX7_weave_4 : decode cX7_weave 4 = .ok (.iload_n 1, 1) := by decide +kernel
theorem dX7_weave_5 : decode cX7_weave 5 = .ok (.invokevirtual 83, 3) := by decide +kernel
theorem dX7_weave_8 : decode cX7_weave 8 = .ok (.astore_n 3, 1) := by decide +kernel
theorem dX7_weave_9 : decode cX7_weave 9 = .ok (.aload_n 3, 1) := by decide +kernel
theorem dX7_weave_10 : decode cX7_weave 10 = .ok (.ifnonnull 5, 3) := by decide +kernel
theorem dX7_weave_13 : decode cX7_weave 13 = .ok (.iconst (-1), 1) := by decide +kernel
theorem dX7_weave_14 : decode cX7_weave 14 = .ok (.ireturn, 1) := by decide +kernel
theorem dX7_weave_15 : decode cX7_weave 15 = .ok (.iload_n 2, 1) := by decide +kernel
theorem dX7_weave_16 : decode cX7_weave 16 = .ok (.iconst 1, 1) := by decide +kernel
theorem dX7_weave_17 : decode cX7_weave 17 = .ok (.if_icmp .lt 10, 3) := by decide +kernel
theorem dX7_weave_20 : decode cX7_weave 20 = .ok (.iload_n 2, 1) := by decide +kernel
theorem dX7_weave_21 : decode cX7_weave 21 = .ok (.sipush 1000, 3) := by decide +kernel
theorem dX7_weave_24 : decode cX7_weave 24 = .ok (.if_icmp .le 6, 3) := by decide +kernel
theorem dX7_weave_27 : decode cX7_weave 27 = .ok (.bipush (-2), 2) := by decide +kernel
theorem dX7_weave_29 : decode cX7_weave 29 = .ok (.ireturn, 1) := by decide +kernel
theorem dX7_weave_30 : decode cX7_weave 30 = .ok (.aload_n 0, 1) := by decide +kernel
theorem dX7_weave_31 : decode cX7_weave 31 = .ok (.getfield 19, 3) := by decide +kernel
theorem dX7_weave_34 : decode cX7_weave 34 = .ok (.aload_n 0, 1) := by decide +kernel
theorem dX7_weave_35 : decode cX7_weave 35 = .ok (.getfield 10, 3) := by decide +kernel
theorem dX7_weave_38 : decode cX7_weave 38 = .ok (.invokevirtual 52, 3) := by decide +kernel
theorem dX7_weave_41 : decode cX7_weave 41 = .ok (.aload_n 0, 1) := by decide +kernel
theorem dX7_weave_42 : decode cX7_weave 42 = .ok (.getfield 10, 3) := by decide +kernel
theorem dX7_weave_45 : decode cX7_weave 45 = .ok (.aload_n 0, 1) := by decide +kernel
theorem dX7_weave_46 : decode cX7_weave 46 = .ok (.getfield 10, 3) := by decide +kernel
theorem dX7_weave_49 : decode cX7_weave 49 = .ok (.getfield 106, 3) := by decide +kernel
theorem dX7_weave_52 : decode cX7_weave 52 = .ok (.aload_n 0, 1) := by decide +kernel
theorem dX7_weave_53 : decode cX7_weave 53 = .ok (.getfield 10, 3) := by decide +kernel
theorem dX7_weave_56 : decode cX7_weave 56 = .ok (.iload_n 1, 1) := by decide +kernel
theorem dX7_weave_57 : decode cX7_weave 57 = .ok (.invokevirtual 109, 3) := by decide +kernel
theorem dX7_weave_60 : decode cX7_weave 60 = .ok (.iload_n 2, 1) := by decide +kernel
theorem dX7_weave_61 : decode cX7_weave 61 = .ok (.invokestatic 113, 3) := by decide +kernel
theorem dX7_weave_64 : decode cX7_weave 64 = .ok (.invokestatic 119, 3) := by decide +kernel
theorem dX7_weave_67 : decode cX7_weave 67 = .ok (.putfield 106, 3) := by decide +kernel
theorem dX7_weave_70 : decode cX7_weave 70 = .ok (.aload_n 0, 1) := by decide +kernel
theorem dX7_weave_71 : decode cX7_weave 71 = .ok (.getfield 10, 3) := by decide +kernel
theorem dX7_weave_74 : decode cX7_weave 74 = .ok (.dup, 1) := by decide +kernel
theorem dX7_weave_75 : decode cX7_weave 75 = .ok (.getfield 123, 3) := by decide +kernel
theorem dX7_weave_78 : decode cX7_weave 78 = .ok (.aload_n 3, 1) := by decide +kernel
theorem dX7_weave_79 : decode cX7_weave 79 = .ok (.getfield 99, 3) := by decide +kernel
theorem dX7_weave_82 : decode cX7_weave 82 = .ok (.iload_n 2, 1) := by decide +kernel
theorem dX7_weave_83 : decode cX7_weave 83 = .ok (.imul, 1) := by decide +kernel
theorem dX7_weave_84 : decode cX7_weave 84 = .ok (.iadd, 1) := by decide +kernel
theorem dX7_weave_85 : decode cX7_weave 85 = .ok (.putfield 123, 3) := by decide +kernel
theorem dX7_weave_88 : decode cX7_weave 88 = .ok (.aload_n 0, 1) := by decide +kernel
theorem dX7_weave_89 : decode cX7_weave 89 = .ok (.getfield 10, 3) := by decide +kernel
theorem dX7_weave_92 : decode cX7_weave 92 = .ok (.dup, 1) := by decide +kernel
theorem dX7_weave_93 : decode cX7_weave 93 = .ok (.getfield 126, 3) := by decide +kernel
theorem dX7_weave_96 : decode cX7_weave 96 = .ok (.iload_n 2, 1) := by decide +kernel
theorem dX7_weave_97 : decode cX7_weave 97 = .ok (.iadd, 1) := by decide +kernel
theorem dX7_weave_98 : decode cX7_weave 98 = .ok (.putfield 126, 3) := by decide +kernel
theorem dX7_weave_101 : decode cX7_weave 101 = .ok (.aload_n 0, 1) := by decide +kernel
theorem dX7_weave_102 : decode cX7_weave 102 = .ok (.getfield 10, 3) := by decide +kernel
theorem dX7_weave_105 : decode cX7_weave 105 = .ok (.getfield 106, 3) := by decide +kernel
theorem dX7_weave_108 : decode cX7_weave 108 = .ok (.invokestatic 129, 3) := by decide +kernel
theorem dX7_weave_111 : decode cX7_weave 111 = .ok (.ireturn, 1) := by decide +kernel
set_option maxRecDepth 20000 in
theorem ggX7_dye_X7_isBelow : GoodIn wsX7_dye wsX7_isBelow := goodIn_r _ [7] (by decide +kernel) (by decide +kernel)
set_option maxRecDepth 20000 in
theorem gX7_dye_X7_isBelow : GoodIn wsX7_dye (va_wsS RX7 48 yX7_isBelow wsX7_isBelow) := goodIn_app (goodIn_of _ (by decide +kernel)) ggX7_dye_X7_isBelow
set_option maxRecDepth 20000 in
theorem ggX7_dye_X3_keep : GoodIn wsX7_dye wsX3_keep := goodIn_r _ [12, 13, 14, 15, 16, 17, 18, 19, 20, 11, 21, 5, 6, 7, 22, 23, 24, 25, 26, 27, 28, 29, 30, 31, 32, 33, 34, 35, 36, 37, 38, 39, 40, 41, 42, 43, 44, 45, 46, 47, 48, 49, 50, 51, 52, 53, 54, 55, 56, 57, 58, 81, 82, 74, 75, 76, 77, 78, 79, 80, 83, 84] (by decide +kernel) (by decide +kernel)
set_option maxRecDepth 20000 in
theorem gX7_dye_X3_keep : GoodIn wsX7_dye (wsV RX7 52 RX3 yX3_keep wsX3_keep) := goodIn_app (goodIn_of _ (by decide +kernel)) ggX7_dye_X3_keep
set_option maxRecDepth 20000 in
theorem ggX7_dye_X4_at : GoodIn wsX7_dye wsX4_at := goodIn_r _ [62] (by decide +kernel) (by decide +kernel)
set_option maxRecDepth 20000 in
theorem gX7_dye_X4_at : GoodIn wsX7_dye (va_wsS RX7 60 yX4_at wsX4_at) := goodIn_app (goodIn_of _ (by decide +kernel)) ggX7_dye_X4_at
set_option maxRecDepth 20000 in
theorem ggX7_dye_X4_with : GoodIn wsX7_dye wsX4_with := goodIn_r _ [65, 66, 67] (by decide +kernel) (by decide +kernel)
set_option maxRecDepth 20000 in
theorem gX7_dye_X4_with : GoodIn wsX7_dye (va_wsS RX7 66 yX4_with wsX4_with) := goodIn_app (goodIn_of _ (by decide +kernel)) ggX7_dye_X4_with
theorem dX7_dye_0 : decode cX7_dye 0 = .ok (.iload_n 1, 1) := by decide +kernel
theorem dX7_dye_1 : decode cX7_dye 1 = .ok (.bipush 12, 2) := by decide +kernel
theorem dX7_dye_3 : decode cX7_dye 3 = .ok (.invokestatic 48, 3) := by decide +kernel
theorem dX7_dye_6 : decode cX7_dye 6 = .ok (.ifCond .ne 5, 3) := by decide +kernel
theorem dX7_dye_9 : decode cX7_dye 9 = .ok (.iconst (-1), 1) := by decide +kernel
theorem dX7_dye_10 : decode cX7_dye 10 = .ok (.ireturn, 1) := by decide +kernel
theorem dX7_dye_11 : decode cX7_dye 11 = .ok (.iload_n 2, 1) := by decide +kernel
