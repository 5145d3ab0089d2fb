section LAWC1
variable {p : Program} {l : Launch} {e : Env} {s : State} {m : MethodId} {below : List Frame} {meth : Method} {c : Code} {b L x mm : Nat} {xs : Nat → Int32} {D : va_G} {Y : Nat → ClassId} {i : Int32} {S : PS} {H : Heap} {locs : List Loc} {cells slots : Nat} {Q : State → Prop} {ls : Array Slot}
set_option maxHeartbeats 4000000 in
set_option maxRecDepth 100000 in
theorem lc_treadle (C : CX p m c cL_law 4 s #[Value.ref b] wsL_law RL D Y) (hX : va_X b L xs s s.heap) (hbl : b < s.heap.size) (hO : HO D Y (LA s) s.heap S H locs) (hl : lv_has ls 4 [(0, .ref b), (1, .ref x), (2, .ref mm), (3, .int i)]) (h1 : vp_in (i + Int32.ofInt 1) L) (h2 : vp_in (i + Int32.ofInt 2) L) (h3 : vp_in (i + Int32.ofInt 3) L) (h0c : cells ≤ room_1.cells ∧ slots ≤ room_1.slots) (hc : cells + 15 ≤ room_1.cells ∧ slots + 175 ≤ room_1.slots) (hi : INV S x mm) (kk : ∀ (S2 : PS) (H2 : Heap) (locs2 : List Loc), INV S2 x mm → HO D Y (LA s) s.heap S2 H2 locs2 → W p l e room_1 s m #[Value.ref b] below meth c H2 locs2 (cells + 15) (slots + 175) Q (F0 m 930 ls [])) : W p l e room_1 s m #[Value.ref b] below meth c H locs cells slots Q (F0 m 459 ls []) := by
  obtain ⟨hx, hb, hml, hown, hts⟩ := C.1
  refine lv_aload_n hx hb dL_law_459 rfl (lv_at hl 1 rfl) ?_
  refine ld_arg C hX hbl hO hl h1 dL_law_460 dL_law_461 dL_law_462 dL_law_463 dL_law_464 ?_
  refine ld_arg C hX hbl hO hl h2 dL_law_465 dL_law_466 dL_law_467 dL_law_468 dL_law_469 ?_
  have h := eq_treadle (S := S) (x := x) (m := mm) (y := (xs (i + Int32.ofInt 1).toNatClampNeg)) (z := (xs (i + Int32.ofInt 2).toNatClampNeg)) hi
  obtain ⟨fs, ex⟩ := hi.cx
  refine cV_ri (As := [.int (xs (i + Int32.ofInt 1).toNatClampNeg), .int (xs (i + Int32.ofInt 2).toNatClampNeg)]) (rest := []) (n := 2) C hO (fun L0 => c_X7_treadle l D Y L0 S H.size x ((xs (i + Int32.ofInt 1).toNatClampNeg)) ((xs (i + Int32.ofInt 2).toNatClampNeg)) _ h) 5 rfl ex (cwV 2 hts gL_law_X7_treadle rfl rfl rfl ⟨rfl, hdS_X7_treadle⟩ ⟨Nat.le_of_ble_eq_true rfl, Nat.le_of_ble_eq_true rfl⟩) rfl hl.1 rfl (Nat.le_of_ble_eq_true rfl) dL_law_470 h0c (fun r h => ?_)
  refine lv_aload_n hx hb dL_law_473 rfl (lv_at hl 2 rfl) ?_
  refine ld_arg C hX hbl hO hl h1 dL_law_474 dL_law_475 dL_law_476 dL_law_477 dL_law_478 ?_
  refine ld_arg C hX hbl hO hl h2 dL_law_479 dL_law_480 dL_law_481 dL_law_482 dL_law_483 ?_
  obtain ⟨fs2, e2⟩ := hi.cm
  refine cV_ri (As := [.int (xs (i + Int32.ofInt 1).toNatClampNeg), .int (xs (i + Int32.ofInt 2).toNatClampNeg)]) (rest := [.int r]) (n := 2) C hO (fun L0 => c_X8_treadle l D Y L0 S H.size mm ((xs (i + Int32.ofInt 1).toNatClampNeg)) ((xs (i + Int32.ofInt 2).toNatClampNeg)) _ h) 6 rfl e2 (cwV 2 hts gL_law_X8_treadle rfl rfl rfl ⟨rfl, hdS_X8_treadle⟩ ⟨Nat.le_of_ble_eq_true rfl, Nat.le_of_ble_eq_true rfl⟩) rfl hl.1 rfl (Nat.le_of_ble_eq_true rfl) dL_law_484 h0c (fun r2 h => ?_)
  refine lv_icmp_eq (tgt := 930) hx hb dL_law_487 (by decide) (fun _ => ?_) (fun c => absurd h c)
  refine W.widen (k := cells + 15) (n := slots + 175) (Nat.le_add_right _ _) (Nat.le_add_right _ _) ?_
  exact kk S H locs hi hO
set_option maxHeartbeats 4000000 in
set_option maxRecDepth 100000 in
theorem lc_draft (C : CX p m c cL_law 4 s #[Value.ref b] wsL_law RL D Y) (hX : va_X b L xs s s.heap) (hbl : b < s.heap.size) (hO : HO D Y (LA s) s.heap S H locs) (hl : lv_has ls 4 [(0, .ref b), (1, .ref x), (2, .ref mm), (3, .int i)]) (h1 : vp_in (i + Int32.ofInt 1) L) (h2 : vp_in (i + Int32.ofInt 2) L) (h3 : vp_in (i + Int32.ofInt 3) L) (h0c : cells ≤ room_1.cells ∧ slots ≤ room_1.slots) (hc : cells + 15 ≤ room_1.cells ∧ slots + 175 ≤ room_1.slots) (hi : INV S x mm) (kk : ∀ (S2 : PS) (H2 : Heap) (locs2 : List Loc), INV S2 x mm → HO D Y (LA s) s.heap S2 H2 locs2 → W p l e room_1 s m #[Value.ref b] below meth c H2 locs2 (cells + 15) (slots + 175) Q (F0 m 930 ls [])) : W p l e room_1 s m #[Value.ref b] below meth c H locs cells slots Q (F0 m 492 ls []) := by
  obtain ⟨hx, hb, hml, hown, hts⟩ := C.1
  refine lv_aload_n hx hb dL_law_492 rfl (lv_at hl 1 rfl) ?_
  refine ld_arg C hX hbl hO hl h1 dL_law_493 dL_law_494 dL_law_495 dL_law_496 dL_law_497 ?_
  refine ld_arg C hX hbl hO hl h2 dL_law_498 dL_law_499 dL_law_500 dL_law_501 dL_law_502 ?_
  have h := eq_draft (S := S) (x := x) (m := mm) (y := (xs (i + Int32.ofInt 1).toNatClampNeg)) (z := (xs (i + Int32.ofInt 2).toNatClampNeg)) hi
  obtain ⟨fs, ex⟩ := hi.cx
  refine cV_ri (As := [.int (xs (i + Int32.ofInt 1).toNatClampNeg), .int (xs (i + Int32.ofInt 2).toNatClampNeg)]) (rest := []) (n := 2) C hO (fun L0 => c_X7_draft l D Y L0 S H.size x ((xs (i + Int32.ofInt 1).toNatClampNeg)) ((xs (i + Int32.ofInt 2).toNatClampNeg)) _ h) 5 rfl ex (cwV 2 hts gL_law_X7_draft rfl rfl rfl ⟨rfl, hdS_X7_draft⟩ ⟨Nat.le_of_ble_eq_true rfl, Nat.le_of_ble_eq_true rfl⟩) rfl hl.1 rfl (Nat.le_of_ble_eq_true rfl) dL_law_503 h0c (fun r h => ?_)
  refine lv_aload_n hx hb dL_law_506 rfl (lv_at hl 2 rfl) ?_
  refine ld_arg C hX hbl hO hl h1 dL_law_507 dL_law_508 dL_law_509 dL_law_510 dL_law_511 ?_
  refine ld_arg C hX hbl hO hl h2 dL_law_512 dL_law_513 dL_law_514 dL_law_515 dL_law_516 ?_
  obtain ⟨fs2, e2⟩ := hi.cm
  refine cV_wi (As := [.int (xs (i + Int32.ofInt 1).toNatClampNeg), .int (xs (i + Int32.ofInt 2).toNatClampNeg)]) (rest := [.int r]) (n := 2) C hO (fun L0 => c_X8_draft l D Y L0 S H.size mm ((xs (i + Int32.ofInt 1).toNatClampNeg)) ((xs (i + Int32.ofInt 2).toNatClampNeg)) _ h) 6 rfl e2 (cwV 2 hts gL_law_X8_draft rfl rfl rfl ⟨rfl, hdS_X8_draft⟩ ⟨Nat.le_of_ble_eq_true rfl, Nat.le_of_ble_eq_true rfl⟩) rfl hl.1 rfl (Nat.le_of_ble_eq_true rfl) dL_law_517 h0c (fun r2 S2 H2 locs2 h hO => ?_)
  refine lv_icmp_eq (tgt := 930) hx hb dL_law_520 (by decide) (fun _ => ?_) (fun c => absurd h.1 c)
  refine W.widen (k := cells + 15) (n := slots + 175) (Nat.le_add_right _ _) (Nat.le_add_right _ _) ?_
  exact kk S2 H2 locs2 h.2 hO
set_option maxHeartbeats 4000000 in
set_option maxRecDepth 100000 in
theorem lc_press (C : CX p m c cL_law 4 s #[Value.ref b] wsL_law RL D Y) (hX : va_X b L xs s s.heap) (hbl : b < s.heap.size) (hO : HO D Y (LA s) s.heap S H locs) (hl : lv_has ls 4 [(0, .ref b), (1, .ref x), (2, .ref mm), (3, .int i)]) (h1 : vp_in (i + Int32.ofInt 1) L) (h2 : vp_in (i + Int32.ofInt 2) L) (h3 : vp_in (i + Int32.ofInt 3) L) (h0c : cells ≤ room_1.cells ∧ slots ≤ room_1.slots) (hc : cells + 15 ≤ room_1.cells ∧ slots + 175 ≤ room_1.slots) (hi : INV S x mm) (kk : ∀ (S2 : PS) (H2 : Heap) (locs2 : List Loc), INV S2 x mm → HO D Y (LA s) s.heap S2 H2 locs2 → W p l e room_1 s m #[Value.ref b] below meth c H2 locs2 (cells + 15) (slots + 175) Q (F0 m 930 ls [])) : W p l e room_1 s m #[Value.ref b] below meth c H locs cells slots Q (F0 m 525 ls []) := by
  obtain ⟨hx, hb, hml, hown, hts⟩ := C.1
  refine lv_aload_n hx hb dL_law_525 rfl (lv_at hl 1 rfl) ?_
  refine ld_arg C hX hbl hO hl h1 dL_law_526 dL_law_527 dL_law_528 dL_law_529 dL_law_530 ?_
  refine ld_arg C hX hbl hO hl h2 dL_law_531 dL_law_532 dL_law_533 dL_law_534 dL_law_535 ?_
  have h := eq_press (S := S) (x := x) (m := mm) (y := (xs (i + Int32.ofInt 1).toNatClampNeg)) (z := (xs (i + Int32.ofInt 2).toNatClampNeg)) hi
  obtain ⟨fs, ex⟩ := hi.cx
  refine cV_ri (As := [.int (xs (i + Int32.ofInt 1).toNatClampNeg), .int (xs (i + Int32.ofInt 2).toNatClampNeg)]) (rest := []) (n := 2) C hO (fun L0 => c_X7_press l D Y L0 S H.size x ((xs (i + Int32.ofInt 1).toNatClampNeg)) ((xs (i + Int32.ofInt 2).toNatClampNeg)) _ h) 5 rfl ex (cwV 2 hts gL_law_X7_press rfl rfl rfl ⟨rfl, hdS_X7_press⟩ ⟨Nat.le_of_ble_eq_true rfl, Nat.le_of_ble_eq_true rfl⟩) rfl hl.1 rfl (Nat.le_of_ble_eq_true rfl) dL_law_536 h0c (fun r h => ?_)
  refine lv_aload_n hx hb dL_law_539 rfl (lv_at hl 2 rfl) ?_
  refine ld_arg C hX hbl hO hl h1 dL_law_540 dL_law_541 dL_law_542 dL_law_543 dL_law_544 ?_
  refine ld_arg C hX hbl hO hl h2 dL_law_545 dL_law_546 dL_law_547 dL_law_548 dL_law_549 ?_
  obtain ⟨fs2, e2⟩ := hi.cm
  refine cV_ri (As := [.int (xs (i + Int32.ofInt 1).toNatClampNeg), .int (xs (i + Int32.ofInt 2).toNatClampNeg)]) (rest := [.int r]) (n := 2) C hO (fun L0 => c_X8_press l D Y L0 S H.size mm ((xs (i + Int32.ofInt 1).toNatClampNeg)) ((xs (i + Int32.ofInt 2).toNatClampNeg)) _ h) 6 rfl e2 (cwV 2 hts gL_law_X8_press rfl rfl rfl ⟨rfl, hdS_X8_press⟩ ⟨Nat.le_of_ble_eq_true rfl, Nat.le_of_ble_eq_true rfl⟩) rfl hl.1 rfl (Nat.le_of_ble_eq_true rfl) dL_law_550 h0c (fun r2 h => ?_)
  refine lv_icmp_eq (tgt := 930) hx hb dL_law_553 (by decide) (fun _ => ?_) (fun c => absurd h c)
  refine W.widen (k := cells + 15) (n := slots + 175) (Nat.le_add_right _ _) (Nat.le_add_right _ _) ?_
  exact kk S H locs hi hO
set_option maxHeartbeats 4000000 in
set_option maxRecDepth 100000 in
theorem lc_comesTo (C : CX p m c cL_law 4 s #[Value.ref b] wsL_law RL D Y) (hX : va_X b L xs s s.heap) (hbl : b < s.heap.size) (hO : HO D Y (LA s) s.heap S H locs) (hl : lv_has ls 4 [(0, .ref b), (1, .ref x), (2, .ref mm), (3, .int i)]) (h1 : vp_in (i + Int32.ofInt 1) L) (h2 : vp_in (i + Int32.ofInt 2) L) (h3 : vp_in (i + Int32.ofInt 3) L) (h0c : cells ≤ room_1.cells ∧ slots ≤ room_1.slots) (hc : cells + 15 ≤ room_1.cells ∧ slots + 175 ≤ room_1.slots) (hi : INV S x mm) (kk : ∀ (S2 : PS) (H2 : Heap) (locs2 : List Loc), INV S2 x mm → HO D Y (LA s) s.heap S2 H2 locs2 → W p l e room_1 s m #[Value.ref b] below meth c H2 locs2 (cells + 15) (slots + 175) Q (F0 m 930 ls [])) : W p l e room_1 s m #[Value.ref b] below meth c H locs cells slots Q (F0 m 558 ls []) := by
  obtain ⟨hx, hb, hml, hown, hts⟩ := C.1
  refine lv_aload_n hx hb dL_law_558 rfl (lv_at hl 1 rfl) ?_
  refine ld_arg C hX hbl hO hl h1 dL_law_559 dL_law_560 dL_law_561 dL_law_562 dL_law_563 ?_
  refine ld_arg C hX hbl hO hl h2 dL_law_564 dL_law_565 dL_law_566 dL_law_567 dL_law_568 ?_
  refine ld_arg C hX hbl hO hl h3 dL_law_569 dL_law_570 dL_law_571 dL_law_572 dL_law_573 ?_
  have h := eq_comesTo (S := S) (x := x) (m := mm) (y := (xs (i + Int32.ofInt 1).toNatClampNeg)) (z := (xs (i + Int32.ofInt 2).toNatClampNeg)) (u := (xs (i + Int32.ofInt 3).toNatClampNeg)) hi
  obtain ⟨fs, ex⟩ := hi.cx
  refine cV_ri (As := [.int (xs (i + Int32.ofInt 1).toNatClampNeg), .int (xs (i + Int32.ofInt 2).toNatClampNeg), .int (xs (i + Int32.ofInt 3).toNatClampNeg)]) (rest := []) (n := 3) C hO (fun L0 => c_X7_comesTo l D Y L0 S H.size x ((xs (i + Int32.ofInt 1).toNatClampNeg)) ((xs (i + Int32.ofInt 2).toNatClampNeg)) ((xs (i + Int32.ofInt 3).toNatClampNeg)) _ h) 5 rfl ex (cwV 3 hts gL_law_X7_comesTo rfl rfl rfl ⟨rfl, hdS_X7_comesTo⟩ ⟨Nat.le_of_ble_eq_true rfl, Nat.le_of_ble_eq_true rfl⟩) rfl hl.1 rfl (Nat.le_of_ble_eq_true rfl) dL_law_574 h0c (fun r h => ?_)
  refine lv_aload_n hx hb dL_law_577 rfl (lv_at hl 2 rfl) ?_
  refine ld_arg C hX hbl hO hl h1 dL_law_578 dL_law_579 dL_law_580 dL_law_581 dL_law_582 ?_
  refine ld_arg C hX hbl hO hl h2 dL_law_583 dL_law_584 dL_law_585 dL_law_586 dL_law_587 ?_
  refine ld_arg C hX hbl hO hl h3 dL_law_588 dL_law_589 dL_law_590 dL_law_591 dL_law_592 ?_
  obtain ⟨fs2, e2⟩ := hi.cm
  refine cV_wi (As := [.int (xs (i + Int32.ofInt 1).toNatClampNeg), .int (xs (i + Int32.ofInt 2).toNatClampNeg), .int (xs (i + Int32.ofInt 3).toNatClampNeg)]) (rest := [.int r]) (n := 3) C hO (fun L0 => c_X8_comesTo l D Y L0 S H.size mm ((xs (i + Int32.ofInt 1).toNatClampNeg)) ((xs (i + Int32.ofInt 2).toNatClampNeg)) ((xs (i + Int32.ofInt 3).toNatClampNeg)) _ h) 6 rfl e2 (cwV 3 hts gL_law_X8_comesTo rfl rfl rfl ⟨rfl, hdS_X8_comesTo⟩ ⟨Nat.le_of_ble_eq_true rfl, Nat.le_of_ble_eq_true rfl⟩) rfl hl.1 rfl (Nat.le_of_ble_eq_true rfl) dL_law_593 h0c (fun r2 S2 H2 locs2 h hO => ?_)
  refine lv_icmp_eq (tgt := 930) hx hb dL_law_596 (by decide) (fun _ => ?_) (fun c => absurd h.1 c)
  refine W.widen (k := cells + 15) (n := slots + 175) (Nat.le_add_right _ _) (Nat.le_add_right _ _) ?_
  exact kk S2 H2 locs2 h.2 hO
set_option maxHeartbeats 4000000 in
set_option maxRecDepth 100000 in
theorem lc_count (C : CX p m c cL_law 4 s #[Value.ref b] wsL_law RL D Y) (hX : va_X b L xs s s.heap) (hbl : b < s.heap.size) (hO : HO D Y (LA s) s.heap S H locs) (hl : lv_has ls 4 [(0, .ref b), (1, .ref x), (2, .ref mm), (3, .int i)]) (h1 : vp_in (i + Int32.ofInt 1) L) (h2 : vp_in (i + Int32.ofInt 2) L) (h3 : vp_in (i + Int32.ofInt 3) L) (h0c : cells ≤ room_1.cells ∧ slots ≤ room_1.slots) (hc : cells + 15 ≤ room_1.cells ∧ slots + 175 ≤ room_1.slots) (hi : INV S x mm) (kk : ∀ (S2 : PS) (H2 : Heap) (locs2 : List Loc), INV S2 x mm → HO D Y (LA s) s.heap S2 H2 locs2 → W p l e room_1 s m #[Value.ref b] below meth c H2 locs2 (cells + 15) (slots + 175) Q (F0 m 930 ls [])) : W p l e room_1 s m #[Value.ref b] below meth c H locs cells slots Q (F0 m 601 ls []) := by
  obtain ⟨hx, hb, hml, hown, hts⟩ := C.1
  refine lv_aload_n hx hb dL_law_601 rfl (lv_at hl 1 rfl) ?_
  refine ld_arg C hX hbl hO hl h1 dL_law_602 dL_law_603 dL_law_604 dL_law_605 dL_law_606 ?_
  have h := eq_count (S := S) (x := x) (m := mm) (y := (xs (i + Int32.ofInt 1).toNatClampNeg)) hi
  obtain ⟨fs, ex⟩ := hi.cx
  refine cV_ri (As := [.int (xs (i + Int32.ofInt 1).toNatClampNeg)]) (rest := []) (n := 1) C hO (fun L0 => c_X7_count l D Y L0 S H.size x ((xs (i + Int32.ofInt 1).toNatClampNeg)) _ h) 5 rfl ex (cwV 1 hts gL_law_X7_count rfl rfl rfl ⟨rfl, hdS_X7_count⟩ ⟨Nat.le_of_ble_eq_true rfl, Nat.le_of_ble_eq_true rfl⟩) rfl hl.1 rfl (Nat.le_of_ble_eq_true rfl) dL_law_607 h0c (fun r h => ?_)
  refine lv_aload_n hx hb dL_law_610 rfl (lv_at hl 2 rfl) ?_
  refine ld_arg C hX hbl hO hl h1 dL_law_611 dL_law_612 dL_law_613 dL_law_614 dL_law_615 ?_
  obtain ⟨fs2, e2⟩ := hi.cm
  refine cV_ri (As := [.int (xs (i + Int32.ofInt 1).toNatClampNeg)]) (rest := [.int r]) (n := 1) C hO (fun L0 => c_X8_count l D Y L0 S H.size mm ((xs (i + Int32.ofInt 1).toNatClampNeg)) _ h) 6 rfl e2 (cwV 1 hts gL_law_X8_count rfl rfl rfl ⟨rfl, hdS_X8_count⟩ ⟨Nat.le_of_ble_eq_true rfl, Nat.le_of_ble_eq_true rfl⟩) rfl hl.1 rfl (Nat.le_of_ble_eq_true rfl) dL_law_616 h0c (fun r2 h => ?_)
  refine lv_icmp_eq (tgt := 930) hx hb dL_law_619 (by decide) (fun _ => ?_) (fun c => absurd h c)
  refine W.widen (k := cells + 15) (n := slots + 175) (Nat.le_add_right _ _) (Nat.le_add_right _ _) ?_
  exact kk S H locs hi hO
set_option maxHeartbeats 4000000 in
set_option maxRecDepth 100000 in
theorem lc_kernel (C : CX p m c cL_law 4 s #[Value.ref b] wsL_law RL D Y) (hX : va_X b L xs s s.heap) (hbl : b < s.heap.size) (hO : HO D Y (LA s) s.heap S H locs) (hl : lv_has ls 4 [(0, .ref b), (1, .ref x), (2, .ref mm), (3, .int i)]) (h1 : vp_in (i + Int32.ofInt 1) L) (h2 : vp_in (i + Int32.ofInt 2) L) (h3 : vp_in (i + Int32.ofInt 3) L) (h0c : cells ≤ room_1.cells ∧ slots ≤ room_1.slots) (hc : cells + 15 ≤ room_1.cells ∧ slots + 175 ≤ room_1.slots) (hi : INV S x mm) (kk : ∀ (S2 : PS) (H2 : Heap) (locs2 : List Loc), INV S2 x mm → HO D Y (LA s) s.heap S2 H2 locs2 → W p l e room_1 s m #[Value.ref b] below meth c H2 locs2 (cells + 15) (slots + 175) Q (F0 m 930 ls [])) : W p l e room_1 s m #[Value.ref b] below meth c H locs cells slots Q (F0 m 624 ls []) := by
  obtain ⟨hx, hb, hml, hown, hts⟩ := C.1
  refine lv_aload_n hx hb dL_law_624 rfl (lv_at hl 1 rfl) ?_
  refine ld_arg C hX hbl hO hl h1 dL_law_625 dL_law_626 dL_law_627 dL_law_628 dL_law_629 ?_
  have h := eq_kernel (S := S) (x := x) (m := mm) (y := (xs (i + Int32.ofInt 1).toNatClampNeg)) hi
  obtain ⟨fs, ex⟩ := hi.cx
  refine cV_ri (As := [.int (xs (i + Int32.ofInt 1).toNatClampNeg)]) (rest := []) (n := 1) C hO (fun L0 => c_X7_kernel l D Y L0 S H.size x ((xs (i + Int32.ofInt 1).toNatClampNeg)) _ h) 5 rfl ex (cwV 1 hts gL_law_X7_kernel rfl rfl rfl ⟨rfl, hdS_X7_kernel⟩ ⟨Nat.le_of_ble_eq_true rfl, Nat.le_of_ble_eq_true rfl⟩) rfl hl.1 rfl (Nat.le_of_ble_eq_true rfl) dL_law_630 h0c (fun r h => ?_)
  refine lv_aload_n hx hb dL_law_633 rfl (lv_at hl 2 rfl) ?_
  refine ld_arg C hX hbl hO hl h1 dL_law_634 dL_law_635 dL_law_636 dL_law_637 dL_law_638 ?_
  obtain ⟨fs2, e2⟩ := hi.cm
  refine cV_wi (As := [.int (xs (i + Int32.ofInt 1).toNatClampNeg)]) (rest := [.int r]) (n := 1) C hO (fun L0 => c_X8_kernel l D Y L0 S H.size mm ((xs (i + Int32.ofInt 1).toNatClampNeg)) _ h) 6 rfl e2 (cwV 1 hts gL_law_X8_kernel rfl rfl rfl ⟨rfl, hdS_X8_kernel⟩ ⟨Nat.le_of_ble_eq_true rfl, Nat.le_of_ble_eq_true rfl⟩) rfl hl.1 rfl (Nat.le_of_ble_eq_true rfl) dL_law_639 h0c (fun r2 S2 H2 locs2 h hO => ?_)
  refine lv_icmp_eq (tgt := 930) hx hb dL_law_642 (by decide) (fun _ => ?_) (fun c => absurd h.1 c)
  refine W.widen (k := cells + 15) (n := slots + 175) (Nat.le_add_right _ _) (Nat.le_add_right _ _) ?_
  exact kk S2 H2 locs2 h.2 hO
set_option maxHeartbeats 4000000 in
set_option maxRecDepth 100000 in
theorem lc_orbit (C : CX p m c cL_law 4 s #[Value.ref b] wsL_law RL D Y) (hX : va_X b L xs s s.heap) (hbl : b < s.heap.size) (hO : HO D Y (LA s) s.heap S H locs) (hl : lv_has ls 4 [(0, .ref b), (1, .ref x), (2, .ref mm), (3, .int i)]) (h1 : vp_in (i + Int32.ofInt 1) L) (h2 : vp_in (i + Int32.ofInt 2) L) (h3 : vp_in (i + Int32.ofInt 3) L) (h0c : cells ≤ room_1.cells ∧ slots ≤ room_1.slots) (hc : cells + 15 ≤ room_1.cells ∧ slots + 175 ≤ room_1.slots) (hi : INV S x mm) (kk : ∀ (S2 : PS) (H2 : Heap) (locs2 : List Loc), INV S2 x mm → HO D Y (LA s) s.heap S2 H2 locs2 → W p l e room_1 s m #[Value.ref b] below meth c H2 locs2 (cells + 15) (slots + 175) Q (F0 m 930 ls [])) : W p l e room_1 s m #[Value.ref b] below meth c H locs cells slots Q (F0 m 647 ls []) := by
  obtain ⟨hx, hb, hml, hown, hts⟩ := C.1
  refine lv_aload_n hx hb dL_law_647 rfl (lv_at hl 1 rfl) ?_
  refine ld_arg C hX hbl hO hl h1 dL_law_648 dL_law_649 dL_law_650 dL_law_651 dL_law_652 ?_
  refine ld_arg C hX hbl hO hl h2 dL_law_653 dL_law_654 dL_law_655 dL_law_656 dL_law_657 ?_
  have h := eq_orbit (S := S) (x := x) (m := mm) (y := (xs (i + Int32.ofInt 1).toNatClampNeg)) (z := (xs (i + Int32.ofInt 2).toNatClampNeg)) hi
  obtain ⟨fs, ex⟩ := hi.cx
  refine cV_wi (As := [.int (xs (i + Int32.ofInt 1).toNatClampNeg), .int (xs (i + Int32.ofInt 2).toNatClampNeg)]) (rest := []) (n := 2) C hO (fun L0 => c_X7_orbit l D Y L0 S H.size x ((xs (i + Int32.ofInt 1).toNatClampNeg)) ((xs (i + Int32.ofInt 2).toNatClampNeg)) _ h) 5 rfl ex (cwV 2 hts gL_law_X7_orbit rfl rfl rfl ⟨rfl, hdS_X7_orbit⟩ ⟨Nat.le_of_ble_eq_true rfl, Nat.le_of_ble_eq_true rfl⟩) rfl hl.1 rfl (Nat.le_of_ble_eq_true rfl) dL_law_658 h0c (fun r S1 H1 locs1 h hO => ?_)
  refine lv_aload_n hx hb dL_law_661 rfl (lv_at hl 2 rfl) ?_
  refine ld_arg C hX hbl hO hl h1 dL_law_662 dL_law_663 dL_law_664 dL_law_665 dL_law_666 ?_
  refine ld_arg C hX hbl hO hl h2 dL_law_667 dL_law_668 dL_law_669 dL_law_670 dL_law_671 ?_
  obtain ⟨fs2, e2, h⟩ := h
  refine cV_wi (As := [.int (xs (i + Int32.ofInt 1).toNatClampNeg), .int (xs (i + Int32.ofInt 2).toNatClampNeg)]) (rest := [.int r]) (n := 2) C hO (fun L0 => c_X8_orbit l D Y L0 S1 H1.size mm ((xs (i + Int32.ofInt 1).toNatClampNeg)) ((xs (i + Int32.ofInt 2).toNatClampNeg)) _ h) 6 rfl e2 (cwV 2 hts gL_law_X8_orbit rfl rfl rfl ⟨rfl, hdS_X8_orbit⟩ ⟨Nat.le_of_ble_eq_true rfl, Nat.le_of_ble_eq_true rfl⟩) rfl hl.1 rfl (Nat.le_of_ble_eq_true rfl) dL_law_672 h0c (fun r2 S2 H2 locs2 h hO => ?_)
  refine lv_icmp_eq (tgt := 930) hx hb dL_law_675 (by decide) (fun _ => ?_) (fun c => absurd h.1 c)
  refine W.widen (k := cells + 15) (n := slots + 175) (Nat.le_add_right _ _) (Nat.le_add_right _ _) ?_
  exact kk S2 H2 locs2 h.2 hO
set_option maxHeartbeats 4000000 in
set_option maxRecDepth 100000 in
theorem lc_pair (C : CX p m c cL_law 4 s #[Value.ref b] wsL_law RL D Y) (hX : va_X b L xs s s.heap) (hbl : b < s.heap.size) (hO : HO D Y (LA s) s.heap S H locs) (hl : lv_has ls 4 [(0, .ref b), (1, .ref x), (2, .ref mm), (3, .int i)]) (h1 : vp_in (i + Int32.ofInt 1) L) (h2 : vp_in (i + Int32.ofInt 2) L) (h3 : vp_in (i + Int32.ofInt 3) L) (h0c : cells ≤ room_1.cells ∧ slots ≤ room_1.slots) (hc : cells + 15 ≤ room_1.cells ∧ slots + 175 ≤ room_1.slots) (hi : INV S x mm) (kk : ∀ (S2 : PS) (H2 : Heap) (locs2 : List Loc), INV S2 x mm → HO D Y (LA s) s.heap S2 H2 locs2 → W p l e room_1 s m #[Value.ref b] below meth c H2 locs2 (cells + 15) (slots + 175) Q (F0 m 930 ls [])) : W p l e room_1 s m #[Value.ref b] below meth c H locs cells slots Q (F0 m 680 ls []) := by
  obtain ⟨hx, hb, hml, hown, hts⟩ := C.1
  refine lv_aload_n hx hb dL_law_680 rfl (lv_at hl 1 rfl) ?_
  refine ld_arg C hX hbl hO hl h1 dL_law_681 dL_law_682 dL_law_683 dL_law_684 dL_law_685 ?_
  refine ld_arg C hX hbl hO hl h2 dL_law_686 dL_law_687 dL_law_688 dL_law_689 dL_law_690 ?_
  refine ld_arg C hX hbl hO hl h3 dL_law_691 dL_law_692 dL_law_693 dL_law_694 dL_law_695 ?_
  have h := eq_pair (S := S) (x := x) (m := mm) (y := (xs (i + Int32.ofInt 1).toNatClampNeg)) (z := (xs (i + Int32.ofInt 2).toNatClampNeg)) (u := (xs (i + Int32.ofInt 3).toNatClampNeg)) hi
  obtain ⟨fs, ex⟩ := hi.cx
  refine cV_ri (As := [.int (xs (i + Int32.ofInt 1).toNatClampNeg), .int (xs (i + Int32.ofInt 2).toNatClampNeg), .int (xs (i + Int32.ofInt 3).toNatClampNeg)]) (rest := []) (n := 3) C hO (fun L0 => c_X7_pair l D Y L0 S H.size x ((xs (i + Int32.ofInt 1).toNatClampNeg)) ((xs (i + Int32.ofInt 2).toNatClampNeg)) ((xs (i + Int32.ofInt 3).toNatClampNeg)) _ h) 5 rfl ex (cwV 3 hts gL_law_X7_pair rfl rfl rfl ⟨rfl, hdS_X7_pair⟩ ⟨Nat.le_of_ble_eq_true rfl, Nat.le_of_ble_eq_true rfl⟩) rfl hl.1 rfl (Nat.le_of_ble_eq_true rfl) dL_law_696 h0c (fun r h => ?_)
  refine lv_aload_n hx hb dL_law_699 rfl (lv_at hl 2 rfl) ?_
  refine ld_arg C hX hbl hO hl h1 dL_law_700 dL_law_701 dL_law_702 dL_law_703 dL_law_704 ?_
  refine ld_arg C hX hbl hO hl h2 dL_law_705 dL_law_706 dL_law_707 dL_law_708 dL_law_709 ?_
  refine ld_arg C hX hbl hO hl h3 dL_law_710 dL_law_711 dL_law_712 dL_law_713 dL_law_714 ?_
  obtain ⟨fs2, e2⟩ := hi.cm
  refine cV_wi (As := [.int (xs (i + Int32.ofInt 1).toNatClampNeg), .int (xs (i + Int32.ofInt 2).toNatClampNeg), .int (xs (i + Int32.ofInt 3).toNatClampNeg)]) (rest := [.int r]) (n := 3) C hO (fun L0 => c_X8_pair l D Y L0 S H.size mm ((xs (i + Int32.ofInt 1).toNatClampNeg)) ((xs (i + Int32.ofInt 2).toNatClampNeg)) ((xs (i + Int32.ofInt 3).toNatClampNeg)) _ h) 6 rfl e2 (cwV 3 hts gL_law_X8_pair rfl rfl rfl ⟨rfl, hdS_X8_pair⟩ ⟨Nat.le_of_ble_eq_true rfl, Nat.le_of_ble_eq_true rfl⟩) rfl hl.1 rfl (Nat.le_of_ble_eq_true rfl) dL_law_715 h0c (fun r2 S2 H2 locs2 h hO => ?_)
  refine lv_icmp_eq (tgt := 930) hx hb dL_law_718 (by decide) (fun _ => ?_) (fun c => absurd h.1 c)
  refine W.widen (k := cells + 15) (n := slots + 175) (Nat.le_add_right _ _) (Nat.le_add_right _ _) ?_
  exact kk S2 H2 locs2 h.2 hO
set_option maxHeartbeats 4000000 in
set_option maxRecDepth 100000 in
theorem lc_ways (C : CX p m c cL_law 4 s #[Value.ref b] wsL_law RL D Y) (hX : va_X b L xs s s.heap) (hbl : b < s.heap.size) (hO : HO D Y (LA s) s.heap S H locs) (hl : lv_has ls 4 [(0, .ref b), (1, .ref x), (2, .ref mm), (3, .int i)]) (h1 : vp_in (i + Int32.ofInt 1) L) (h2 : vp_in (i + Int32.ofInt 2) L) (h3 : vp_in (i + Int32.ofInt 3) L) (h0c : cells ≤ room_1.cells ∧ slots ≤ room_1.slots) (hc : cells + 15 ≤ room_1.cells ∧ slots + 175 ≤ room_1.slots) (hi : INV S x mm) (kk : ∀ (S2 : PS) (H2 : Heap) (locs2 : List Loc), INV S2 x mm → HO D Y (LA s) s.heap S2 H2 locs2 → W p l e room_1 s m #[Value.ref b] below meth c H2 locs2 (cells + 15) (slots + 175) Q (F0 m 930 ls [])) : W p l e room_1 s m #[Value.ref b] below meth c H locs cells slots Q (F0 m 723 ls []) := by
  obtain ⟨hx, hb, hml, hown, hts⟩ := C.1
  refine lv_aload_n hx hb dL_law_723 rfl (lv_at hl 1 rfl) ?_
  refine ld_arg C hX hbl hO hl h1 dL_law_724 dL_law_725 dL_law_726 dL_law_727 dL_law_728 ?_
  have h := eq_ways (S := S) (x := x) (m := mm) (y := (xs (i + Int32.ofInt 1).toNatClampNeg)) hi
  obtain ⟨fs, ex⟩ := hi.cx
  refine cV_wi (As := [.int (xs (i + Int32.ofInt 1).toNatClampNeg)]) (rest := []) (n := 1) C hO (fun L0 => c_X7_ways l D Y L0 S H.size x ((xs (i + Int32.ofInt 1).toNatClampNeg)) _ h) 5 rfl ex (cwV 1 hts gL_law_X7_ways rfl rfl rfl ⟨rfl, hdS_X7_ways⟩ ⟨Nat.le_of_ble_eq_true rfl, Nat.le_of_ble_eq_true rfl⟩) rfl hl.1 rfl (Nat.le_of_ble_eq_true rfl) dL_law_729 h0c (fun r S1 H1 locs1 h hO => ?_)
  refine lv_aload_n hx hb dL_law_732 rfl (lv_at hl 2 rfl) ?_
  refine ld_arg C hX hbl hO hl h1 dL_law_733 dL_law_734 dL_law_735 dL_law_736 dL_law_737 ?_
  obtain ⟨fs2, e2, h⟩ := h
  refine cV_wi (As := [.int (xs (i + Int32.ofInt 1).toNatClampNeg)]) (rest := [.int r]) (n := 1) C hO (fun L0 => c_X8_ways l D Y L0 S1 H1.size mm ((xs (i + Int32.ofInt 1).toNatClampNeg)) _ h) 6 rfl e2 (cwV 1 hts gL_law_X8_ways rfl rfl rfl ⟨rfl, hdS_X8_ways⟩ ⟨Nat.le_of_ble_eq_true rfl, Nat.le_of_ble_eq_true rfl⟩) rfl hl.1 rfl (Nat.le_of_ble_eq_true rfl) dL_law_738 h0c (fun r2 S2 H2 locs2 h hO => ?_)
  refine lv_icmp_eq (tgt := 930) hx hb dL_law_741 (by decide) (fun _ => ?_) (fun c => absurd h.1 c)
  refine W.widen (k := cells + 15) (n := slots + 175) (Nat.le_add_right _ _) (Nat.le_add_right _ _) ?_
  exact kk S2 H2 locs2 h.2 hO
end LAWC1
