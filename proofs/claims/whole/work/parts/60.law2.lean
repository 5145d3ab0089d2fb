section LAWC2
variable {p : Program} {l : Launch} {e : Env} {s : State} {m : MethodId} {below : List Frame} {meth : Method} {c : Code} {b L x mm : Nat} {xs : Nat → Int32} {D : va_G} {Y : Nat → ClassId} {i : Int32} {S : PS} {H : Heap} {locs : List Loc} {cells slots : Nat} {Q : State → Prop} {ls : Array Slot}
set_option maxHeartbeats 4000000 in
set_option maxRecDepth 100000 in
theorem lc_untilHome (C : CX p m c cL_law 4 s #[Value.ref b] wsL_law RL D Y) (hX : va_X b L xs s s.heap) (hbl : b < s.heap.size) (hO : HO D Y (LA s) s.heap S H locs) (hl : lv_has ls 4 [(0, .ref b), (1, .ref x), (2, .ref mm), (3, .int i)]) (h1 : vp_in (i + Int32.ofInt 1) L) (h2 : vp_in (i + Int32.ofInt 2) L) (h3 : vp_in (i + Int32.ofInt 3) L) (h0c : cells ≤ room_1.cells ∧ slots ≤ room_1.slots) (hc : cells + 15 ≤ room_1.cells ∧ slots + 175 ≤ room_1.slots) (hi : INV S x mm) (kk : ∀ (S2 : PS) (H2 : Heap) (locs2 : List Loc), INV S2 x mm → HO D Y (LA s) s.heap S2 H2 locs2 → W p l e room_1 s m #[Value.ref b] below meth c H2 locs2 (cells + 15) (slots + 175) Q (F0 m 930 ls [])) : W p l e room_1 s m #[Value.ref b] below meth c H locs cells slots Q (F0 m 746 ls []) := by
  obtain ⟨hx, hb, hml, hown, hts⟩ := C.1
  refine lv_aload_n hx hb dL_law_746 rfl (lv_at hl 1 rfl) ?_
  refine ld_arg C hX hbl hO hl h1 dL_law_747 dL_law_748 dL_law_749 dL_law_750 dL_law_751 ?_
  have h := eq_untilHome (S := S) (x := x) (m := mm) (y := (xs (i + Int32.ofInt 1).toNatClampNeg)) hi
  obtain ⟨fs, ex⟩ := hi.cx
  refine cV_ri (As := [.int (xs (i + Int32.ofInt 1).toNatClampNeg)]) (rest := []) (n := 1) C hO (fun L0 => c_X7_untilHome l D Y L0 S H.size x ((xs (i + Int32.ofInt 1).toNatClampNeg)) _ h) 5 rfl ex (cwV 1 hts gL_law_X7_untilHome rfl rfl rfl ⟨rfl, hdS_X7_untilHome⟩ ⟨Nat.le_of_ble_eq_true rfl, Nat.le_of_ble_eq_true rfl⟩) rfl hl.1 rfl (Nat.le_of_ble_eq_true rfl) dL_law_752 h0c (fun r h => ?_)
  refine lv_aload_n hx hb dL_law_755 rfl (lv_at hl 2 rfl) ?_
  refine ld_arg C hX hbl hO hl h1 dL_law_756 dL_law_757 dL_law_758 dL_law_759 dL_law_760 ?_
  obtain ⟨fs2, e2⟩ := hi.cm
  refine cV_wi (As := [.int (xs (i + Int32.ofInt 1).toNatClampNeg)]) (rest := [.int r]) (n := 1) C hO (fun L0 => c_X8_untilHome l D Y L0 S H.size mm ((xs (i + Int32.ofInt 1).toNatClampNeg)) _ h) 6 rfl e2 (cwV 1 hts gL_law_X8_untilHome rfl rfl rfl ⟨rfl, hdS_X8_untilHome⟩ ⟨Nat.le_of_ble_eq_true rfl, Nat.le_of_ble_eq_true rfl⟩) rfl hl.1 rfl (Nat.le_of_ble_eq_true rfl) dL_law_761 h0c (fun r2 S2 H2 locs2 h hO => ?_)
  refine lv_icmp_eq (tgt := 930) hx hb dL_law_764 (by decide) (fun _ => ?_) (fun c => absurd h.1 c)
  refine W.widen (k := cells + 15) (n := slots + 175) (Nat.le_add_right _ _) (Nat.le_add_right _ _) ?_
  exact kk S2 H2 locs2 h.2 hO
set_option maxHeartbeats 4000000 in
set_option maxRecDepth 100000 in
theorem lc_bestDraft (C : CX p m c cL_law 4 s #[Value.ref b] wsL_law RL D Y) (hX : va_X b L xs s s.heap) (hbl : b < s.heap.size) (hO : HO D Y (LA s) s.heap S H locs) (hl : lv_has ls 4 [(0, .ref b), (1, .ref x), (2, .ref mm), (3, .int i)]) (h1 : vp_in (i + Int32.ofInt 1) L) (h2 : vp_in (i + Int32.ofInt 2) L) (h3 : vp_in (i + Int32.ofInt 3) L) (h0c : cells ≤ room_1.cells ∧ slots ≤ room_1.slots) (hc : cells + 15 ≤ room_1.cells ∧ slots + 175 ≤ room_1.slots) (hi : INV S x mm) (kk : ∀ (S2 : PS) (H2 : Heap) (locs2 : List Loc), INV S2 x mm → HO D Y (LA s) s.heap S2 H2 locs2 → W p l e room_1 s m #[Value.ref b] below meth c H2 locs2 (cells + 15) (slots + 175) Q (F0 m 930 ls [])) : W p l e room_1 s m #[Value.ref b] below meth c H locs cells slots Q (F0 m 769 ls []) := by
  obtain ⟨hx, hb, hml, hown, hts⟩ := C.1
  refine lv_aload_n hx hb dL_law_769 rfl (lv_at hl 1 rfl) ?_
  refine ld_arg C hX hbl hO hl h1 dL_law_770 dL_law_771 dL_law_772 dL_law_773 dL_law_774 ?_
  have h := eq_bestDraft (S := S) (x := x) (m := mm) (y := (xs (i + Int32.ofInt 1).toNatClampNeg)) hi
  obtain ⟨fs, ex⟩ := hi.cx
  refine cV_ri (As := [.int (xs (i + Int32.ofInt 1).toNatClampNeg)]) (rest := []) (n := 1) C hO (fun L0 => c_X7_bestDraft l D Y L0 S H.size x ((xs (i + Int32.ofInt 1).toNatClampNeg)) _ h) 5 rfl ex (cwV 1 hts gL_law_X7_bestDraft rfl rfl rfl ⟨rfl, hdS_X7_bestDraft⟩ ⟨Nat.le_of_ble_eq_true rfl, Nat.le_of_ble_eq_true rfl⟩) rfl hl.1 rfl (Nat.le_of_ble_eq_true rfl) dL_law_775 h0c (fun r h => ?_)
  refine lv_aload_n hx hb dL_law_778 rfl (lv_at hl 2 rfl) ?_
  refine ld_arg C hX hbl hO hl h1 dL_law_779 dL_law_780 dL_law_781 dL_law_782 dL_law_783 ?_
  obtain ⟨fs2, e2⟩ := hi.cm
  refine cV_wi (As := [.int (xs (i + Int32.ofInt 1).toNatClampNeg)]) (rest := [.int r]) (n := 1) C hO (fun L0 => c_X8_bestDraft l D Y L0 S H.size mm ((xs (i + Int32.ofInt 1).toNatClampNeg)) _ h) 6 rfl e2 (cwV 1 hts gL_law_X8_bestDraft rfl rfl rfl ⟨rfl, hdS_X8_bestDraft⟩ ⟨Nat.le_of_ble_eq_true rfl, Nat.le_of_ble_eq_true rfl⟩) rfl hl.1 rfl (Nat.le_of_ble_eq_true rfl) dL_law_784 h0c (fun r2 S2 H2 locs2 h hO => ?_)
  refine lv_icmp_eq (tgt := 930) hx hb dL_law_787 (by decide) (fun _ => ?_) (fun c => absurd h.1 c)
  refine W.widen (k := cells + 15) (n := slots + 175) (Nat.le_add_right _ _) (Nat.le_add_right _ _) ?_
  exact kk S2 H2 locs2 h.2 hO
set_option maxHeartbeats 4000000 in
set_option maxRecDepth 100000 in
theorem lc_write (C : CX p m c cL_law 4 s #[Value.ref b] wsL_law RL D Y) (hX : va_X b L xs s s.heap) (hbl : b < s.heap.size) (hO : HO D Y (LA s) s.heap S H locs) (hl : lv_has ls 4 [(0, .ref b), (1, .ref x), (2, .ref mm), (3, .int i)]) (h1 : vp_in (i + Int32.ofInt 1) L) (h2 : vp_in (i + Int32.ofInt 2) L) (h3 : vp_in (i + Int32.ofInt 3) L) (h0c : cells ≤ room_1.cells ∧ slots ≤ room_1.slots) (hc : cells + 15 ≤ room_1.cells ∧ slots + 175 ≤ room_1.slots) (hi : INV S x mm) (kk : ∀ (S2 : PS) (H2 : Heap) (locs2 : List Loc), INV S2 x mm → HO D Y (LA s) s.heap S2 H2 locs2 → W p l e room_1 s m #[Value.ref b] below meth c H2 locs2 (cells + 15) (slots + 175) Q (F0 m 930 ls [])) : W p l e room_1 s m #[Value.ref b] below meth c H locs cells slots Q (F0 m 792 ls []) := by
  obtain ⟨hx, hb, hml, hown, hts⟩ := C.1
  refine lv_aload_n hx hb dL_law_792 rfl (lv_at hl 1 rfl) ?_
  refine ld_arg C hX hbl hO hl h1 dL_law_793 dL_law_794 dL_law_795 dL_law_796 dL_law_797 ?_
  refine lv_i2l (v := (xs (i + Int32.ofInt 1).toNatClampNeg).toInt64) hx hb dL_law_798 rfl ?_
  refine lv_bipush (v := (nI 32)) hx hb dL_law_799 (by decide) ?_
  refine lv_lshl (v := (shlL ((xs (i + Int32.ofInt 1).toNatClampNeg).toInt64) (nI 32))) hx hb dL_law_801 rfl ?_
  refine ld_arg C hX hbl hO hl h2 dL_law_802 dL_law_803 dL_law_804 dL_law_805 dL_law_806 ?_
  refine lv_i2l (v := (xs (i + Int32.ofInt 2).toNatClampNeg).toInt64) hx hb dL_law_807 rfl ?_
  refine lv_ldc2 (v := (4294967295 : Int64)) hx hb hown (hts _ (List.mem_of_getElem? (i := 6) (by decide +kernel : wsL_law[6]? = some (Cond.constantLong RL 96 (4294967295))))) dL_law_808 ?_
  refine lv_land hx hb dL_law_811 ?_
  refine lv_lor hx hb dL_law_812 ?_
  have h := eq_write (S := S) (x := x) (m := mm) (w := ((shlL ((xs (i + Int32.ofInt 1).toNatClampNeg).toInt64) (nI 32)) ||| ((xs (i + Int32.ofInt 2).toNatClampNeg).toInt64 &&& (4294967295 : Int64)))) hi
  obtain ⟨fs, ex⟩ := hi.cx
  refine cV_wi (As := [.long ((shlL ((xs (i + Int32.ofInt 1).toNatClampNeg).toInt64) (nI 32)) ||| ((xs (i + Int32.ofInt 2).toNatClampNeg).toInt64 &&& (4294967295 : Int64)))]) (rest := []) (n := 1) C hO (fun L0 => c_X7_write l D Y L0 S H.size x (((shlL ((xs (i + Int32.ofInt 1).toNatClampNeg).toInt64) (nI 32)) ||| ((xs (i + Int32.ofInt 2).toNatClampNeg).toInt64 &&& (4294967295 : Int64)))) _ h) 5 rfl ex (cwV 1 hts gL_law_X7_write rfl rfl rfl ⟨rfl, hdS_X7_write⟩ ⟨Nat.le_of_ble_eq_true rfl, Nat.le_of_ble_eq_true rfl⟩) rfl hl.1 rfl (Nat.le_of_ble_eq_true rfl) dL_law_813 h0c (fun r S1 H1 locs1 h hO => ?_)
  refine lv_aload_n hx hb dL_law_816 rfl (lv_at hl 2 rfl) ?_
  refine ld_arg C hX hbl hO hl h1 dL_law_817 dL_law_818 dL_law_819 dL_law_820 dL_law_821 ?_
  refine lv_i2l (v := (xs (i + Int32.ofInt 1).toNatClampNeg).toInt64) hx hb dL_law_822 rfl ?_
  refine lv_bipush (v := (nI 32)) hx hb dL_law_823 (by decide) ?_
  refine lv_lshl (v := (shlL ((xs (i + Int32.ofInt 1).toNatClampNeg).toInt64) (nI 32))) hx hb dL_law_825 rfl ?_
  refine ld_arg C hX hbl hO hl h2 dL_law_826 dL_law_827 dL_law_828 dL_law_829 dL_law_830 ?_
  refine lv_i2l (v := (xs (i + Int32.ofInt 2).toNatClampNeg).toInt64) hx hb dL_law_831 rfl ?_
  refine lv_ldc2 (v := (4294967295 : Int64)) hx hb hown (hts _ (List.mem_of_getElem? (i := 6) (by decide +kernel : wsL_law[6]? = some (Cond.constantLong RL 96 (4294967295))))) dL_law_832 ?_
  refine lv_land hx hb dL_law_835 ?_
  refine lv_lor hx hb dL_law_836 ?_
  obtain ⟨fs2, e2, h⟩ := h
  refine cV_wi (As := [.long ((shlL ((xs (i + Int32.ofInt 1).toNatClampNeg).toInt64) (nI 32)) ||| ((xs (i + Int32.ofInt 2).toNatClampNeg).toInt64 &&& (4294967295 : Int64)))]) (rest := [.int r]) (n := 1) C hO (fun L0 => c_X8_write l D Y L0 S1 H1.size mm (((shlL ((xs (i + Int32.ofInt 1).toNatClampNeg).toInt64) (nI 32)) ||| ((xs (i + Int32.ofInt 2).toNatClampNeg).toInt64 &&& (4294967295 : Int64)))) _ h) 6 rfl e2 (cwV 1 hts gL_law_X8_write rfl rfl rfl ⟨rfl, hdS_X8_write⟩ ⟨Nat.le_of_ble_eq_true rfl, Nat.le_of_ble_eq_true rfl⟩) rfl hl.1 rfl (Nat.le_of_ble_eq_true rfl) dL_law_837 h0c (fun r2 S2 H2 locs2 h hO => ?_)
  refine lv_icmp_eq (tgt := 930) hx hb dL_law_840 (by decide) (fun _ => ?_) (fun c => absurd h.1 c)
  refine W.widen (k := cells + 15) (n := slots + 175) (Nat.le_add_right _ _) (Nat.le_add_right _ _) ?_
  exact kk S2 H2 locs2 h.2 hO
set_option maxHeartbeats 4000000 in
set_option maxRecDepth 100000 in
theorem lc_wipe (C : CX p m c cL_law 4 s #[Value.ref b] wsL_law RL D Y) (hX : va_X b L xs s s.heap) (hbl : b < s.heap.size) (hO : HO D Y (LA s) s.heap S H locs) (hl : lv_has ls 4 [(0, .ref b), (1, .ref x), (2, .ref mm), (3, .int i)]) (h1 : vp_in (i + Int32.ofInt 1) L) (h2 : vp_in (i + Int32.ofInt 2) L) (h3 : vp_in (i + Int32.ofInt 3) L) (h0c : cells ≤ room_1.cells ∧ slots ≤ room_1.slots) (hc : cells + 15 ≤ room_1.cells ∧ slots + 175 ≤ room_1.slots) (hi : INV S x mm) (kk : ∀ (S2 : PS) (H2 : Heap) (locs2 : List Loc), INV S2 x mm → HO D Y (LA s) s.heap S2 H2 locs2 → W p l e room_1 s m #[Value.ref b] below meth c H2 locs2 (cells + 15) (slots + 175) Q (F0 m 930 ls [])) : W p l e room_1 s m #[Value.ref b] below meth c H locs cells slots Q (F0 m 845 ls []) := by
  obtain ⟨hx, hb, hml, hown, hts⟩ := C.1
  refine lv_aload_n hx hb dL_law_845 rfl (lv_at hl 1 rfl) ?_
  have h := eq_wipe (S := S) (x := x) (m := mm)  hi
  obtain ⟨fs, ex⟩ := hi.cx
  refine cV_wi (As := []) (rest := []) (n := 0) C hO (fun L0 => c_X7_wipe l D Y L0 S H.size x  _ h) 5 rfl ex (cwV 0 hts gL_law_X7_wipe rfl rfl rfl ⟨rfl, hdS_X7_wipe⟩ ⟨Nat.le_of_ble_eq_true rfl, Nat.le_of_ble_eq_true rfl⟩) rfl hl.1 rfl (Nat.le_of_ble_eq_true rfl) dL_law_846 h0c (fun r S1 H1 locs1 h hO => ?_)
  refine lv_aload_n hx hb dL_law_849 rfl (lv_at hl 2 rfl) ?_
  obtain ⟨fs2, e2, h⟩ := h
  refine cV_wi (As := []) (rest := [.int r]) (n := 0) C hO (fun L0 => c_X8_wipe l D Y L0 S1 H1.size mm  _ h) 6 rfl e2 (cwV 0 hts gL_law_X8_wipe rfl rfl rfl ⟨rfl, hdS_X8_wipe⟩ ⟨Nat.le_of_ble_eq_true rfl, Nat.le_of_ble_eq_true rfl⟩) rfl hl.1 rfl (Nat.le_of_ble_eq_true rfl) dL_law_850 h0c (fun r2 S2 H2 locs2 h hO => ?_)
  refine lv_icmp_eq (tgt := 930) hx hb dL_law_853 (by decide) (fun _ => ?_) (fun c => absurd h.1 c)
  refine W.widen (k := cells + 15) (n := slots + 175) (Nat.le_add_right _ _) (Nat.le_add_right _ _) ?_
  exact kk S2 H2 locs2 h.2 hO
set_option maxHeartbeats 4000000 in
set_option maxRecDepth 100000 in
theorem lc_fault (C : CX p m c cL_law 4 s #[Value.ref b] wsL_law RL D Y) (hX : va_X b L xs s s.heap) (hbl : b < s.heap.size) (hO : HO D Y (LA s) s.heap S H locs) (hl : lv_has ls 4 [(0, .ref b), (1, .ref x), (2, .ref mm), (3, .int i)]) (h1 : vp_in (i + Int32.ofInt 1) L) (h2 : vp_in (i + Int32.ofInt 2) L) (h3 : vp_in (i + Int32.ofInt 3) L) (h0c : cells ≤ room_1.cells ∧ slots ≤ room_1.slots) (hc : cells + 15 ≤ room_1.cells ∧ slots + 175 ≤ room_1.slots) (hi : INV S x mm) (kk : ∀ (S2 : PS) (H2 : Heap) (locs2 : List Loc), INV S2 x mm → HO D Y (LA s) s.heap S2 H2 locs2 → W p l e room_1 s m #[Value.ref b] below meth c H2 locs2 (cells + 15) (slots + 175) Q (F0 m 930 ls [])) : W p l e room_1 s m #[Value.ref b] below meth c H locs cells slots Q (F0 m 858 ls []) := by
  obtain ⟨hx, hb, hml, hown, hts⟩ := C.1
  refine lv_aload_n hx hb dL_law_858 rfl (lv_at hl 1 rfl) ?_
  have h := eq_fault (S := S) (x := x) (m := mm)  hi
  obtain ⟨fs, ex⟩ := hi.cx
  refine cV_wi (As := []) (rest := []) (n := 0) C hO (fun L0 => c_X7_fault l D Y L0 S H.size x  _ h) 5 rfl ex (cwV 0 hts gL_law_X7_fault rfl rfl rfl ⟨rfl, hdS_X7_fault⟩ ⟨Nat.le_of_ble_eq_true rfl, Nat.le_of_ble_eq_true rfl⟩) rfl hl.1 rfl (Nat.le_of_ble_eq_true rfl) dL_law_859 h0c (fun r S1 H1 locs1 h hO => ?_)
  refine lv_aload_n hx hb dL_law_862 rfl (lv_at hl 2 rfl) ?_
  obtain ⟨fs2, e2, h⟩ := h
  refine cV_wi (As := []) (rest := [.int r]) (n := 0) C hO (fun L0 => c_X8_fault l D Y L0 S1 H1.size mm  _ h) 6 rfl e2 (cwV 0 hts gL_law_X8_fault rfl rfl rfl ⟨rfl, hdS_X8_fault⟩ ⟨Nat.le_of_ble_eq_true rfl, Nat.le_of_ble_eq_true rfl⟩) rfl hl.1 rfl (Nat.le_of_ble_eq_true rfl) dL_law_863 h0c (fun r2 S2 H2 locs2 h hO => ?_)
  refine lv_icmp_eq (tgt := 930) hx hb dL_law_866 (by decide) (fun _ => ?_) (fun c => absurd h.1 c)
  refine W.widen (k := cells + 15) (n := slots + 175) (Nat.le_add_right _ _) (Nat.le_add_right _ _) ?_
  exact kk S2 H2 locs2 h.2 hO
set_option maxHeartbeats 4000000 in
set_option maxRecDepth 100000 in
theorem lc_undo (C : CX p m c cL_law 4 s #[Value.ref b] wsL_law RL D Y) (hX : va_X b L xs s s.heap) (hbl : b < s.heap.size) (hO : HO D Y (LA s) s.heap S H locs) (hl : lv_has ls 4 [(0, .ref b), (1, .ref x), (2, .ref mm), (3, .int i)]) (h1 : vp_in (i + Int32.ofInt 1) L) (h2 : vp_in (i + Int32.ofInt 2) L) (h3 : vp_in (i + Int32.ofInt 3) L) (h0c : cells ≤ room_1.cells ∧ slots ≤ room_1.slots) (hc : cells + 15 ≤ room_1.cells ∧ slots + 175 ≤ room_1.slots) (hi : INV S x mm) (kk : ∀ (S2 : PS) (H2 : Heap) (locs2 : List Loc), INV S2 x mm → HO D Y (LA s) s.heap S2 H2 locs2 → W p l e room_1 s m #[Value.ref b] below meth c H2 locs2 (cells + 15) (slots + 175) Q (F0 m 930 ls [])) : W p l e room_1 s m #[Value.ref b] below meth c H locs cells slots Q (F0 m 871 ls []) := by
  obtain ⟨hx, hb, hml, hown, hts⟩ := C.1
  refine lv_aload_n hx hb dL_law_871 rfl (lv_at hl 1 rfl) ?_
  have h := eq_undo (S := S) (x := x) (m := mm)  hi
  obtain ⟨fs, ex⟩ := hi.cx
  refine cV_wi (As := []) (rest := []) (n := 0) C hO (fun L0 => c_X7_undo l D Y L0 S H.size x  _ h) 5 rfl ex (cwV 0 hts gL_law_X7_undo rfl rfl rfl ⟨rfl, hdS_X7_undo⟩ ⟨Nat.le_of_ble_eq_true rfl, Nat.le_of_ble_eq_true rfl⟩) rfl hl.1 rfl (Nat.le_of_ble_eq_true rfl) dL_law_872 h0c (fun r S1 H1 locs1 h hO => ?_)
  refine lv_aload_n hx hb dL_law_875 rfl (lv_at hl 2 rfl) ?_
  obtain ⟨fs2, e2, h⟩ := h
  refine cV_wi (As := []) (rest := [.int r]) (n := 0) C hO (fun L0 => c_X8_undo l D Y L0 S1 H1.size mm  _ h) 6 rfl e2 (cwV 0 hts gL_law_X8_undo rfl rfl rfl ⟨rfl, hdS_X8_undo⟩ ⟨Nat.le_of_ble_eq_true rfl, Nat.le_of_ble_eq_true rfl⟩) rfl hl.1 rfl (Nat.le_of_ble_eq_true rfl) dL_law_876 h0c (fun r2 S2 H2 locs2 h hO => ?_)
  refine lv_icmp_eq (tgt := 930) hx hb dL_law_879 (by decide) (fun _ => ?_) (fun c => absurd h.1 c)
  refine W.widen (k := cells + 15) (n := slots + 175) (Nat.le_add_right _ _) (Nat.le_add_right _ _) ?_
  exact kk S2 H2 locs2 h.2 hO
set_option maxHeartbeats 4000000 in
set_option maxRecDepth 100000 in
theorem lc_save (C : CX p m c cL_law 4 s #[Value.ref b] wsL_law RL D Y) (hX : va_X b L xs s s.heap) (hbl : b < s.heap.size) (hO : HO D Y (LA s) s.heap S H locs) (hl : lv_has ls 4 [(0, .ref b), (1, .ref x), (2, .ref mm), (3, .int i)]) (h1 : vp_in (i + Int32.ofInt 1) L) (h2 : vp_in (i + Int32.ofInt 2) L) (h3 : vp_in (i + Int32.ofInt 3) L) (h0c : cells ≤ room_1.cells ∧ slots ≤ room_1.slots) (hc : cells + 15 ≤ room_1.cells ∧ slots + 175 ≤ room_1.slots) (hi : INV S x mm) (kk : ∀ (S2 : PS) (H2 : Heap) (locs2 : List Loc), INV S2 x mm → HO D Y (LA s) s.heap S2 H2 locs2 → W p l e room_1 s m #[Value.ref b] below meth c H2 locs2 (cells + 15) (slots + 175) Q (F0 m 930 ls [])) : W p l e room_1 s m #[Value.ref b] below meth c H locs cells slots Q (F0 m 884 ls []) := by
  obtain ⟨hx, hb, hml, hown, hts⟩ := C.1
  refine lv_aload_n hx hb dL_law_884 rfl (lv_at hl 1 rfl) ?_
  refine ld_arg C hX hbl hO hl h1 dL_law_885 dL_law_886 dL_law_887 dL_law_888 dL_law_889 ?_
  have h := eq_save (S := S) (x := x) (m := mm) (y := (xs (i + Int32.ofInt 1).toNatClampNeg)) hi
  obtain ⟨fs, ex⟩ := hi.cx
  refine cV_wi (As := [.int (xs (i + Int32.ofInt 1).toNatClampNeg)]) (rest := []) (n := 1) C hO (fun L0 => c_X7_save l D Y L0 S H.size x ((xs (i + Int32.ofInt 1).toNatClampNeg)) _ h) 5 rfl ex (cwV 1 hts gL_law_X7_save rfl rfl rfl ⟨rfl, hdS_X7_save⟩ ⟨Nat.le_of_ble_eq_true rfl, Nat.le_of_ble_eq_true rfl⟩) rfl hl.1 rfl (Nat.le_of_ble_eq_true rfl) dL_law_890 hc (fun r S1 H1 locs1 h hO => ?_)
  refine lv_aload_n hx hb dL_law_893 rfl (lv_at hl 2 rfl) ?_
  refine ld_arg C hX hbl hO hl h1 dL_law_894 dL_law_895 dL_law_896 dL_law_897 dL_law_898 ?_
  obtain ⟨fs2, e2, h⟩ := h
  refine cV_wi (As := [.int (xs (i + Int32.ofInt 1).toNatClampNeg)]) (rest := [.int r]) (n := 1) C hO (fun L0 => c_X8_save l D Y L0 S1 H1.size mm ((xs (i + Int32.ofInt 1).toNatClampNeg)) _ h) 6 rfl e2 (cwV 1 hts gL_law_X8_save rfl rfl rfl ⟨rfl, hdS_X8_save⟩ ⟨Nat.le_of_ble_eq_true rfl, Nat.le_of_ble_eq_true rfl⟩) rfl hl.1 rfl (Nat.le_of_ble_eq_true rfl) dL_law_899 hc (fun r2 S2 H2 locs2 h hO => ?_)
  refine lv_icmp_eq (tgt := 930) hx hb dL_law_902 (by decide) (fun _ => ?_) (fun c => absurd h.1 c)
  exact kk S2 H2 locs2 h.2 hO
set_option maxHeartbeats 4000000 in
set_option maxRecDepth 100000 in
theorem lc_restore (C : CX p m c cL_law 4 s #[Value.ref b] wsL_law RL D Y) (hX : va_X b L xs s s.heap) (hbl : b < s.heap.size) (hO : HO D Y (LA s) s.heap S H locs) (hl : lv_has ls 4 [(0, .ref b), (1, .ref x), (2, .ref mm), (3, .int i)]) (h1 : vp_in (i + Int32.ofInt 1) L) (h2 : vp_in (i + Int32.ofInt 2) L) (h3 : vp_in (i + Int32.ofInt 3) L) (h0c : cells ≤ room_1.cells ∧ slots ≤ room_1.slots) (hc : cells + 15 ≤ room_1.cells ∧ slots + 175 ≤ room_1.slots) (hi : INV S x mm) (kk : ∀ (S2 : PS) (H2 : Heap) (locs2 : List Loc), INV S2 x mm → HO D Y (LA s) s.heap S2 H2 locs2 → W p l e room_1 s m #[Value.ref b] below meth c H2 locs2 (cells + 15) (slots + 175) Q (F0 m 930 ls [])) : W p l e room_1 s m #[Value.ref b] below meth c H locs cells slots Q (F0 m 907 ls []) := by
  obtain ⟨hx, hb, hml, hown, hts⟩ := C.1
  refine lv_aload_n hx hb dL_law_907 rfl (lv_at hl 1 rfl) ?_
  refine ld_arg C hX hbl hO hl h1 dL_law_908 dL_law_909 dL_law_910 dL_law_911 dL_law_912 ?_
  have h := eq_restore (S := S) (x := x) (m := mm) (y := (xs (i + Int32.ofInt 1).toNatClampNeg)) hi
  obtain ⟨fs, ex⟩ := hi.cx
  refine cV_wi (As := [.int (xs (i + Int32.ofInt 1).toNatClampNeg)]) (rest := []) (n := 1) C hO (fun L0 => c_X7_restore l D Y L0 S H.size x ((xs (i + Int32.ofInt 1).toNatClampNeg)) _ h) 5 rfl ex (cwV 1 hts gL_law_X7_restore rfl rfl rfl ⟨rfl, hdS_X7_restore⟩ ⟨Nat.le_of_ble_eq_true rfl, Nat.le_of_ble_eq_true rfl⟩) rfl hl.1 rfl (Nat.le_of_ble_eq_true rfl) dL_law_913 hc (fun r S1 H1 locs1 h hO => ?_)
  refine lv_aload_n hx hb dL_law_916 rfl (lv_at hl 2 rfl) ?_
  refine ld_arg C hX hbl hO hl h1 dL_law_917 dL_law_918 dL_law_919 dL_law_920 dL_law_921 ?_
  obtain ⟨fs2, e2, h⟩ := h
  refine cV_wi (As := [.int (xs (i + Int32.ofInt 1).toNatClampNeg)]) (rest := [.int r]) (n := 1) C hO (fun L0 => c_X8_restore l D Y L0 S1 H1.size mm ((xs (i + Int32.ofInt 1).toNatClampNeg)) _ h) 6 rfl e2 (cwV 1 hts gL_law_X8_restore rfl rfl rfl ⟨rfl, hdS_X8_restore⟩ ⟨Nat.le_of_ble_eq_true rfl, Nat.le_of_ble_eq_true rfl⟩) rfl hl.1 rfl (Nat.le_of_ble_eq_true rfl) dL_law_922 hc (fun r2 S2 H2 locs2 h hO => ?_)
  refine lv_icmp_eq (tgt := 930) hx hb dL_law_925 (by decide) (fun _ => ?_) (fun c => absurd h.1 c)
  exact kk S2 H2 locs2 h.2 hO
end LAWC2
