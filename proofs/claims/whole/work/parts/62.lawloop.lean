/-! ===== the law: its loop (printed in part by wip/whole/gen/emit_law2.py) ===== -/
theorem and31 (y : Int32) : ∃ j, j < 32 ∧ y &&& nI 31 = nI j := by
  obtain ⟨n, hn, rfl⟩ := wb_of32 y
  exact ⟨n % 32, Nat.mod_lt _ (by decide), fa_mask n 5⟩
set_option maxHeartbeats 4000000 in
set_option maxRecDepth 100000 in
theorem law_go {p : Program} {e : Env} {s : State} {m : MethodId} {below : List Frame} {meth : Method} {c : Code} (l : Launch) {b L x mm : Nat} {xs : Nat → Int32} {D : va_G} {Y : Nat → ClassId} {i : Int32} {S : PS} {H : Heap} {locs : List Loc} {cells slots j : Nat} {Q : State → Prop} {ls : Array Slot} (hj : j < 32) (C : CX p m c cL_law 4 s #[Value.ref b] wsL_law RL D Y) (hX : va_X b L xs s s.heap) (hbl : b < s.heap.size) (hO : HO D Y (LA s) s.heap S H locs) (hl : lv_has ls 4 [(0, .ref b), (1, .ref x), (2, .ref mm), (3, .int i)]) (h1 : vp_in (i + Int32.ofInt 1) L) (h2 : vp_in (i + Int32.ofInt 2) L) (h3 : vp_in (i + Int32.ofInt 3) L) (h0c : cells ≤ room_1.cells ∧ slots ≤ room_1.slots) (hc : cells + 15 ≤ room_1.cells ∧ slots + 175 ≤ room_1.slots) (hi : INV S x mm) (kk : ∀ (S2 : PS) (H2 : Heap) (locs2 : List Loc), INV S2 x mm → HO D Y (LA s) s.heap S2 H2 locs2 → W p l e room_1 s m #[Value.ref b] below meth c H2 locs2 (cells + 15) (slots + 175) Q (F0 m 930 ls [])) : W p l e room_1 s m #[Value.ref b] below meth c H locs cells slots Q (F0 m 32 ls [.int (nI j)]) := by
  obtain ⟨hx, hb, hml, hown, hts⟩ := C.1
  have hz := nI_toInt (n := j) (by omega)
  rcases (by omega : 26 ≤ j ∨ j = 0 ∨ j = 1 ∨ j = 2 ∨ j = 3 ∨ j = 4 ∨ j = 5 ∨ j = 6 ∨ j = 7 ∨ j = 8 ∨ j = 9 ∨ j = 10 ∨ j = 11 ∨ j = 12 ∨ j = 13 ∨ j = 14 ∨ j = 15 ∨ j = 16 ∨ j = 17 ∨ j = 18 ∨ j = 19 ∨ j = 20 ∨ j = 21 ∨ j = 22 ∨ j = 23 ∨ j = 24 ∨ j = 25) with z | rfl | rfl | rfl | rfl | rfl | rfl | rfl | rfl | rfl | rfl | rfl | rfl | rfl | rfl | rfl | rfl | rfl | rfl | rfl | rfl | rfl | rfl | rfl | rfl | rfl | rfl
  · refine lv_tableOut (tgt := 930) hx hb dL_law_32 (Or.inr (by rw [hz]; omega)) (by decide) ?_
    refine W.widen (k := cells + 15) (n := slots + 175) (Nat.le_add_right _ _) (Nat.le_add_right _ _) ?_
    exact kk S H locs hi hO
  · exact lv_tableIn (tgt := 152) (off := 120) hx hb dL_law_32 (by rw [hz]; decide) (by rw [hz]; decide) (by rw [hz]; rfl) (by decide) (lc_put C hX hbl hO hl h1 h2 h3 h0c hc hi kk)
  · exact lv_tableIn (tgt := 185) (off := 153) hx hb dL_law_32 (by rw [hz]; decide) (by rw [hz]; decide) (by rw [hz]; rfl) (by decide) (lc_tie C hX hbl hO hl h1 h2 h3 h0c hc hi kk)
  · exact lv_tableIn (tgt := 218) (off := 186) hx hb dL_law_32 (by rw [hz]; decide) (by rw [hz]; decide) (by rw [hz]; rfl) (by decide) (lc_read C hX hbl hO hl h1 h2 h3 h0c hc hi kk)
  · exact lv_tableIn (tgt := 241) (off := 209) hx hb dL_law_32 (by rw [hz]; decide) (by rw [hz]; decide) (by rw [hz]; rfl) (by decide) (lc_compose C hX hbl hO hl h1 h2 h3 h0c hc hi kk)
  · exact lv_tableIn (tgt := 284) (off := 252) hx hb dL_law_32 (by rw [hz]; decide) (by rw [hz]; decide) (by rw [hz]; rfl) (by decide) (lc_turnRound C hX hbl hO hl h1 h2 h3 h0c hc hi kk)
  · exact lv_tableIn (tgt := 317) (off := 285) hx hb dL_law_32 (by rw [hz]; decide) (by rw [hz]; decide) (by rw [hz]; rfl) (by decide) (lc_repeat C hX hbl hO hl h1 h2 h3 h0c hc hi kk)
  · exact lv_tableIn (tgt := 360) (off := 328) hx hb dL_law_32 (by rw [hz]; decide) (by rw [hz]; decide) (by rw [hz]; rfl) (by decide) (lc_weave C hX hbl hO hl h1 h2 h3 h0c hc hi kk)
  · exact lv_tableIn (tgt := 393) (off := 361) hx hb dL_law_32 (by rw [hz]; decide) (by rw [hz]; decide) (by rw [hz]; rfl) (by decide) (lc_dye C hX hbl hO hl h1 h2 h3 h0c hc hi kk)
  · exact lv_tableIn (tgt := 426) (off := 394) hx hb dL_law_32 (by rw [hz]; decide) (by rw [hz]; decide) (by rw [hz]; rfl) (by decide) (lc_place C hX hbl hO hl h1 h2 h3 h0c hc hi kk)
  · exact lv_tableIn (tgt := 459) (off := 427) hx hb dL_law_32 (by rw [hz]; decide) (by rw [hz]; decide) (by rw [hz]; rfl) (by decide) (lc_treadle C hX hbl hO hl h1 h2 h3 h0c hc hi kk)
  · exact lv_tableIn (tgt := 492) (off := 460) hx hb dL_law_32 (by rw [hz]; decide) (by rw [hz]; decide) (by rw [hz]; rfl) (by decide) (lc_draft C hX hbl hO hl h1 h2 h3 h0c hc hi kk)
  · exact lv_tableIn (tgt := 525) (off := 493) hx hb dL_law_32 (by rw [hz]; decide) (by rw [hz]; decide) (by rw [hz]; rfl) (by decide) (lc_press C hX hbl hO hl h1 h2 h3 h0c hc hi kk)
  · exact lv_tableIn (tgt := 558) (off := 526) hx hb dL_law_32 (by rw [hz]; decide) (by rw [hz]; decide) (by rw [hz]; rfl) (by decide) (lc_comesTo C hX hbl hO hl h1 h2 h3 h0c hc hi kk)
  · exact lv_tableIn (tgt := 601) (off := 569) hx hb dL_law_32 (by rw [hz]; decide) (by rw [hz]; decide) (by rw [hz]; rfl) (by decide) (lc_count C hX hbl hO hl h1 h2 h3 h0c hc hi kk)
  · exact lv_tableIn (tgt := 624) (off := 592) hx hb dL_law_32 (by rw [hz]; decide) (by rw [hz]; decide) (by rw [hz]; rfl) (by decide) (lc_kernel C hX hbl hO hl h1 h2 h3 h0c hc hi kk)
  · exact lv_tableIn (tgt := 647) (off := 615) hx hb dL_law_32 (by rw [hz]; decide) (by rw [hz]; decide) (by rw [hz]; rfl) (by decide) (lc_orbit C hX hbl hO hl h1 h2 h3 h0c hc hi kk)
  · exact lv_tableIn (tgt := 680) (off := 648) hx hb dL_law_32 (by rw [hz]; decide) (by rw [hz]; decide) (by rw [hz]; rfl) (by decide) (lc_pair C hX hbl hO hl h1 h2 h3 h0c hc hi kk)
  · exact lv_tableIn (tgt := 723) (off := 691) hx hb dL_law_32 (by rw [hz]; decide) (by rw [hz]; decide) (by rw [hz]; rfl) (by decide) (lc_ways C hX hbl hO hl h1 h2 h3 h0c hc hi kk)
  · exact lv_tableIn (tgt := 746) (off := 714) hx hb dL_law_32 (by rw [hz]; decide) (by rw [hz]; decide) (by rw [hz]; rfl) (by decide) (lc_untilHome C hX hbl hO hl h1 h2 h3 h0c hc hi kk)
  · exact lv_tableIn (tgt := 769) (off := 737) hx hb dL_law_32 (by rw [hz]; decide) (by rw [hz]; decide) (by rw [hz]; rfl) (by decide) (lc_bestDraft C hX hbl hO hl h1 h2 h3 h0c hc hi kk)
  · exact lv_tableIn (tgt := 792) (off := 760) hx hb dL_law_32 (by rw [hz]; decide) (by rw [hz]; decide) (by rw [hz]; rfl) (by decide) (lc_write C hX hbl hO hl h1 h2 h3 h0c hc hi kk)
  · exact lv_tableIn (tgt := 845) (off := 813) hx hb dL_law_32 (by rw [hz]; decide) (by rw [hz]; decide) (by rw [hz]; rfl) (by decide) (lc_wipe C hX hbl hO hl h1 h2 h3 h0c hc hi kk)
  · exact lv_tableIn (tgt := 858) (off := 826) hx hb dL_law_32 (by rw [hz]; decide) (by rw [hz]; decide) (by rw [hz]; rfl) (by decide) (lc_fault C hX hbl hO hl h1 h2 h3 h0c hc hi kk)
  · exact lv_tableIn (tgt := 871) (off := 839) hx hb dL_law_32 (by rw [hz]; decide) (by rw [hz]; decide) (by rw [hz]; rfl) (by decide) (lc_undo C hX hbl hO hl h1 h2 h3 h0c hc hi kk)
  · exact lv_tableIn (tgt := 884) (off := 852) hx hb dL_law_32 (by rw [hz]; decide) (by rw [hz]; decide) (by rw [hz]; rfl) (by decide) (lc_save C hX hbl hO hl h1 h2 h3 h0c hc hi kk)
  · exact lv_tableIn (tgt := 907) (off := 875) hx hb dL_law_32 (by rw [hz]; decide) (by rw [hz]; decide) (by rw [hz]; rfl) (by decide) (lc_restore C hX hbl hO hl h1 h2 h3 h0c hc hi kk)
set_option maxHeartbeats 4000000 in
set_option maxRecDepth 100000 in
theorem law_loop {p : Program} {e : Env} {s : State} {m : MethodId} {below : List Frame} {meth : Method} {c : Code} (l : Launch) {b L x mm : Nat} {xs : Nat → Int32} {D : va_G} {Y : Nat → ClassId} (hL : L ≤ 2048) (C0 : lw_At p s m meth c b L xs) (C : CX p m c cL_law 4 s #[Value.ref b] wsL_law RL D Y) : ∀ (d k : Nat), k + d = 513 → 4 * k ≤ L → ∀ (S : PS) (H : Heap) (locs : List Loc) (ls : Array Slot), INV S x mm → HO D Y (LA s) s.heap S H locs → lv_has ls 4 [(0, .ref b), (1, .ref x), (2, .ref mm), (3, .int (nI (4 * k)))] → W p l e room_1 s m #[Value.ref b] below meth c H locs (38 + 15 * k) (7118 + 175 * k) (lw_Z below #[Value.ref b] s) (F0 m 18 ls []) := by
  intro d
  induction d with
  | zero => intro k hk h4; omega
  | succ d ih =>
    intro k hk h4 S H locs ls hi hO hl
    obtain ⟨hx, hb, hml, hown, hts⟩ := C.1
    obtain ⟨-, -, hr, -, -, hT, hX, hbl, hlocks, hgv⟩ := id C0
    refine lv_iload_n hx hb dL_law_18 rfl (lv_at hl 3 rfl) ?_
    refine lv_aload_n hx hb dL_law_19 rfl (lv_at hl 0 rfl) ?_
    refine va_slen hx hb hX hbl (Nat.not_le.mpr hbl) hO.s dL_law_20 ?_
    refine lv_iconst (v := nI 4) hx hb dL_law_21 (by decide) ?_
    refine lv_isub hx hb dL_law_22 ?_
    refine lv_icmp_gt (tgt := 936) hx hb dL_law_23 (by decide) (fun c1 => ?_) (fun c1 => ?_)
    · refine lv_iconst (v := 1) hx hb dL_law_936 (by decide) ?_
      refine va_forget hO.lc ?_
      refine W.widen (k := 600000) (n := 7302250) (by omega) (by omega) ?_
      exact lw_ret hx hb hr hlocks dL_law_937
    · have c1 : ¬ (nI L - nI 4) < nI (4 * k) := c1
      rw [fa_lt, pk_sub_toInt (by omega) (by decide), nI_toInt (by omega)] at c1
      have hk4 : 4 * k + 4 ≤ L := by omega
      have e1 : Int32.ofInt 1 = nI 1 := by decide
      have e2 : Int32.ofInt 2 = nI 2 := by decide
      have e3 : Int32.ofInt 3 = nI 3 := by decide
      have e4 : Int32.ofInt 4 = nI 4 := by decide
      have g4 : nI (4 * k) + nI 4 = nI (4 * (k + 1)) := by rw [show 4 * (k + 1) = 4 * k + 4 by omega, nI_add]
      have h0 : vp_in (nI (4 * k)) L := vp_in_nI (by omega) (by omega)
      have h1 : vp_in (nI (4 * k) + Int32.ofInt 1) L := by rw [e1, nI_add]; exact vp_in_nI (by omega) (by omega)
      have h2 : vp_in (nI (4 * k) + Int32.ofInt 2) L := by rw [e2, nI_add]; exact vp_in_nI (by omega) (by omega)
      have h3 : vp_in (nI (4 * k) + Int32.ofInt 3) L := by rw [e3, nI_add]; exact vp_in_nI (by omega) (by omega)
      refine lv_aload_n hx hb dL_law_26 rfl (lv_at hl 0 rfl) ?_
      refine lv_iload_n hx hb dL_law_27 rfl (lv_at hl 3 rfl) ?_
      refine va_sld hx hb hX hbl (Nat.not_le.mpr hbl) hO.s h0 dL_law_28 ?_
      refine lv_bipush (v := nI 31) hx hb dL_law_29 (by decide) ?_
      refine lv_iand hx hb dL_law_31 ?_
      obtain ⟨j, hj, ej⟩ := and31 (xs (nI (4 * k)).toNatClampNeg)
      rw [ej]
      refine law_go l hj C hX hbl hO hl h1 h2 h3 ⟨show 38 + 15 * k ≤ 600000 by omega, show 7118 + 175 * k ≤ 7302250 by omega⟩ ⟨show 38 + 15 * k + 15 ≤ 600000 by omega, show 7118 + 175 * k + 175 ≤ 7302250 by omega⟩ hi (fun S2 H2 locs2 hi2 hO2 => ?_)
      refine lv_iinc (v := nI (4 * (k + 1))) (lv' := [(3, .int (nI (4 * (k + 1)))), (0, .ref b), (1, .ref x), (2, .ref mm)]) hx hb dL_law_930 hl (k := 3) rfl (by rw [e4]; exact g4) (by decide) rfl (fun ls2 hl2 => ?_)
      refine lv_goto (tgt := 18) hx hb dL_law_933 (by decide) ?_
      have := ih (k + 1) (by omega) (by omega) S2 H2 locs2 ls2 hi2 hO2 (lv_sub hl2 [1, 2, 3, 0] rfl)
      rw [show 38 + 15 * (k + 1) = 38 + 15 * k + 15 by omega, show 7118 + 175 * (k + 1) = 7118 + 175 * k + 175 by omega] at this
      exact this
set_option maxHeartbeats 4000000 in
set_option maxRecDepth 100000 in
theorem whole_start {p : Program} {e : Env} {s : State} {m : MethodId} {below : List Frame} {meth : Method} {c : Code} (l : Launch) (hflags : l.flags = flags0) {b L : Nat} {xs : Nat → Int32} (hL : L ≤ 2048) (C0 : lw_At p s m meth c b L xs) : W p l e room_1 s m #[Value.ref b] below meth c s.heap [] 0 0 (lw_Z below #[Value.ref b] s) (entryFrame m ([Value.ref b] : List Value).toArray 4) := by
  obtain ⟨hx, hb, hr, hml, hown, hT, hX, hbl, hlocks, hgv⟩ := id C0
  have hts : ∀ w ∈ wsL_law, w.before #[Value.ref b] s = true := fun w hw => hT w (wsL_law_in w hw)
  obtain ⟨D, Y, hK⟩ := law_K hT
  have CF : CallFix p m c cL_law 4 s #[Value.ref b] wsL_law RL := ⟨hx, hb, hml, hown, hts⟩
  have C : CX p m c cL_law 4 s #[Value.ref b] wsL_law RL D Y := ⟨CF, hK, law_NZ hT⟩
  have hO : HO D Y (LA s) s.heap (fun _ => oJ) s.heap [] := HO.void
  have hl := lv_entry ([.ref b]) (n := 4) (Nat.le_of_ble_eq_true rfl)
  rw [lg_entry_eq]
  generalize (lg_sl ([.ref b]) ++ List.replicate (4 - (lg_sl ([.ref b])).length) Slot.unset).toArray = ls at hl ⊢
  have hl : lv_has ls 4 [(0, .ref b)] := hl
  refine r_new C hO 5 [.null, .null, .null, .null, .null, .null] rfl inlX7 tyX7_ok (fun j hj => by have hj : j < 6 := hj; rcases (show j = 0 ∨ j = 1 ∨ j = 2 ∨ j = 3 ∨ j = 4 ∨ j = 5 by omega) with rfl | rfl | rfl | rfl | rfl | rfl <;> rfl) (N := 6) rfl (List.mem_of_getElem? (i := 0) (by decide +kernel : wsL_law[0]? = some (Cond.classLink RL 7 RX7))) (List.mem_of_getElem? (i := 1) (by decide +kernel : wsL_law[1]? = some (Cond.instantiable RX7 6))) (List.mem_of_getElem? (i := 2) (by decide +kernel : wsL_law[2]? = some (Cond.initialized RX7))) (Nat.le_of_ble_eq_true rfl) (Nat.le_of_ble_eq_true rfl) dL_law_0 (fun a1 H1 hq1 hO => ?_)
  obtain ⟨S1, eS1⟩ : ∃ Sx : PS, Sx = va_up (fun _ => oJ) a1 (.inl (5, [.null, .null, .null, .null, .null, .null])) := ⟨_, rfl⟩
  rw [← eS1] at hO
  have e1 : S1 a1 = .inl (5, [.null, .null, .null, .null, .null, .null]) := by rw [eS1]; exact up_s _ _ _
  refine lv_dup hx hb dL_law_3 rfl ?_
  have h := tk_new (P := fun S2 => ∃ tg' ad, TkF S2 tg' a1 ad (fun _ => none) (fun _ => none) v0 [] (fun _ => none) []) (tg := fun _ => (a1, 20)) e1 rfl (fun S' tg' ad ht _ => ⟨tg', ad, ht⟩)
  refine cI_wv (As := []) (rest := [.ref a1]) (n := 0) C hO (fun L0 => c_X7_init l D Y L0 S1 H1.size a1 _ h) (by rw [e1]; exact l_ne_oJ (by decide)) (cwI 0 hts gL_law_X7_init rfl rfl rfl (hts _ (List.mem_of_getElem? (i := 2) (by decide +kernel : wsL_law[2]? = some (Cond.initialized RX7)))) (hts _ (List.mem_of_getElem? (i := 7) (by decide +kernel : wsL_law[7]? = some (Cond.methodLink RL 9 yX7_init)))) (hts _ (List.mem_of_getElem? (i := 8) (by decide +kernel : wsL_law[8]? = some (Cond.instanceMethod yX7_init)))) rfl hdS_X7_init ⟨Nat.le_of_ble_eq_true rfl, Nat.le_of_ble_eq_true rfl⟩) rfl hl.1 rfl (Nat.le_of_ble_eq_true rfl) dL_law_4 ⟨Nat.le_of_ble_eq_true rfl, Nat.le_of_ble_eq_true rfl⟩ (fun S2 H2 locs2 h hO => ?_)
  refine lv_astore_n (lv' := [(1, .ref a1), (0, .ref b)]) hx hb dL_law_7 rfl hl (by decide) rfl (fun ls hl => ?_)
  refine r_new C hO 6 [.null, .null, .int 0, .null, .null, .null, .int 0, .int 0, .null, .int 0, .null, .null, .null, .null, .int 0] rfl inlX8 tyX8_ok (fun j hj => by have hj : j < 15 := hj; rcases (show j = 0 ∨ j = 1 ∨ j = 2 ∨ j = 3 ∨ j = 4 ∨ j = 5 ∨ j = 6 ∨ j = 7 ∨ j = 8 ∨ j = 9 ∨ j = 10 ∨ j = 11 ∨ j = 12 ∨ j = 13 ∨ j = 14 by omega) with rfl | rfl | rfl | rfl | rfl | rfl | rfl | rfl | rfl | rfl | rfl | rfl | rfl | rfl | rfl <;> rfl) (N := 15) rfl (List.mem_of_getElem? (i := 3) (by decide +kernel : wsL_law[3]? = some (Cond.classLink RL 10 RX8))) (List.mem_of_getElem? (i := 4) (by decide +kernel : wsL_law[4]? = some (Cond.instantiable RX8 15))) (List.mem_of_getElem? (i := 5) (by decide +kernel : wsL_law[5]? = some (Cond.initialized RX8))) (Nat.le_of_ble_eq_true rfl) (Nat.le_of_ble_eq_true rfl) dL_law_8 (fun a2 H3 hq2 hO => ?_)
  refine lv_dup hx hb dL_law_11 rfl ?_
  obtain ⟨tg', ad, ht⟩ := h
  have h := inv_new (P := fun S' => INV S' a1 a2) ht hq2 (fun S' hi => hi)
  refine cI_wv (As := []) (rest := [.ref a2]) (n := 0) C hO (fun L0 => c_X8_init l D Y L0 _ H3.size a2 _ h) (by rw [up_s]; exact l_ne_oJ (by decide)) (cwI 0 hts gL_law_X8_init rfl rfl rfl (hts _ (List.mem_of_getElem? (i := 5) (by decide +kernel : wsL_law[5]? = some (Cond.initialized RX8)))) (hts _ (List.mem_of_getElem? (i := 75) (by decide +kernel : wsL_law[75]? = some (Cond.methodLink RL 12 yX8_init)))) (hts _ (List.mem_of_getElem? (i := 76) (by decide +kernel : wsL_law[76]? = some (Cond.instanceMethod yX8_init)))) rfl hdS_X8_init ⟨Nat.le_of_ble_eq_true rfl, Nat.le_of_ble_eq_true rfl⟩) rfl hl.1 rfl (Nat.le_of_ble_eq_true rfl) dL_law_12 ⟨Nat.le_of_ble_eq_true rfl, Nat.le_of_ble_eq_true rfl⟩ (fun S4 H4 locs4 hi hO => ?_)
  refine lv_astore_n (lv' := [(2, .ref a2), (1, .ref a1), (0, .ref b)]) hx hb dL_law_15 rfl hl (by decide) rfl (fun ls hl => ?_)
  refine lv_iconst (v := nI 0) hx hb dL_law_16 (by decide) ?_
  refine lv_istore_n (lv' := [(3, .int (nI 0)), (2, .ref a2), (1, .ref a1), (0, .ref b)]) hx hb dL_law_17 rfl hl (by decide) rfl (fun ls hl => ?_)
  refine W.widen (k := 38 + 15 * 0) (n := 7118 + 175 * 0) (Nat.le_of_ble_eq_true rfl) (Nat.le_of_ble_eq_true rfl) ?_
  exact law_loop l hL C0 C 513 0 rfl (Nat.zero_le _) S4 H4 locs4 ls hi hO (lv_sub hl [3, 2, 1, 0] rfl)
