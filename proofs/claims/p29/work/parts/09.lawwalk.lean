/-! ===== the law: its walk (printed by wip/p29/gen/emit_law.py) ===== -/
set_option maxHeartbeats 16000000 in
set_option maxRecDepth 100000 in
theorem law_walk {p : Program} {e : Env} {s : State} {m : MethodId} {below : List Frame} {meth : Method} {c : Code} (l : Launch) {b n0 : Nat} {xs : Nat → Int32} (hN : n0 ≤ 260) (C0 : lw_At p s m meth c b n0 xs) (h : wp_L_law xs n0 (fun _ => oJ)) : W p l e room_1 s m #[Value.ref b] below meth c s.heap [] 0 0 (lw_Z below #[Value.ref b] s) (entryFrame m ([Value.ref b] : List Value).toArray 19) := by
  obtain ⟨hx, hb, hr, hml, hown, hT, hX, hbl, hlocks, hgv⟩ := id C0
  have hN31 : n0 < 2 ^ 31 := by omega
  have hts : ∀ w ∈ wsL_law, w.before #[Value.ref b] s = true := fun w hw => hT w (wsL_law_in w hw)
  obtain ⟨D, Y, hK⟩ := law_K hT
  have hZ : NZ s := law_NZ hT
  have CF : CallFix p m c cL_law 19 s #[Value.ref b] wsL_law RL := ⟨hx, hb, hml, hown, hts⟩
  have C : CX p m c cL_law 19 s #[Value.ref b] wsL_law RL D Y := ⟨CF, hK, hZ⟩
  obtain ⟨S, eS⟩ : ∃ S : PS, S = fun _ => oJ := ⟨_, rfl⟩
  rw [← eS] at h
  have hO : HO D Y (LA s) s.heap S s.heap [] := by rw [eS]; exact HO.void
  have inX7 : ∀ w ∈ wsX70, w ∈ wsL_law := inlX7
  have hl := lv_entry ([.ref b]) (n := 19) (Nat.le_of_ble_eq_true rfl)
  rw [lg_entry_eq]
  generalize (lg_sl ([.ref b]) ++ List.replicate (19 - (lg_sl ([.ref b])).length) Slot.unset).toArray = ls at hl ⊢
  have hl : lv_has ls 19 [(0, .ref b)] := hl
  unfold wp_L_law at h
  refine r_new C hO 5 [.null, .null, .null, .null, .null, .null] rfl inX7 tyX7_ok (fun j hj => by have hj : j < 6 := hj; rcases (show j = 0 ∨ j = 1 ∨ j = 2 ∨ j = 3 ∨ j = 4 ∨ j = 5 by omega) with rfl | rfl | rfl | rfl | rfl | rfl <;> rfl) (N := 6) rfl (List.mem_of_getElem? (i := 0) (by decide +kernel)) (List.mem_of_getElem? (i := 1) (by decide +kernel)) (List.mem_of_getElem? (i := 2) (by decide +kernel)) (Nat.le_of_ble_eq_true rfl) (Nat.le_of_ble_eq_true rfl) dL_law_0 (fun a1 H hqa1 hO => ?_)
  obtain ⟨S2, eS2⟩ : ∃ Sx, Sx = va_up S a1 (.inl (5, [.null, .null, .null, .null, .null, .null])) := ⟨_, rfl⟩
  rw [← eS2] at hO
  have h := h a1 hqa1 S2 eS2
  refine lv_dup hx hb dL_law_3 rfl ?_
  obtain ⟨e4, h⟩ := h
  refine cI_wv (As := []) (rest := [.ref a1]) (n := 0) C hO (fun L => c_X7_init l D Y L S2 H.size a1 _ h) e4 (cwI 0 hts gL_law_X7_init rfl rfl rfl (hts _ (List.mem_of_getElem? (i := 2) (by decide +kernel : wsL_law[2]? = some (Cond.initialized RX7)))) (hts _ (List.mem_of_getElem? (i := 5) (by decide +kernel : wsL_law[5]? = some (Cond.methodLink RL 139 yX7_init)))) (hts _ (List.mem_of_getElem? (i := 6) (by decide +kernel : wsL_law[6]? = some (Cond.instanceMethod yX7_init)))) rfl hdS_X7_init ⟨Nat.le_of_ble_eq_true rfl, Nat.le_of_ble_eq_true rfl⟩) rfl hl.1 rfl (Nat.le_of_ble_eq_true rfl) dL_law_4 ⟨(Nat.le_of_ble_eq_true rfl), (Nat.le_of_ble_eq_true rfl)⟩ (fun S3 H locs h hO => ?_)
  refine lv_astore_n (lv' := [(1, .ref a1), (0, .ref b)]) hx hb dL_law_7 rfl hl (by decide) rfl (fun ls hl => ?_)
  refine lv_bipush (v := (nI 12)) hx hb dL_law_8 (by decide) ?_
  refine r_newa (k := 1) (ty := .int) (N' := 12) C hO (by intro C h; cases h) rfl rfl (List.mem_of_getElem? (i := 3) (by decide +kernel)) (12, .inl (fun _ => 0)) (fun _ => rfl) (by decide) (by decide) (Nat.le_of_ble_eq_true rfl) (Nat.le_of_ble_eq_true rfl) (Nat.le_of_ble_eq_true rfl) dL_law_10 (fun a5 H hqa5 hO => ?_)
  obtain ⟨S6, eS6⟩ : ∃ Sx, Sx = va_up S3 a5 (aI 12 (fun _ => 0)) := ⟨_, rfl⟩
  have hO := (show HO D Y (LA s) s.heap (va_up S3 a5 (aI 12 (fun _ => 0))) H _ from hO)
  rw [← eS6] at hO
  have h := h a5 hqa5 S6 eS6
  refine lv_astore_n (lv' := [(2, .ref a5), (1, .ref a1), (0, .ref b)]) hx hb dL_law_12 rfl hl (by decide) rfl (fun ls hl => ?_)
  refine lv_bipush (v := (nI 6)) hx hb dL_law_13 (by decide) ?_
  refine r_newa (k := 1) (ty := .int) (N' := 6) C hO (by intro C h; cases h) rfl rfl (List.mem_of_getElem? (i := 3) (by decide +kernel)) (6, .inl (fun _ => 0)) (fun _ => rfl) (by decide) (by decide) (Nat.le_of_ble_eq_true rfl) (Nat.le_of_ble_eq_true rfl) (Nat.le_of_ble_eq_true rfl) dL_law_15 (fun a7 H hqa7 hO => ?_)
  obtain ⟨S8, eS8⟩ : ∃ Sx, Sx = va_up S6 a7 (aI 6 (fun _ => 0)) := ⟨_, rfl⟩
  have hO := (show HO D Y (LA s) s.heap (va_up S6 a7 (aI 6 (fun _ => 0))) H _ from hO)
  rw [← eS8] at hO
  have h := h a7 hqa7 S8 eS8
  refine lv_astore_n (lv' := [(3, .ref a7), (2, .ref a5), (1, .ref a1), (0, .ref b)]) hx hb dL_law_17 rfl hl (by decide) rfl (fun ls hl => ?_)
  refine lv_bipush (v := (nI 12)) hx hb dL_law_18 (by decide) ?_
  refine r_newa (k := 1) (ty := .int) (N' := 12) C hO (by intro C h; cases h) rfl rfl (List.mem_of_getElem? (i := 3) (by decide +kernel)) (12, .inl (fun _ => 0)) (fun _ => rfl) (by decide) (by decide) (Nat.le_of_ble_eq_true rfl) (Nat.le_of_ble_eq_true rfl) (Nat.le_of_ble_eq_true rfl) dL_law_20 (fun a9 H hqa9 hO => ?_)
  obtain ⟨S10, eS10⟩ : ∃ Sx, Sx = va_up S8 a9 (aI 12 (fun _ => 0)) := ⟨_, rfl⟩
  have hO := (show HO D Y (LA s) s.heap (va_up S8 a9 (aI 12 (fun _ => 0))) H _ from hO)
  rw [← eS10] at hO
  have h := h a9 hqa9 S10 eS10
  refine lv_astore (lv' := [(4, .ref a9), (3, .ref a7), (2, .ref a5), (1, .ref a1), (0, .ref b)]) hx hb dL_law_22 hl (by decide) rfl (fun ls hl => ?_)
  refine lv_bipush (v := (nI 12)) hx hb dL_law_24 (by decide) ?_
  refine r_newa (k := 1) (ty := .int) (N' := 12) C hO (by intro C h; cases h) rfl rfl (List.mem_of_getElem? (i := 3) (by decide +kernel)) (12, .inl (fun _ => 0)) (fun _ => rfl) (by decide) (by decide) (Nat.le_of_ble_eq_true rfl) (Nat.le_of_ble_eq_true rfl) (Nat.le_of_ble_eq_true rfl) dL_law_26 (fun a11 H hqa11 hO => ?_)
  obtain ⟨S12, eS12⟩ : ∃ Sx, Sx = va_up S10 a11 (aI 12 (fun _ => 0)) := ⟨_, rfl⟩
  have hO := (show HO D Y (LA s) s.heap (va_up S10 a11 (aI 12 (fun _ => 0))) H _ from hO)
  rw [← eS12] at hO
  have h := h a11 hqa11 S12 eS12
  refine lv_astore (lv' := [(5, .ref a11), (4, .ref a9), (3, .ref a7), (2, .ref a5), (1, .ref a1), (0, .ref b)]) hx hb dL_law_28 hl (by decide) rfl (fun ls hl => ?_)
  refine lv_bipush (v := (nI 8)) hx hb dL_law_30 (by decide) ?_
  refine r_newa (k := 1) (ty := .int) (N' := 8) C hO (by intro C h; cases h) rfl rfl (List.mem_of_getElem? (i := 3) (by decide +kernel)) (8, .inl (fun _ => 0)) (fun _ => rfl) (by decide) (by decide) (Nat.le_of_ble_eq_true rfl) (Nat.le_of_ble_eq_true rfl) (Nat.le_of_ble_eq_true rfl) dL_law_32 (fun a13 H hqa13 hO => ?_)
  obtain ⟨S14, eS14⟩ : ∃ Sx, Sx = va_up S12 a13 (aI 8 (fun _ => 0)) := ⟨_, rfl⟩
  have hO := (show HO D Y (LA s) s.heap (va_up S12 a13 (aI 8 (fun _ => 0))) H _ from hO)
  rw [← eS14] at hO
  have h := h a13 hqa13 S14 eS14
  refine lv_astore (lv' := [(6, .ref a13), (5, .ref a11), (4, .ref a9), (3, .ref a7), (2, .ref a5), (1, .ref a1), (0, .ref b)]) hx hb dL_law_34 hl (by decide) rfl (fun ls hl => ?_)
  refine lv_bipush (v := (nI 18)) hx hb dL_law_36 (by decide) ?_
  refine r_newa (k := 1) (ty := .int) (N' := 18) C hO (by intro C h; cases h) rfl rfl (List.mem_of_getElem? (i := 3) (by decide +kernel)) (18, .inl (fun _ => 0)) (fun _ => rfl) (by decide) (by decide) (Nat.le_of_ble_eq_true rfl) (Nat.le_of_ble_eq_true rfl) (Nat.le_of_ble_eq_true rfl) dL_law_38 (fun a15 H hqa15 hO => ?_)
  obtain ⟨S16, eS16⟩ : ∃ Sx, Sx = va_up S14 a15 (aI 18 (fun _ => 0)) := ⟨_, rfl⟩
  have hO := (show HO D Y (LA s) s.heap (va_up S14 a15 (aI 18 (fun _ => 0))) H _ from hO)
  rw [← eS16] at hO
  have h := h a15 hqa15 S16 eS16
  refine lv_astore (lv' := [(7, .ref a15), (6, .ref a13), (5, .ref a11), (4, .ref a9), (3, .ref a7), (2, .ref a5), (1, .ref a1), (0, .ref b)]) hx hb dL_law_40 hl (by decide) rfl (fun ls hl => ?_)
  refine lv_bipush (v := (nI 24)) hx hb dL_law_42 (by decide) ?_
  refine r_newa (k := 1) (ty := .int) (N' := 24) C hO (by intro C h; cases h) rfl rfl (List.mem_of_getElem? (i := 3) (by decide +kernel)) (24, .inl (fun _ => 0)) (fun _ => rfl) (by decide) (by decide) (Nat.le_of_ble_eq_true rfl) (Nat.le_of_ble_eq_true rfl) (Nat.le_of_ble_eq_true rfl) dL_law_44 (fun a17 H hqa17 hO => ?_)
  obtain ⟨S18, eS18⟩ : ∃ Sx, Sx = va_up S16 a17 (aI 24 (fun _ => 0)) := ⟨_, rfl⟩
  have hO := (show HO D Y (LA s) s.heap (va_up S16 a17 (aI 24 (fun _ => 0))) H _ from hO)
  rw [← eS18] at hO
  have h := h a17 hqa17 S18 eS18
  refine lv_astore (lv' := [(8, .ref a17), (7, .ref a15), (6, .ref a13), (5, .ref a11), (4, .ref a9), (3, .ref a7), (2, .ref a5), (1, .ref a1), (0, .ref b)]) hx hb dL_law_46 hl (by decide) rfl (fun ls hl => ?_)
  refine lv_iconst (v := (nI 0)) hx hb dL_law_48 (by decide) ?_
  refine lv_istore (lv' := [(9, .int (nI 0)), (8, .ref a17), (7, .ref a15), (6, .ref a13), (5, .ref a11), (4, .ref a9), (3, .ref a7), (2, .ref a5), (1, .ref a1), (0, .ref b)]) hx hb dL_law_49 hl (by decide) rfl (fun ls hl => ?_)
  obtain ⟨n116, h⟩ := h
  refine lp_W (nL := 19) (fun q => [(9, .int q.1), (8, .ref a17), (7, .ref a15), (6, .ref a13), (5, .ref a11), (4, .ref a9), (3, .ref a7), (2, .ref a5), (1, .ref a1), (0, .ref b)]) (fun q => q.2) h (lv_sub hl [0, 1, 2, 3, 4, 5, 6, 7, 8, 9] rfl) hO (fun K51 ih51 q ls H locs h hl hO => ?_)
  obtain ⟨i19, S20⟩ := q
  have h : wpb_L_law_51 xs n0 a1 a5 a7 a9 a11 a13 a15 a17 K51 i19 S20 := h
  have hl : lv_has ls 19 [(9, .int i19), (8, .ref a17), (7, .ref a15), (6, .ref a13), (5, .ref a11), (4, .ref a9), (3, .ref a7), (2, .ref a5), (1, .ref a1), (0, .ref b)] := hl
  have hO : HO D Y (LA s) s.heap S20 H locs := hO
  unfold wpb_L_law_51 at h
  refine lv_iload hx hb dL_law_51 (lv_at hl 0 rfl) ?_
  refine lv_bipush (v := (nI 12)) hx hb dL_law_53 (by decide) ?_
  refine lv_icmp_ge (tgt := 80) hx hb dL_law_55 (by decide) (fun c21 => ?_) (fun c21 => ?_)
  · have h := h.1 c21
    refine lv_iconst (v := (nI 0)) hx hb dL_law_80 (by decide) ?_
    refine lv_istore (lv' := [(9, .int (nI 0)), (8, .ref a17), (7, .ref a15), (6, .ref a13), (5, .ref a11), (4, .ref a9), (3, .ref a7), (2, .ref a5), (1, .ref a1), (0, .ref b)]) hx hb dL_law_81 hl (by decide) rfl (fun ls hl => ?_)
    obtain ⟨n106, h⟩ := h
    refine lp_W (nL := 19) (fun q => [(9, .int q.1), (8, .ref a17), (7, .ref a15), (6, .ref a13), (5, .ref a11), (4, .ref a9), (3, .ref a7), (2, .ref a5), (1, .ref a1), (0, .ref b)]) (fun q => q.2) h (lv_sub hl [0, 1, 2, 3, 4, 5, 6, 7, 8, 9] rfl) hO (fun K83 ih83 q ls H locs h hl hO => ?_)
    obtain ⟨i22, S23⟩ := q
    have h : wpb_L_law_83 xs n0 a1 a5 a7 a9 a11 a13 a15 a17 K83 i22 S23 := h
    have hl : lv_has ls 19 [(9, .int i22), (8, .ref a17), (7, .ref a15), (6, .ref a13), (5, .ref a11), (4, .ref a9), (3, .ref a7), (2, .ref a5), (1, .ref a1), (0, .ref b)] := hl
    have hO : HO D Y (LA s) s.heap S23 H locs := hO
    unfold wpb_L_law_83 at h
    refine lv_iload hx hb dL_law_83 (lv_at hl 0 rfl) ?_
    refine lv_bipush (v := (nI 6)) hx hb dL_law_85 (by decide) ?_
    refine lv_icmp_ge (tgt := 104) hx hb dL_law_87 (by decide) (fun c24 => ?_) (fun c24 => ?_)
    · have h := h.1 c24
      refine lv_iconst (v := (nI 0)) hx hb dL_law_104 (by decide) ?_
      refine lv_istore (lv' := [(9, .int (nI 0)), (8, .ref a17), (7, .ref a15), (6, .ref a13), (5, .ref a11), (4, .ref a9), (3, .ref a7), (2, .ref a5), (1, .ref a1), (0, .ref b)]) hx hb dL_law_105 hl (by decide) rfl (fun ls hl => ?_)
      refine lp_WA (nL := 19) 31 1192 14294 (fun q => [(9, .int q.1), (8, .ref a17), (7, .ref a15), (6, .ref a13), (5, .ref a11), (4, .ref a9), (3, .ref a7), (2, .ref a5), (1, .ref a1), (0, .ref b)]) (fun q => q.2) h (lv_sub hl [0, 1, 2, 3, 4, 5, 6, 7, 8, 9] rfl) hO (fun cz107 sz107 hz107 hs107 K107 ih107 q ls H locs h hl hO => ?_)
      obtain ⟨i25, S26⟩ := q
      have h : wpb_L_law_107 xs n0 a1 a5 a7 a9 a11 a13 a15 a17 K107 i25 S26 := h
      have hl : lv_has ls 19 [(9, .int i25), (8, .ref a17), (7, .ref a15), (6, .ref a13), (5, .ref a11), (4, .ref a9), (3, .ref a7), (2, .ref a5), (1, .ref a1), (0, .ref b)] := hl
      have hO : HO D Y (LA s) s.heap S26 H locs := hO
      unfold wpb_L_law_107 at h
      refine lv_iload hx hb dL_law_107 (lv_at hl 0 rfl) ?_
      refine lv_bipush (v := (nI 30)) hx hb dL_law_109 (by decide) ?_
      refine lv_icmp_ge (tgt := 584) hx hb dL_law_111 (by decide) (fun c27 => ?_) (fun c27 => ?_)
      · have h := h.1 c27
        refine W.widen (k := 36986) (n := 444801) (by omega) (by omega) ?_
        refine lv_iconst (v := (nI 1)) hx hb dL_law_584 (by decide) ?_
        refine va_forget hO.lc ?_
        refine W.widen (k := 870912) (n := 6489511) (by omega) (by omega) ?_
        exact lw_ret hx hb hr hlocks dL_law_585
      · have h := h.2 c27
        refine lv_aload_n hx hb dL_law_114 rfl (lv_at hl 9 rfl) ?_
        refine lv_iconst (v := (nI 2)) hx hb dL_law_115 (by decide) ?_
        refine lv_iload hx hb dL_law_116 (lv_at hl 0 rfl) ?_
        refine lv_imul hx hb dL_law_118 ?_
        obtain ⟨hki28, h⟩ := h
        obtain ⟨i28, ei28⟩ : ∃ y : Int32, y = clF xs n0 ((nI 2) * i25) := ⟨_, rfl⟩
        have h := h i28 ei28
        refine cS_cell (k := ((nI 2) * i25)) (rest := []) CF hX hbl (Nat.not_le.mpr hbl) hO.s hN31 hki28 (va_cwS 2 hts gL_law_L_cell rfl rfl rfl hdS_L_cell ⟨Nat.le_of_ble_eq_true rfl, Nat.le_of_ble_eq_true rfl⟩) rfl hl.1 (Nat.le_of_ble_eq_true rfl) dL_law_119 ⟨(show cz107 + 0 + 0 ≤ 870912 by omega), (show sz107 + 0 + 0 ≤ 6489511 by omega)⟩ ?_
        rw [← ei28]
        refine lv_istore (lv' := [(10, .int i28), (9, .int i25), (8, .ref a17), (7, .ref a15), (6, .ref a13), (5, .ref a11), (4, .ref a9), (3, .ref a7), (2, .ref a5), (1, .ref a1), (0, .ref b)]) hx hb dL_law_122 hl (by decide) rfl (fun ls hl => ?_)
        refine lv_aload_n hx hb dL_law_124 rfl (lv_at hl 10 rfl) ?_
        refine lv_iconst (v := (nI 2)) hx hb dL_law_125 (by decide) ?_
        refine lv_iload hx hb dL_law_126 (lv_at hl 1 rfl) ?_
        refine lv_imul hx hb dL_law_128 ?_
        refine lv_iconst (v := (nI 1)) hx hb dL_law_129 (by decide) ?_
        refine lv_iadd hx hb dL_law_130 ?_
        obtain ⟨hki29, h⟩ := h
        obtain ⟨i29, ei29⟩ : ∃ y : Int32, y = clF xs n0 (((nI 2) * i25) + (nI 1)) := ⟨_, rfl⟩
        have h := h i29 ei29
        refine cS_cell (k := (((nI 2) * i25) + (nI 1))) (rest := []) CF hX hbl (Nat.not_le.mpr hbl) hO.s hN31 hki29 (va_cwS 2 hts gL_law_L_cell rfl rfl rfl hdS_L_cell ⟨Nat.le_of_ble_eq_true rfl, Nat.le_of_ble_eq_true rfl⟩) rfl hl.1 (Nat.le_of_ble_eq_true rfl) dL_law_131 ⟨(show cz107 + 0 + 0 ≤ 870912 by omega), (show sz107 + 0 + 0 ≤ 6489511 by omega)⟩ ?_
        rw [← ei29]
        refine lv_istore (lv' := [(11, .int i29), (10, .int i28), (9, .int i25), (8, .ref a17), (7, .ref a15), (6, .ref a13), (5, .ref a11), (4, .ref a9), (3, .ref a7), (2, .ref a5), (1, .ref a1), (0, .ref b)]) hx hb dL_law_134 hl (by decide) rfl (fun ls hl => ?_)
        refine lv_iload hx hb dL_law_136 (lv_at hl 1 rfl) ?_
        refine lv_bipush (v := (nI 14)) hx hb dL_law_138 (by decide) ?_
        refine cS_si (As := [.int i28, .int (nI 14)]) (rest := []) (n := 2) CF hZ (c_L_low l i28 (nI 14) _ h) (va_cwS 2 hts gL_law_L_low rfl rfl rfl hdS_L_low ⟨Nat.le_of_ble_eq_true rfl, Nat.le_of_ble_eq_true rfl⟩) rfl hl.1 rfl (Nat.le_of_ble_eq_true rfl) dL_law_140 ⟨(show cz107 + 0 + 0 ≤ 870912 by omega), (show sz107 + 0 + 0 ≤ 6489511 by omega)⟩ (fun i30 h => ?_)
        refine lv_istore (lv' := [(12, .int i30), (11, .int i29), (10, .int i28), (9, .int i25), (8, .ref a17), (7, .ref a15), (6, .ref a13), (5, .ref a11), (4, .ref a9), (3, .ref a7), (2, .ref a5), (1, .ref a1), (0, .ref b)]) hx hb dL_law_143 hl (by decide) rfl (fun ls hl => ?_)
        refine lv_iload hx hb dL_law_145 (lv_at hl 0 rfl) ?_
        refine lv_iconst (v := (nI 2)) hx hb dL_law_147 (by decide) ?_
        refine cut_P (nL := 19) (fun (q : Int32) => wpk_L_law_194 a1 a5 a7 a9 a11 a13 a15 a17 i25 S26 i28 i29 K107 q) (fun q => [(12, .int q), (11, .int i29), (10, .int i28), (9, .int i25), (8, .ref a17), (7, .ref a15), (6, .ref a13), (5, .ref a11), (4, .ref a9), (3, .ref a7), (2, .ref a5), (1, .ref a1), (0, .ref b)]) 194 ?_ (fun kc194 => ?_)
        · intro q ls h hl
          obtain ⟨i31, rfl⟩ : ∃ z, z = q := ⟨q, rfl⟩
          have h : wpk_L_law_194 a1 a5 a7 a9 a11 a13 a15 a17 i25 S26 i28 i29 K107 i31 := h
          have hl : lv_has ls 19 [(12, .int i31), (11, .int i29), (10, .int i28), (9, .int i25), (8, .ref a17), (7, .ref a15), (6, .ref a13), (5, .ref a11), (4, .ref a9), (3, .ref a7), (2, .ref a5), (1, .ref a1), (0, .ref b)] := hl
          unfold wpk_L_law_194 at h
          refine lv_iload hx hb dL_law_194 (lv_at hl 0 rfl) ?_
          refine cut_P (nL := 19) (fun (q : Int32) => wpk_L_law_225 a1 a5 a7 a9 a11 a13 a15 a17 i25 S26 i28 i29 i31 K107 q) (fun q => [(12, .int i31), (11, .int i29), (10, .int i28), (9, .int i25), (8, .ref a17), (7, .ref a15), (6, .ref a13), (5, .ref a11), (4, .ref a9), (3, .ref a7), (2, .ref a5), (1, .ref a1), (0, .ref b), (13, .int q)]) 225 ?_ (fun kc225 => ?_)
          · intro q ls h hl
            obtain ⟨i32, rfl⟩ : ∃ z, z = q := ⟨q, rfl⟩
            have h : wpk_L_law_225 a1 a5 a7 a9 a11 a13 a15 a17 i25 S26 i28 i29 i31 K107 i32 := h
            have hl : lv_has ls 19 [(12, .int i31), (11, .int i29), (10, .int i28), (9, .int i25), (8, .ref a17), (7, .ref a15), (6, .ref a13), (5, .ref a11), (4, .ref a9), (3, .ref a7), (2, .ref a5), (1, .ref a1), (0, .ref b), (13, .int i32)] := hl
            unfold wpk_L_law_225 at h
            refine lv_iload hx hb dL_law_225 (lv_at hl 0 rfl) ?_
            refine lv_iconst (v := (nI 1)) hx hb dL_law_227 (by decide) ?_
            refine cut_P (nL := 19) (fun (q : Int32) => wpk_L_law_327 a1 a5 a7 a9 a11 a13 a15 a17 i25 S26 i28 i29 i31 i32 K107 q) (fun q => [(12, .int i31), (11, .int i29), (10, .int i28), (9, .int i25), (8, .ref a17), (7, .ref a15), (6, .ref a13), (5, .ref a11), (4, .ref a9), (3, .ref a7), (2, .ref a5), (1, .ref a1), (0, .ref b), (13, .int i32), (14, .int q)]) 327 ?_ (fun kc327 => ?_)
            · intro q ls h hl
              obtain ⟨i33, rfl⟩ : ∃ z, z = q := ⟨q, rfl⟩
              have h : wpk_L_law_327 a1 a5 a7 a9 a11 a13 a15 a17 i25 S26 i28 i29 i31 i32 K107 i33 := h
              have hl : lv_has ls 19 [(12, .int i31), (11, .int i29), (10, .int i28), (9, .int i25), (8, .ref a17), (7, .ref a15), (6, .ref a13), (5, .ref a11), (4, .ref a9), (3, .ref a7), (2, .ref a5), (1, .ref a1), (0, .ref b), (13, .int i32), (14, .int i33)] := hl
              unfold wpk_L_law_327 at h
              refine lv_iload hx hb dL_law_327 (lv_at hl 0 rfl) ?_
              refine lv_iconst (v := (nI 5)) hx hb dL_law_329 (by decide) ?_
              refine cut_P (nL := 19) (fun (q : Int32) => wpk_L_law_388 a1 a5 a7 a9 a11 a13 a15 a17 i25 S26 i28 i29 i31 i32 i33 K107 q) (fun q => [(12, .int i31), (11, .int i29), (10, .int i28), (9, .int i25), (8, .ref a17), (7, .ref a15), (6, .ref a13), (5, .ref a11), (4, .ref a9), (3, .ref a7), (2, .ref a5), (1, .ref a1), (0, .ref b), (13, .int i32), (14, .int i33), (15, .int q)]) 388 ?_ (fun kc388 => ?_)
              · intro q ls h hl
                obtain ⟨i34, rfl⟩ : ∃ z, z = q := ⟨q, rfl⟩
                have h : wpk_L_law_388 a1 a5 a7 a9 a11 a13 a15 a17 i25 S26 i28 i29 i31 i32 i33 K107 i34 := h
                have hl : lv_has ls 19 [(12, .int i31), (11, .int i29), (10, .int i28), (9, .int i25), (8, .ref a17), (7, .ref a15), (6, .ref a13), (5, .ref a11), (4, .ref a9), (3, .ref a7), (2, .ref a5), (1, .ref a1), (0, .ref b), (13, .int i32), (14, .int i33), (15, .int i34)] := hl
                unfold wpk_L_law_388 at h
                refine lv_aload_n hx hb dL_law_388 rfl (lv_at hl 11 rfl) ?_
                refine cS_rl (As := [.ref a1]) (rest := []) (n := 1) C hO (fun L => c_L_told l D Y L S26 H.size a1 _ h) (va_cwS 1 hts gL_law_L_told rfl rfl rfl hdS_L_told ⟨Nat.le_of_ble_eq_true rfl, Nat.le_of_ble_eq_true rfl⟩) rfl hl.1 rfl (Nat.le_of_ble_eq_true rfl) dL_law_389 ⟨(show cz107 + 0 + 0 ≤ 870912 by omega), (show sz107 + 0 + 0 ≤ 6489511 by omega)⟩ (fun j35 h => ?_)
                refine lv_lstore (lv' := [(16, .long j35), (12, .int i31), (11, .int i29), (10, .int i28), (9, .int i25), (8, .ref a17), (7, .ref a15), (6, .ref a13), (5, .ref a11), (4, .ref a9), (3, .ref a7), (2, .ref a5), (1, .ref a1), (0, .ref b), (13, .int i32), (14, .int i33), (15, .int i34)]) hx hb dL_law_392 hl (by decide) rfl (fun ls hl => ?_)
                refine lv_aload_n hx hb dL_law_394 rfl (lv_at hl 12 rfl) ?_
                refine lv_iload hx hb dL_law_395 (lv_at hl 1 rfl) ?_
                refine lv_iload hx hb dL_law_397 (lv_at hl 14 rfl) ?_
                refine lv_iload hx hb dL_law_399 (lv_at hl 15 rfl) ?_
                refine lv_iload hx hb dL_law_401 (lv_at hl 16 rfl) ?_
                refine lv_aload hx hb dL_law_403 (lv_at hl 5 rfl) ?_
                refine cS_wi (As := [.ref a1, .int i31, .int i32, .int i33, .int i34, .ref a17]) (rest := []) (n := 6) C hO (fun L => c_L_call l D Y L S26 H.size a1 i31 i32 i33 i34 a17 _ h) (va_cwS 6 hts gL_law_L_call rfl rfl rfl hdS_L_call ⟨Nat.le_of_ble_eq_true rfl, Nat.le_of_ble_eq_true rfl⟩) rfl hl.1 rfl (Nat.le_of_ble_eq_true rfl) dL_law_405 ⟨(show cz107 + 0 + 15 ≤ 870912 by omega), (show sz107 + 0 + 175 ≤ 6489511 by omega)⟩ (fun i36 S37 H locs h hO => ?_)
                refine lv_istore (lv' := [(18, .int i36), (16, .long j35), (12, .int i31), (11, .int i29), (10, .int i28), (9, .int i25), (8, .ref a17), (7, .ref a15), (6, .ref a13), (5, .ref a11), (4, .ref a9), (3, .ref a7), (2, .ref a5), (1, .ref a1), (0, .ref b), (13, .int i32), (14, .int i33), (15, .int i34)]) hx hb dL_law_408 hl (by decide) rfl (fun ls hl => ?_)
                refine lv_iload hx hb dL_law_410 (lv_at hl 0 rfl) ?_
                refine cut_WA D Y (LA s) s.heap (nL := 19) (cz107 + 30) (sz107 + 350) (fun (q : PS) => wpk_L_law_476 a1 a5 a7 a9 a11 a13 a15 a17 i25 i29 i31 i32 i33 i34 i36 K107 q) (fun q => [(18, .int i36), (12, .int i31), (11, .int i29), (9, .int i25), (8, .ref a17), (7, .ref a15), (6, .ref a13), (5, .ref a11), (4, .ref a9), (3, .ref a7), (2, .ref a5), (1, .ref a1), (0, .ref b), (13, .int i32), (14, .int i33), (15, .int i34)]) (fun q => q) 476 ?_ (fun kc476 => ?_)
                · intro q ls H locs h hl hO
                  obtain ⟨S38, rfl⟩ : ∃ z, z = q := ⟨q, rfl⟩
                  have h : wpk_L_law_476 a1 a5 a7 a9 a11 a13 a15 a17 i25 i29 i31 i32 i33 i34 i36 K107 S38 := h
                  have hl : lv_has ls 19 [(18, .int i36), (12, .int i31), (11, .int i29), (9, .int i25), (8, .ref a17), (7, .ref a15), (6, .ref a13), (5, .ref a11), (4, .ref a9), (3, .ref a7), (2, .ref a5), (1, .ref a1), (0, .ref b), (13, .int i32), (14, .int i33), (15, .int i34)] := hl
                  have hO : HO D Y (LA s) s.heap S38 H locs := hO
                  unfold wpk_L_law_476 at h
                  refine lv_iload hx hb dL_law_476 (lv_at hl 0 rfl) ?_
                  refine lv_iload hx hb dL_law_478 (lv_at hl 0 rfl) ?_
                  refine lv_iload hx hb dL_law_480 (lv_at hl 1 rfl) ?_
                  refine lv_iload hx hb dL_law_482 (lv_at hl 13 rfl) ?_
                  refine lv_iload hx hb dL_law_484 (lv_at hl 14 rfl) ?_
                  refine lv_iload hx hb dL_law_486 (lv_at hl 15 rfl) ?_
                  refine lv_aload_n hx hb dL_law_488 rfl (lv_at hl 10 rfl) ?_
                  refine lv_aload_n hx hb dL_law_489 rfl (lv_at hl 9 rfl) ?_
                  refine lv_aload hx hb dL_law_490 (lv_at hl 8 rfl) ?_
                  refine lv_aload hx hb dL_law_492 (lv_at hl 7 rfl) ?_
                  refine lv_aload hx hb dL_law_494 (lv_at hl 6 rfl) ?_
                  refine lv_aload hx hb dL_law_496 (lv_at hl 5 rfl) ?_
                  refine lv_aload hx hb dL_law_498 (lv_at hl 4 rfl) ?_
                  refine cS_wi (As := [.int i36, .int i31, .int i32, .int i33, .int i34, .ref a5, .ref a7, .ref a9, .ref a11, .ref a13, .ref a15, .ref a17]) (rest := [.int i36]) (n := 12) C hO (fun L => c_L_due l D Y L S38 H.size i36 i31 i32 i33 i34 a5 a7 a9 a11 a13 a15 a17 _ h) (va_cwS 12 hts gL_law_L_due rfl rfl rfl hdS_L_due ⟨Nat.le_of_ble_eq_true rfl, Nat.le_of_ble_eq_true rfl⟩) rfl hl.1 rfl (Nat.le_of_ble_eq_true rfl) dL_law_500 ⟨(show cz107 + 30 + 1003 ≤ 870912 by omega), (show sz107 + 350 + 12036 ≤ 6489511 by omega)⟩ (fun i39 S40 H locs h hO => ?_)
                  refine lv_icmp_ne (tgt := 546) hx hb dL_law_503 (by decide) (fun c41 => ?_) (fun c41 => ?_)
                  · have h := h.2 c41
                    refine W.widen (k := 36986) (n := 444801) (by omega) (by omega) ?_
                    refine lv_iconst (v := (nI 0)) hx hb dL_law_546 (by decide) ?_
                    exact h.elim
                  · have h := h.1 c41
                    refine lv_iload hx hb dL_law_506 (lv_at hl 0 rfl) ?_
                    refine cut_P (nL := 19) (fun (q : Unit) => wpk_L_law_525 a1 a5 a7 a9 a11 a13 a15 i25 i29 S40 K107 ) (fun q => [(11, .int i29), (9, .int i25), (8, .ref a17), (7, .ref a15), (6, .ref a13), (5, .ref a11), (4, .ref a9), (3, .ref a7), (2, .ref a5), (1, .ref a1), (0, .ref b)]) 525 ?_ (fun kc525 => ?_)
                    · intro q ls h hl
                      have h : wpk_L_law_525 a1 a5 a7 a9 a11 a13 a15 i25 i29 S40 K107  := h
                      have hl : lv_has ls 19 [(11, .int i29), (9, .int i25), (8, .ref a17), (7, .ref a15), (6, .ref a13), (5, .ref a11), (4, .ref a9), (3, .ref a7), (2, .ref a5), (1, .ref a1), (0, .ref b)] := hl
                      unfold wpk_L_law_525 at h
                      refine lv_aload_n hx hb dL_law_525 rfl (lv_at hl 9 rfl) ?_
                      refine lv_iload hx hb dL_law_526 (lv_at hl 0 rfl) ?_
                      refine lv_iconst (v := (nI 5)) hx hb dL_law_528 (by decide) ?_
                      refine lv_ishr hx hb dL_law_529 ?_
                      refine lv_aload_n hx hb dL_law_530 rfl (lv_at hl 8 rfl) ?_
                      refine lv_aload_n hx hb dL_law_531 rfl (lv_at hl 7 rfl) ?_
                      refine lv_aload hx hb dL_law_532 (lv_at hl 6 rfl) ?_
                      refine lv_aload hx hb dL_law_534 (lv_at hl 5 rfl) ?_
                      refine lv_aload hx hb dL_law_536 (lv_at hl 4 rfl) ?_
                      refine lv_aload hx hb dL_law_538 (lv_at hl 3 rfl) ?_
                      refine cS_wi (As := [.ref a1, .int (i29 >>> ((nI 5) &&& 31)), .ref a5, .ref a7, .ref a9, .ref a11, .ref a13, .ref a15]) (rest := []) (n := 8) C hO (fun L => c_L_isSo l D Y L S40 H.size a1 ((i29 >>> ((nI 5) &&& 31))) a5 a7 a9 a11 a13 a15 _ h) (va_cwS 8 hts gL_law_L_isSo rfl rfl rfl hdS_L_isSo ⟨Nat.le_of_ble_eq_true rfl, Nat.le_of_ble_eq_true rfl⟩) rfl hl.1 rfl (Nat.le_of_ble_eq_true rfl) dL_law_540 ⟨(show cz107 + 1033 + 64 ≤ 870912 by omega), (show sz107 + 12386 + 768 ≤ 6489511 by omega)⟩ (fun i42 S43 H locs h hO => ?_)
                      refine lv_if_ne (tgt := 548) hx hb dL_law_543 (by decide) (fun c44 => ?_) (fun c44 => ?_)
                      · have h := h.2 c44
                        refine lv_iload hx hb dL_law_548 (lv_at hl 1 rfl) ?_
                        refine lv_iconst (v := (nI 5)) hx hb dL_law_550 (by decide) ?_
                        refine lv_irem hx hb dL_law_551 (by decide) ?_
                        refine lv_iconst (v := (nI 4)) hx hb dL_law_552 (by decide) ?_
                        refine cut_WA D Y (LA s) s.heap (nL := 19) (cz107 + 1192) (sz107 + 14294) (fun (q : PS) => wpk_L_law_578 i25 K107 q) (fun q => [(9, .int i25), (8, .ref a17), (7, .ref a15), (6, .ref a13), (5, .ref a11), (4, .ref a9), (3, .ref a7), (2, .ref a5), (1, .ref a1), (0, .ref b)]) (fun q => q) 578 ?_ (fun kc578 => ?_)
                        · intro q ls H locs h hl hO
                          obtain ⟨S45, rfl⟩ : ∃ z, z = q := ⟨q, rfl⟩
                          have h : wpk_L_law_578 i25 K107 S45 := h
                          have hl : lv_has ls 19 [(9, .int i25), (8, .ref a17), (7, .ref a15), (6, .ref a13), (5, .ref a11), (4, .ref a9), (3, .ref a7), (2, .ref a5), (1, .ref a1), (0, .ref b)] := hl
                          have hO : HO D Y (LA s) s.heap S45 H locs := hO
                          unfold wpk_L_law_578 at h
                          obtain ⟨i46, ei46⟩ : ∃ y : Int32, y = i25 + (nI 1) := ⟨_, rfl⟩
                          have h := h i46 ei46
                          refine lv_iinc (v := i46) (lv' := [(9, .int i46), (8, .ref a17), (7, .ref a15), (6, .ref a13), (5, .ref a11), (4, .ref a9), (3, .ref a7), (2, .ref a5), (1, .ref a1), (0, .ref b)]) hx hb dL_law_578 hl (k := 0) rfl (by rw [ei46]; rfl) (by decide) rfl (fun ls hl => ?_)
                          refine lv_goto (tgt := 107) hx hb dL_law_581 (by decide) ?_
                          refine W.widen (k := cz107 + 1192) (n := sz107 + 14294) (by omega) (by omega) ?_
                          exact ih107 (i46, S45) _ _ _ h (lv_sub hl [0, 1, 2, 3, 4, 5, 6, 7, 8, 9] rfl) hO
                        refine lv_icmp_ne (tgt := 578) hx hb dL_law_553 (by decide) (fun c47 => ?_) (fun c47 => ?_)
                        · have h := h.2 c47
                          refine W.widen (k := cz107 + 1192) (n := sz107 + 14294) (by omega) (by omega) ?_
                          exact kc578 S43 _ _ _ h (lv_sub hl [1, 2, 3, 4, 5, 6, 7, 8, 9, 10] rfl) hO
                        · have h := h.1 c47
                          refine lv_aload_n hx hb dL_law_556 rfl (lv_at hl 9 rfl) ?_
                          refine lv_iload hx hb dL_law_557 (lv_at hl 0 rfl) ?_
                          refine lv_bipush (v := (nI 7)) hx hb dL_law_559 (by decide) ?_
                          refine lv_ishr hx hb dL_law_561 ?_
                          refine lv_aload_n hx hb dL_law_562 rfl (lv_at hl 8 rfl) ?_
                          refine lv_aload_n hx hb dL_law_563 rfl (lv_at hl 7 rfl) ?_
                          refine lv_aload hx hb dL_law_564 (lv_at hl 6 rfl) ?_
                          refine lv_aload hx hb dL_law_566 (lv_at hl 4 rfl) ?_
                          refine lv_aload hx hb dL_law_568 (lv_at hl 3 rfl) ?_
                          refine cS_wi (As := [.ref a1, .int (i29 >>> ((nI 7) &&& 31)), .ref a5, .ref a7, .ref a9, .ref a13, .ref a15]) (rest := []) (n := 7) C hO (fun L => c_L_arePairs l D Y L S43 H.size a1 ((i29 >>> ((nI 7) &&& 31))) a5 a7 a9 a13 a15 _ h) (va_cwS 7 hts gL_law_L_arePairs rfl rfl rfl hdS_L_arePairs ⟨Nat.le_of_ble_eq_true rfl, Nat.le_of_ble_eq_true rfl⟩) rfl hl.1 rfl (Nat.le_of_ble_eq_true rfl) dL_law_570 ⟨(show cz107 + 1097 + 95 ≤ 870912 by omega), (show sz107 + 13154 + 1140 ≤ 6489511 by omega)⟩ (fun i48 S49 H locs h hO => ?_)
                          refine lv_if_ne (tgt := 578) hx hb dL_law_573 (by decide) (fun c50 => ?_) (fun c50 => ?_)
                          · have h := h.2 c50
                            refine W.widen (k := cz107 + 1192) (n := sz107 + 14294) (by omega) (by omega) ?_
                            exact kc578 S49 _ _ _ h (lv_sub hl [1, 2, 3, 4, 5, 6, 7, 8, 9, 10] rfl) hO
                          · have h := h.1 c50
                            refine W.widen (k := 36986) (n := 444801) (by omega) (by omega) ?_
                            refine lv_iconst (v := (nI 0)) hx hb dL_law_576 (by decide) ?_
                            exact h.elim
                      · have h := h.1 c44
                        refine W.widen (k := 36986) (n := 444801) (by omega) (by omega) ?_
                        refine lv_iconst (v := (nI 0)) hx hb dL_law_546 (by decide) ?_
                        exact h.elim
                    refine lv_if_ge (tgt := 525) hx hb dL_law_508 (by decide) (fun c51 => ?_) (fun c51 => ?_)
                    · have h := h.1 c51
                      exact kc525 () _ h (lv_sub hl [2, 3, 4, 5, 6, 7, 8, 9, 10, 11, 12] rfl)
                    · have h := h.2 c51
                      refine lv_iload hx hb dL_law_511 (lv_at hl 0 rfl) ?_
                      refine lv_bipush (v := (-3 : Int32)) hx hb dL_law_513 (by decide) ?_
                      refine lv_icmp_eq (tgt := 525) hx hb dL_law_515 (by decide) (fun c52 => ?_) (fun c52 => ?_)
                      · have h := h.1 c52
                        exact kc525 () _ h (lv_sub hl [2, 3, 4, 5, 6, 7, 8, 9, 10, 11, 12] rfl)
                      · have h := h.2 c52
                        refine lv_iload hx hb dL_law_518 (lv_at hl 0 rfl) ?_
                        refine lv_bipush (v := (-4 : Int32)) hx hb dL_law_520 (by decide) ?_
                        refine lv_icmp_ne (tgt := 546) hx hb dL_law_522 (by decide) (fun c53 => ?_) (fun c53 => ?_)
                        · have h := h.2 c53
                          refine W.widen (k := 36986) (n := 444801) (by omega) (by omega) ?_
                          refine lv_iconst (v := (nI 0)) hx hb dL_law_546 (by decide) ?_
                          exact h.elim
                        · have h := h.1 c53
                          exact kc525 () _ h (lv_sub hl [2, 3, 4, 5, 6, 7, 8, 9, 10, 11, 12] rfl)
                refine lv_if_ge (tgt := 428) hx hb dL_law_412 (by decide) (fun c54 => ?_) (fun c54 => ?_)
                · have h := h.1 c54
                  refine lv_iload hx hb dL_law_428 (lv_at hl 4 rfl) ?_
                  refine lv_bipush (v := (nI 24)) hx hb dL_law_430 (by decide) ?_
                  refine lv_ishr hx hb dL_law_432 ?_
                  refine lv_iconst (v := (nI 3)) hx hb dL_law_433 (by decide) ?_
                  refine lv_iand hx hb dL_law_434 ?_
                  refine lv_if_ne (tgt := 476) hx hb dL_law_435 (by decide) (fun c55 => ?_) (fun c55 => ?_)
                  · have h := h.2 c55
                    refine W.widen (k := cz107 + 30) (n := sz107 + 350) (by omega) (by omega) ?_
                    exact kc476 S37 _ _ _ h (lv_sub hl [0, 2, 3, 5, 6, 7, 8, 9, 10, 11, 12, 13, 14, 15, 16, 17] rfl) hO
                  · have h := h.1 c55
                    refine lv_aload_n hx hb dL_law_438 rfl (lv_at hl 13 rfl) ?_
                    obtain ⟨fs59, e58, h⟩ := h
                    refine cV_wi (As := []) (rest := []) (n := 0) C hO (fun L => c_X7_undo l D Y L S37 H.size a1 _ h) 5 rfl e58 (cwV 0 hts gL_law_X7_undo rfl rfl rfl ⟨rfl, hdS_X7_undo⟩ ⟨Nat.le_of_ble_eq_true rfl, Nat.le_of_ble_eq_true rfl⟩) rfl hl.1 rfl (Nat.le_of_ble_eq_true rfl) dL_law_439 ⟨(show cz107 + 15 + 0 ≤ 870912 by omega), (show sz107 + 175 + 0 ≤ 6489511 by omega)⟩ (fun i56 S57 H locs h hO => ?_)
                    refine lv_if_lt (tgt := 474) hx hb dL_law_442 (by decide) (fun c60 => ?_) (fun c60 => ?_)
                    · have h := h.1 c60
                      refine W.widen (k := 36986) (n := 444801) (by omega) (by omega) ?_
                      refine lv_iconst (v := (nI 0)) hx hb dL_law_474 (by decide) ?_
                      exact h.elim
                    · have h := h.2 c60
                      refine lv_aload_n hx hb dL_law_445 rfl (lv_at hl 13 rfl) ?_
                      refine cS_rl (As := [.ref a1]) (rest := []) (n := 1) C hO (fun L => c_L_told l D Y L S57 H.size a1 _ h) (va_cwS 1 hts gL_law_L_told rfl rfl rfl hdS_L_told ⟨Nat.le_of_ble_eq_true rfl, Nat.le_of_ble_eq_true rfl⟩) rfl hl.1 rfl (Nat.le_of_ble_eq_true rfl) dL_law_446 ⟨(show cz107 + 15 + 0 ≤ 870912 by omega), (show sz107 + 175 + 0 ≤ 6489511 by omega)⟩ (fun j61 h => ?_)
                      refine lv_lload hx hb dL_law_449 (lv_at hl 1 rfl) ?_
                      refine W.lcmp hx hb dL_law_451 ?_
                      refine lv_if_ne (tgt := 474) hx hb dL_law_452 (by decide) (fun c62 => ?_) (fun c62 => ?_)
                      · have h := h.2 c62
                        refine W.widen (k := 36986) (n := 444801) (by omega) (by omega) ?_
                        refine lv_iconst (v := (nI 0)) hx hb dL_law_474 (by decide) ?_
                        exact h.elim
                      · have h := h.1 c62
                        refine lv_aload_n hx hb dL_law_455 rfl (lv_at hl 13 rfl) ?_
                        refine lv_iload hx hb dL_law_456 (lv_at hl 2 rfl) ?_
                        refine lv_iload hx hb dL_law_458 (lv_at hl 15 rfl) ?_
                        refine lv_iload hx hb dL_law_460 (lv_at hl 16 rfl) ?_
                        refine lv_iload hx hb dL_law_462 (lv_at hl 17 rfl) ?_
                        refine lv_aload hx hb dL_law_464 (lv_at hl 6 rfl) ?_
                        refine cS_wi (As := [.ref a1, .int i31, .int i32, .int i33, .int i34, .ref a17]) (rest := []) (n := 6) C hO (fun L => c_L_call l D Y L S57 H.size a1 i31 i32 i33 i34 a17 _ h) (va_cwS 6 hts gL_law_L_call rfl rfl rfl hdS_L_call ⟨Nat.le_of_ble_eq_true rfl, Nat.le_of_ble_eq_true rfl⟩) rfl hl.1 rfl (Nat.le_of_ble_eq_true rfl) dL_law_466 ⟨(show cz107 + 15 + 15 ≤ 870912 by omega), (show sz107 + 175 + 175 ≤ 6489511 by omega)⟩ (fun i63 S64 H locs h hO => ?_)
                        refine lv_iload hx hb dL_law_469 (lv_at hl 0 rfl) ?_
                        refine lv_icmp_eq (tgt := 476) hx hb dL_law_471 (by decide) (fun c65 => ?_) (fun c65 => ?_)
                        · have h := h.1 c65
                          refine W.widen (k := cz107 + 30) (n := sz107 + 350) (by omega) (by omega) ?_
                          exact kc476 S64 _ _ _ h (lv_sub hl [0, 2, 3, 5, 6, 7, 8, 9, 10, 11, 12, 13, 14, 15, 16, 17] rfl) hO
                        · have h := h.2 c65
                          refine W.widen (k := 36986) (n := 444801) (by omega) (by omega) ?_
                          refine lv_iconst (v := (nI 0)) hx hb dL_law_474 (by decide) ?_
                          exact h.elim
                · have h := h.2 c54
                  refine lv_aload_n hx hb dL_law_415 rfl (lv_at hl 13 rfl) ?_
                  refine cS_rl (As := [.ref a1]) (rest := []) (n := 1) C hO (fun L => c_L_told l D Y L S37 H.size a1 _ h) (va_cwS 1 hts gL_law_L_told rfl rfl rfl hdS_L_told ⟨Nat.le_of_ble_eq_true rfl, Nat.le_of_ble_eq_true rfl⟩) rfl hl.1 rfl (Nat.le_of_ble_eq_true rfl) dL_law_416 ⟨(show cz107 + 15 + 0 ≤ 870912 by omega), (show sz107 + 175 + 0 ≤ 6489511 by omega)⟩ (fun j66 h => ?_)
                  refine lv_lload hx hb dL_law_419 (lv_at hl 1 rfl) ?_
                  refine W.lcmp hx hb dL_law_421 ?_
                  refine lv_if_eq (tgt := 476) hx hb dL_law_422 (by decide) (fun c67 => ?_) (fun c67 => ?_)
                  · have h := h.1 c67
                    refine W.widen (k := cz107 + 30) (n := sz107 + 350) (by omega) (by omega) ?_
                    exact kc476 S37 _ _ _ h (lv_sub hl [0, 2, 3, 5, 6, 7, 8, 9, 10, 11, 12, 13, 14, 15, 16, 17] rfl) hO
                  · have h := h.2 c67
                    refine W.widen (k := 36986) (n := 444801) (by omega) (by omega) ?_
                    refine lv_goto (tgt := 474) hx hb dL_law_425 (by decide) ?_
                    refine lv_iconst (v := (nI 0)) hx hb dL_law_474 (by decide) ?_
                    exact h.elim
              refine lv_icmp_ne (tgt := 362) hx hb dL_law_330 (by decide) (fun c68 => ?_) (fun c68 => ?_)
              · have h := h.2 c68
                refine lv_iload hx hb dL_law_362 (lv_at hl 0 rfl) ?_
                refine lv_iconst (v := (nI 2)) hx hb dL_law_364 (by decide) ?_
                refine lv_icmp_ne (tgt := 376) hx hb dL_law_365 (by decide) (fun c69 => ?_) (fun c69 => ?_)
                · have h := h.2 c69
                  refine lv_iload hx hb dL_law_376 (lv_at hl 1 rfl) ?_
                  refine lv_bipush (v := (nI 7)) hx hb dL_law_378 (by decide) ?_
                  refine lv_ishr hx hb dL_law_380 ?_
                  refine lv_bipush (v := (nI 6)) hx hb dL_law_381 (by decide) ?_
                  refine cS_si (As := [.int (i29 >>> ((nI 7) &&& 31)), .int (nI 6)]) (rest := []) (n := 2) CF hZ (c_L_low l ((i29 >>> ((nI 7) &&& 31))) (nI 6) _ h) (va_cwS 2 hts gL_law_L_low rfl rfl rfl hdS_L_low ⟨Nat.le_of_ble_eq_true rfl, Nat.le_of_ble_eq_true rfl⟩) rfl hl.1 rfl (Nat.le_of_ble_eq_true rfl) dL_law_383 ⟨(show cz107 + 0 + 0 ≤ 870912 by omega), (show sz107 + 0 + 0 ≤ 6489511 by omega)⟩ (fun i70 h => ?_)
                  refine lv_istore (lv' := [(15, .int i70), (12, .int i31), (11, .int i29), (10, .int i28), (9, .int i25), (8, .ref a17), (7, .ref a15), (6, .ref a13), (5, .ref a11), (4, .ref a9), (3, .ref a7), (2, .ref a5), (1, .ref a1), (0, .ref b), (13, .int i32), (14, .int i33)]) hx hb dL_law_386 hl (by decide) rfl (fun ls hl => ?_)
                  exact kc388 i70 _ h (lv_sub hl [1, 2, 3, 4, 5, 6, 7, 8, 9, 10, 11, 12, 13, 14, 15, 0] rfl)
                · have h := h.1 c69
                  refine lv_iload hx hb dL_law_368 (lv_at hl 1 rfl) ?_
                  refine lv_bipush (v := (nI 9)) hx hb dL_law_370 (by decide) ?_
                  refine lv_ishr hx hb dL_law_372 ?_
                  refine lv_goto (tgt := 386) hx hb dL_law_373 (by decide) ?_
                  refine lv_topi (fun i71 ei71 => ?_)
                  have h := h i71 ei71
                  refine lv_istore (lv' := [(15, .int i71), (12, .int i31), (11, .int i29), (10, .int i28), (9, .int i25), (8, .ref a17), (7, .ref a15), (6, .ref a13), (5, .ref a11), (4, .ref a9), (3, .ref a7), (2, .ref a5), (1, .ref a1), (0, .ref b), (13, .int i32), (14, .int i33)]) hx hb dL_law_386 hl (by decide) rfl (fun ls hl => ?_)
                  exact kc388 i71 _ h (lv_sub hl [1, 2, 3, 4, 5, 6, 7, 8, 9, 10, 11, 12, 13, 14, 15, 0] rfl)
              · have h := h.1 c68
                refine lv_iload hx hb dL_law_333 (lv_at hl 1 rfl) ?_
                refine lv_bipush (v := (nI 7)) hx hb dL_law_335 (by decide) ?_
                refine lv_ishr hx hb dL_law_337 ?_
                refine lv_iload hx hb dL_law_338 (lv_at hl 1 rfl) ?_
                refine lv_bipush (v := (nI 20)) hx hb dL_law_340 (by decide) ?_
                refine lv_ishr hx hb dL_law_342 ?_
                refine lv_iconst (v := (nI 3)) hx hb dL_law_343 (by decide) ?_
                refine cS_si (As := [.int (i29 >>> ((nI 20) &&& 31)), .int (nI 3)]) (rest := [.int (i29 >>> ((nI 7) &&& 31))]) (n := 2) CF hZ (c_L_low l ((i29 >>> ((nI 20) &&& 31))) (nI 3) _ h) (va_cwS 2 hts gL_law_L_low rfl rfl rfl hdS_L_low ⟨Nat.le_of_ble_eq_true rfl, Nat.le_of_ble_eq_true rfl⟩) rfl hl.1 rfl (Nat.le_of_ble_eq_true rfl) dL_law_344 ⟨(show cz107 + 0 + 0 ≤ 870912 by omega), (show sz107 + 0 + 0 ≤ 6489511 by omega)⟩ (fun i72 h => ?_)
                refine lv_if_ne (tgt := 355) hx hb dL_law_347 (by decide) (fun c73 => ?_) (fun c73 => ?_)
                · have h := h.2 c73
                  refine lv_iconst (v := (nI 4)) hx hb dL_law_355 (by decide) ?_
                  refine cS_si (As := [.int (i29 >>> ((nI 7) &&& 31)), .int (nI 4)]) (rest := []) (n := 2) CF hZ (c_L_low l ((i29 >>> ((nI 7) &&& 31))) (nI 4) _ h) (va_cwS 2 hts gL_law_L_low rfl rfl rfl hdS_L_low ⟨Nat.le_of_ble_eq_true rfl, Nat.le_of_ble_eq_true rfl⟩) rfl hl.1 rfl (Nat.le_of_ble_eq_true rfl) dL_law_356 ⟨(show cz107 + 0 + 0 ≤ 870912 by omega), (show sz107 + 0 + 0 ≤ 6489511 by omega)⟩ (fun i74 h => ?_)
                  refine lv_goto (tgt := 386) hx hb dL_law_359 (by decide) ?_
                  refine lv_istore (lv' := [(15, .int i74), (12, .int i31), (11, .int i29), (10, .int i28), (9, .int i25), (8, .ref a17), (7, .ref a15), (6, .ref a13), (5, .ref a11), (4, .ref a9), (3, .ref a7), (2, .ref a5), (1, .ref a1), (0, .ref b), (13, .int i32), (14, .int i33)]) hx hb dL_law_386 hl (by decide) rfl (fun ls hl => ?_)
                  exact kc388 i74 _ h (lv_sub hl [1, 2, 3, 4, 5, 6, 7, 8, 9, 10, 11, 12, 13, 14, 15, 0] rfl)
                · have h := h.1 c73
                  refine lv_bipush (v := (nI 25)) hx hb dL_law_350 (by decide) ?_
                  refine lv_goto (tgt := 356) hx hb dL_law_352 (by decide) ?_
                  refine cS_si (As := [.int (i29 >>> ((nI 7) &&& 31)), .int (nI 25)]) (rest := []) (n := 2) CF hZ (c_L_low l ((i29 >>> ((nI 7) &&& 31))) (nI 25) _ h) (va_cwS 2 hts gL_law_L_low rfl rfl rfl hdS_L_low ⟨Nat.le_of_ble_eq_true rfl, Nat.le_of_ble_eq_true rfl⟩) rfl hl.1 rfl (Nat.le_of_ble_eq_true rfl) dL_law_356 ⟨(show cz107 + 0 + 0 ≤ 870912 by omega), (show sz107 + 0 + 0 ≤ 6489511 by omega)⟩ (fun i75 h => ?_)
                  refine lv_goto (tgt := 386) hx hb dL_law_359 (by decide) ?_
                  refine lv_istore (lv' := [(15, .int i75), (12, .int i31), (11, .int i29), (10, .int i28), (9, .int i25), (8, .ref a17), (7, .ref a15), (6, .ref a13), (5, .ref a11), (4, .ref a9), (3, .ref a7), (2, .ref a5), (1, .ref a1), (0, .ref b), (13, .int i32), (14, .int i33)]) hx hb dL_law_386 hl (by decide) rfl (fun ls hl => ?_)
                  exact kc388 i75 _ h (lv_sub hl [1, 2, 3, 4, 5, 6, 7, 8, 9, 10, 11, 12, 13, 14, 15, 0] rfl)
            refine lv_icmp_ne (tgt := 243) hx hb dL_law_228 (by decide) (fun c76 => ?_) (fun c76 => ?_)
            · have h := h.2 c76
              refine lv_iload hx hb dL_law_243 (lv_at hl 0 rfl) ?_
              refine lv_iconst (v := (nI 2)) hx hb dL_law_245 (by decide) ?_
              refine lv_icmp_ne (tgt := 259) hx hb dL_law_246 (by decide) (fun c77 => ?_) (fun c77 => ?_)
              · have h := h.2 c77
                refine lv_iload hx hb dL_law_259 (lv_at hl 0 rfl) ?_
                refine lv_bipush (v := (nI 6)) hx hb dL_law_261 (by decide) ?_
                refine lv_icmp_ne (tgt := 298) hx hb dL_law_263 (by decide) (fun c78 => ?_) (fun c78 => ?_)
                · have h := h.2 c78
                  refine lv_iload hx hb dL_law_298 (lv_at hl 0 rfl) ?_
                  refine lv_bipush (v := (nI 7)) hx hb dL_law_300 (by decide) ?_
                  refine lv_icmp_ne (tgt := 316) hx hb dL_law_302 (by decide) (fun c79 => ?_) (fun c79 => ?_)
                  · have h := h.2 c79
                    refine lv_iload hx hb dL_law_316 (lv_at hl 1 rfl) ?_
                    refine lv_iconst (v := (nI 4)) hx hb dL_law_318 (by decide) ?_
                    refine lv_ishr hx hb dL_law_319 ?_
                    refine lv_bipush (v := (nI 6)) hx hb dL_law_320 (by decide) ?_
                    refine cS_si (As := [.int (i29 >>> ((nI 4) &&& 31)), .int (nI 6)]) (rest := []) (n := 2) CF hZ (c_L_low l ((i29 >>> ((nI 4) &&& 31))) (nI 6) _ h) (va_cwS 2 hts gL_law_L_low rfl rfl rfl hdS_L_low ⟨Nat.le_of_ble_eq_true rfl, Nat.le_of_ble_eq_true rfl⟩) rfl hl.1 rfl (Nat.le_of_ble_eq_true rfl) dL_law_322 ⟨(show cz107 + 0 + 0 ≤ 870912 by omega), (show sz107 + 0 + 0 ≤ 6489511 by omega)⟩ (fun i80 h => ?_)
                    refine lv_istore (lv' := [(14, .int i80), (12, .int i31), (11, .int i29), (10, .int i28), (9, .int i25), (8, .ref a17), (7, .ref a15), (6, .ref a13), (5, .ref a11), (4, .ref a9), (3, .ref a7), (2, .ref a5), (1, .ref a1), (0, .ref b), (13, .int i32)]) hx hb dL_law_325 hl (by decide) rfl (fun ls hl => ?_)
                    exact kc327 i80 _ h (lv_sub hl [1, 2, 3, 4, 5, 6, 7, 8, 9, 10, 11, 12, 13, 14, 0] rfl)
                  · have h := h.1 c79
                    refine lv_iload hx hb dL_law_305 (lv_at hl 1 rfl) ?_
                    refine lv_iconst (v := (nI 4)) hx hb dL_law_307 (by decide) ?_
                    refine lv_ishr hx hb dL_law_308 ?_
                    refine lv_iconst (v := (nI 4)) hx hb dL_law_309 (by decide) ?_
                    refine cS_si (As := [.int (i29 >>> ((nI 4) &&& 31)), .int (nI 4)]) (rest := []) (n := 2) CF hZ (c_L_low l ((i29 >>> ((nI 4) &&& 31))) (nI 4) _ h) (va_cwS 2 hts gL_law_L_low rfl rfl rfl hdS_L_low ⟨Nat.le_of_ble_eq_true rfl, Nat.le_of_ble_eq_true rfl⟩) rfl hl.1 rfl (Nat.le_of_ble_eq_true rfl) dL_law_310 ⟨(show cz107 + 0 + 0 ≤ 870912 by omega), (show sz107 + 0 + 0 ≤ 6489511 by omega)⟩ (fun i81 h => ?_)
                    refine lv_goto (tgt := 325) hx hb dL_law_313 (by decide) ?_
                    refine lv_istore (lv' := [(14, .int i81), (12, .int i31), (11, .int i29), (10, .int i28), (9, .int i25), (8, .ref a17), (7, .ref a15), (6, .ref a13), (5, .ref a11), (4, .ref a9), (3, .ref a7), (2, .ref a5), (1, .ref a1), (0, .ref b), (13, .int i32)]) hx hb dL_law_325 hl (by decide) rfl (fun ls hl => ?_)
                    exact kc327 i81 _ h (lv_sub hl [1, 2, 3, 4, 5, 6, 7, 8, 9, 10, 11, 12, 13, 14, 0] rfl)
                · have h := h.1 c78
                  refine lv_iconst (v := (nI 1)) hx hb dL_law_266 (by decide) ?_
                  refine lv_iload hx hb dL_law_267 (lv_at hl 1 rfl) ?_
                  refine lv_iconst (v := (nI 4)) hx hb dL_law_269 (by decide) ?_
                  refine lv_ishr hx hb dL_law_270 ?_
                  refine lv_iload hx hb dL_law_271 (lv_at hl 1 rfl) ?_
                  refine lv_bipush (v := (nI 20)) hx hb dL_law_273 (by decide) ?_
                  refine lv_ishr hx hb dL_law_275 ?_
                  refine lv_iconst (v := (nI 4)) hx hb dL_law_276 (by decide) ?_
                  refine cS_si (As := [.int (i29 >>> ((nI 20) &&& 31)), .int (nI 4)]) (rest := [.int (i29 >>> ((nI 4) &&& 31)), .int (nI 1)]) (n := 2) CF hZ (c_L_low l ((i29 >>> ((nI 20) &&& 31))) (nI 4) _ h) (va_cwS 2 hts gL_law_L_low rfl rfl rfl hdS_L_low ⟨Nat.le_of_ble_eq_true rfl, Nat.le_of_ble_eq_true rfl⟩) rfl hl.1 rfl (Nat.le_of_ble_eq_true rfl) dL_law_277 ⟨(show cz107 + 0 + 0 ≤ 870912 by omega), (show sz107 + 0 + 0 ≤ 6489511 by omega)⟩ (fun i82 h => ?_)
                  refine lv_if_ne (tgt := 289) hx hb dL_law_280 (by decide) (fun c83 => ?_) (fun c83 => ?_)
                  · have h := h.2 c83
                    refine lv_bipush (v := (nI 7)) hx hb dL_law_289 (by decide) ?_
                    refine cS_si (As := [.int (i29 >>> ((nI 4) &&& 31)), .int (nI 7)]) (rest := [.int (nI 1)]) (n := 2) CF hZ (c_L_low l ((i29 >>> ((nI 4) &&& 31))) (nI 7) _ h) (va_cwS 2 hts gL_law_L_low rfl rfl rfl hdS_L_low ⟨Nat.le_of_ble_eq_true rfl, Nat.le_of_ble_eq_true rfl⟩) rfl hl.1 rfl (Nat.le_of_ble_eq_true rfl) dL_law_291 ⟨(show cz107 + 0 + 0 ≤ 870912 by omega), (show sz107 + 0 + 0 ≤ 6489511 by omega)⟩ (fun i84 h => ?_)
                    refine lv_iadd hx hb dL_law_294 ?_
                    refine lv_goto (tgt := 325) hx hb dL_law_295 (by decide) ?_
                    refine lv_topi (fun i85 ei85 => ?_)
                    have h := h i85 ei85
                    refine lv_istore (lv' := [(14, .int i85), (12, .int i31), (11, .int i29), (10, .int i28), (9, .int i25), (8, .ref a17), (7, .ref a15), (6, .ref a13), (5, .ref a11), (4, .ref a9), (3, .ref a7), (2, .ref a5), (1, .ref a1), (0, .ref b), (13, .int i32)]) hx hb dL_law_325 hl (by decide) rfl (fun ls hl => ?_)
                    exact kc327 i85 _ h (lv_sub hl [1, 2, 3, 4, 5, 6, 7, 8, 9, 10, 11, 12, 13, 14, 0] rfl)
                  · have h := h.1 c83
                    refine lv_sipush (v := (nI 1000)) hx hb dL_law_283 (by decide) ?_
                    refine lv_goto (tgt := 291) hx hb dL_law_286 (by decide) ?_
                    refine cS_si (As := [.int (i29 >>> ((nI 4) &&& 31)), .int (nI 1000)]) (rest := [.int (nI 1)]) (n := 2) CF hZ (c_L_low l ((i29 >>> ((nI 4) &&& 31))) (nI 1000) _ h) (va_cwS 2 hts gL_law_L_low rfl rfl rfl hdS_L_low ⟨Nat.le_of_ble_eq_true rfl, Nat.le_of_ble_eq_true rfl⟩) rfl hl.1 rfl (Nat.le_of_ble_eq_true rfl) dL_law_291 ⟨(show cz107 + 0 + 0 ≤ 870912 by omega), (show sz107 + 0 + 0 ≤ 6489511 by omega)⟩ (fun i86 h => ?_)
                    refine lv_iadd hx hb dL_law_294 ?_
                    refine lv_goto (tgt := 325) hx hb dL_law_295 (by decide) ?_
                    refine lv_topi (fun i87 ei87 => ?_)
                    have h := h i87 ei87
                    refine lv_istore (lv' := [(14, .int i87), (12, .int i31), (11, .int i29), (10, .int i28), (9, .int i25), (8, .ref a17), (7, .ref a15), (6, .ref a13), (5, .ref a11), (4, .ref a9), (3, .ref a7), (2, .ref a5), (1, .ref a1), (0, .ref b), (13, .int i32)]) hx hb dL_law_325 hl (by decide) rfl (fun ls hl => ?_)
                    exact kc327 i87 _ h (lv_sub hl [1, 2, 3, 4, 5, 6, 7, 8, 9, 10, 11, 12, 13, 14, 0] rfl)
              · have h := h.1 c77
                refine lv_iload hx hb dL_law_249 (lv_at hl 1 rfl) ?_
                refine lv_iconst (v := (nI 3)) hx hb dL_law_251 (by decide) ?_
                refine lv_ishr hx hb dL_law_252 ?_
                refine lv_ldc hx hb hown (hts _ (List.mem_of_getElem? (i := 4) (by decide +kernel : wsL_law[4]? = some (Cond.constant RL 144 (16777215))))) dL_law_253 ?_
                refine lv_iand hx hb dL_law_255 ?_
                refine lv_goto (tgt := 325) hx hb dL_law_256 (by decide) ?_
                refine lv_topi (fun i88 ei88 => ?_)
                have h := h i88 ei88
                refine lv_istore (lv' := [(14, .int i88), (12, .int i31), (11, .int i29), (10, .int i28), (9, .int i25), (8, .ref a17), (7, .ref a15), (6, .ref a13), (5, .ref a11), (4, .ref a9), (3, .ref a7), (2, .ref a5), (1, .ref a1), (0, .ref b), (13, .int i32)]) hx hb dL_law_325 hl (by decide) rfl (fun ls hl => ?_)
                exact kc327 i88 _ h (lv_sub hl [1, 2, 3, 4, 5, 6, 7, 8, 9, 10, 11, 12, 13, 14, 0] rfl)
            · have h := h.1 c76
              refine lv_iload hx hb dL_law_231 (lv_at hl 1 rfl) ?_
              refine lv_iconst (v := (nI 4)) hx hb dL_law_233 (by decide) ?_
              refine lv_ishr hx hb dL_law_234 ?_
              refine lv_bipush (v := (nI 64)) hx hb dL_law_235 (by decide) ?_
              refine cS_si (As := [.int (i29 >>> ((nI 4) &&& 31)), .int (nI 64)]) (rest := []) (n := 2) CF hZ (c_L_low l ((i29 >>> ((nI 4) &&& 31))) (nI 64) _ h) (va_cwS 2 hts gL_law_L_low rfl rfl rfl hdS_L_low ⟨Nat.le_of_ble_eq_true rfl, Nat.le_of_ble_eq_true rfl⟩) rfl hl.1 rfl (Nat.le_of_ble_eq_true rfl) dL_law_237 ⟨(show cz107 + 0 + 0 ≤ 870912 by omega), (show sz107 + 0 + 0 ≤ 6489511 by omega)⟩ (fun i89 h => ?_)
              refine lv_goto (tgt := 325) hx hb dL_law_240 (by decide) ?_
              refine lv_istore (lv' := [(14, .int i89), (12, .int i31), (11, .int i29), (10, .int i28), (9, .int i25), (8, .ref a17), (7, .ref a15), (6, .ref a13), (5, .ref a11), (4, .ref a9), (3, .ref a7), (2, .ref a5), (1, .ref a1), (0, .ref b), (13, .int i32)]) hx hb dL_law_325 hl (by decide) rfl (fun ls hl => ?_)
              exact kc327 i89 _ h (lv_sub hl [1, 2, 3, 4, 5, 6, 7, 8, 9, 10, 11, 12, 13, 14, 0] rfl)
          refine lv_if_eq (tgt := 206) hx hb dL_law_196 (by decide) (fun c90 => ?_) (fun c90 => ?_)
          · have h := h.1 c90
            refine lv_iload hx hb dL_law_206 (lv_at hl 1 rfl) ?_
            refine lv_bipush (v := (nI 12)) hx hb dL_law_208 (by decide) ?_
            refine cS_si (As := [.int i29, .int (nI 12)]) (rest := []) (n := 2) CF hZ (c_L_low l i29 (nI 12) _ h) (va_cwS 2 hts gL_law_L_low rfl rfl rfl hdS_L_low ⟨Nat.le_of_ble_eq_true rfl, Nat.le_of_ble_eq_true rfl⟩) rfl hl.1 rfl (Nat.le_of_ble_eq_true rfl) dL_law_210 ⟨(show cz107 + 0 + 0 ≤ 870912 by omega), (show sz107 + 0 + 0 ≤ 6489511 by omega)⟩ (fun i91 h => ?_)
            refine lv_goto (tgt := 223) hx hb dL_law_213 (by decide) ?_
            refine lv_istore (lv' := [(13, .int i91), (12, .int i31), (11, .int i29), (10, .int i28), (9, .int i25), (8, .ref a17), (7, .ref a15), (6, .ref a13), (5, .ref a11), (4, .ref a9), (3, .ref a7), (2, .ref a5), (1, .ref a1), (0, .ref b)]) hx hb dL_law_223 hl (by decide) rfl (fun ls hl => ?_)
            exact kc225 i91 _ h (lv_sub hl [1, 2, 3, 4, 5, 6, 7, 8, 9, 10, 11, 12, 13, 0] rfl)
          · have h := h.2 c90
            refine lv_iload hx hb dL_law_199 (lv_at hl 0 rfl) ?_
            refine lv_bipush (v := (nI 7)) hx hb dL_law_201 (by decide) ?_
            refine lv_icmp_ne (tgt := 216) hx hb dL_law_203 (by decide) (fun c92 => ?_) (fun c92 => ?_)
            · have h := h.2 c92
              refine lv_iload hx hb dL_law_216 (lv_at hl 1 rfl) ?_
              refine lv_bipush (v := (nI 6)) hx hb dL_law_218 (by decide) ?_
              refine cS_si (As := [.int i29, .int (nI 6)]) (rest := []) (n := 2) CF hZ (c_L_low l i29 (nI 6) _ h) (va_cwS 2 hts gL_law_L_low rfl rfl rfl hdS_L_low ⟨Nat.le_of_ble_eq_true rfl, Nat.le_of_ble_eq_true rfl⟩) rfl hl.1 rfl (Nat.le_of_ble_eq_true rfl) dL_law_220 ⟨(show cz107 + 0 + 0 ≤ 870912 by omega), (show sz107 + 0 + 0 ≤ 6489511 by omega)⟩ (fun i93 h => ?_)
              refine lv_istore (lv' := [(13, .int i93), (12, .int i31), (11, .int i29), (10, .int i28), (9, .int i25), (8, .ref a17), (7, .ref a15), (6, .ref a13), (5, .ref a11), (4, .ref a9), (3, .ref a7), (2, .ref a5), (1, .ref a1), (0, .ref b)]) hx hb dL_law_223 hl (by decide) rfl (fun ls hl => ?_)
              exact kc225 i93 _ h (lv_sub hl [1, 2, 3, 4, 5, 6, 7, 8, 9, 10, 11, 12, 13, 0] rfl)
            · have h := h.1 c92
              refine lv_iload hx hb dL_law_206 (lv_at hl 1 rfl) ?_
              refine lv_bipush (v := (nI 12)) hx hb dL_law_208 (by decide) ?_
              refine cS_si (As := [.int i29, .int (nI 12)]) (rest := []) (n := 2) CF hZ (c_L_low l i29 (nI 12) _ h) (va_cwS 2 hts gL_law_L_low rfl rfl rfl hdS_L_low ⟨Nat.le_of_ble_eq_true rfl, Nat.le_of_ble_eq_true rfl⟩) rfl hl.1 rfl (Nat.le_of_ble_eq_true rfl) dL_law_210 ⟨(show cz107 + 0 + 0 ≤ 870912 by omega), (show sz107 + 0 + 0 ≤ 6489511 by omega)⟩ (fun i94 h => ?_)
              refine lv_goto (tgt := 223) hx hb dL_law_213 (by decide) ?_
              refine lv_istore (lv' := [(13, .int i94), (12, .int i31), (11, .int i29), (10, .int i28), (9, .int i25), (8, .ref a17), (7, .ref a15), (6, .ref a13), (5, .ref a11), (4, .ref a9), (3, .ref a7), (2, .ref a5), (1, .ref a1), (0, .ref b)]) hx hb dL_law_223 hl (by decide) rfl (fun ls hl => ?_)
              exact kc225 i94 _ h (lv_sub hl [1, 2, 3, 4, 5, 6, 7, 8, 9, 10, 11, 12, 13, 0] rfl)
        refine lv_icmp_ge (tgt := 155) hx hb dL_law_148 (by decide) (fun c95 => ?_) (fun c95 => ?_)
        · have h := h.1 c95
          refine lv_iload hx hb dL_law_155 (lv_at hl 0 rfl) ?_
          refine lv_iconst (v := (nI 4)) hx hb dL_law_157 (by decide) ?_
          refine lv_icmp_ge (tgt := 165) hx hb dL_law_158 (by decide) (fun c96 => ?_) (fun c96 => ?_)
          · have h := h.1 c96
            refine lv_iload hx hb dL_law_165 (lv_at hl 0 rfl) ?_
            refine lv_bipush (v := (nI 8)) hx hb dL_law_167 (by decide) ?_
            refine lv_icmp_ge (tgt := 176) hx hb dL_law_169 (by decide) (fun c97 => ?_) (fun c97 => ?_)
            · have h := h.1 c97
              refine lv_iload hx hb dL_law_176 (lv_at hl 0 rfl) ?_
              refine lv_bipush (v := (nI 12)) hx hb dL_law_178 (by decide) ?_
              refine lv_icmp_ge (tgt := 190) hx hb dL_law_180 (by decide) (fun c98 => ?_) (fun c98 => ?_)
              · have h := h.1 c98
                refine lv_bipush (v := (nI 7)) hx hb dL_law_190 (by decide) ?_
                refine lv_istore (lv' := [(12, .int (nI 7)), (11, .int i29), (10, .int i28), (9, .int i25), (8, .ref a17), (7, .ref a15), (6, .ref a13), (5, .ref a11), (4, .ref a9), (3, .ref a7), (2, .ref a5), (1, .ref a1), (0, .ref b)]) hx hb dL_law_192 hl (by decide) rfl (fun ls hl => ?_)
                exact kc194 (nI 7) _ h (lv_sub hl [0, 1, 2, 3, 4, 5, 6, 7, 8, 9, 10, 11, 12] rfl)
              · have h := h.2 c98
                refine lv_iload hx hb dL_law_183 (lv_at hl 0 rfl) ?_
                refine lv_iconst (v := (nI 5)) hx hb dL_law_185 (by decide) ?_
                refine lv_isub hx hb dL_law_186 ?_
                refine lv_goto (tgt := 192) hx hb dL_law_187 (by decide) ?_
                refine lv_topi (fun i99 ei99 => ?_)
                have h := h i99 ei99
                refine lv_istore (lv' := [(12, .int i99), (11, .int i29), (10, .int i28), (9, .int i25), (8, .ref a17), (7, .ref a15), (6, .ref a13), (5, .ref a11), (4, .ref a9), (3, .ref a7), (2, .ref a5), (1, .ref a1), (0, .ref b)]) hx hb dL_law_192 hl (by decide) rfl (fun ls hl => ?_)
                exact kc194 i99 _ h (lv_sub hl [0, 1, 2, 3, 4, 5, 6, 7, 8, 9, 10, 11, 12] rfl)
            · have h := h.2 c97
              refine lv_iconst (v := (nI 2)) hx hb dL_law_172 (by decide) ?_
              refine lv_goto (tgt := 192) hx hb dL_law_173 (by decide) ?_
              refine lv_istore (lv' := [(12, .int (nI 2)), (11, .int i29), (10, .int i28), (9, .int i25), (8, .ref a17), (7, .ref a15), (6, .ref a13), (5, .ref a11), (4, .ref a9), (3, .ref a7), (2, .ref a5), (1, .ref a1), (0, .ref b)]) hx hb dL_law_192 hl (by decide) rfl (fun ls hl => ?_)
              exact kc194 (nI 2) _ h (lv_sub hl [0, 1, 2, 3, 4, 5, 6, 7, 8, 9, 10, 11, 12] rfl)
          · have h := h.2 c96
            refine lv_iconst (v := (nI 1)) hx hb dL_law_161 (by decide) ?_
            refine lv_goto (tgt := 192) hx hb dL_law_162 (by decide) ?_
            refine lv_istore (lv' := [(12, .int (nI 1)), (11, .int i29), (10, .int i28), (9, .int i25), (8, .ref a17), (7, .ref a15), (6, .ref a13), (5, .ref a11), (4, .ref a9), (3, .ref a7), (2, .ref a5), (1, .ref a1), (0, .ref b)]) hx hb dL_law_192 hl (by decide) rfl (fun ls hl => ?_)
            exact kc194 (nI 1) _ h (lv_sub hl [0, 1, 2, 3, 4, 5, 6, 7, 8, 9, 10, 11, 12] rfl)
        · have h := h.2 c95
          refine lv_iconst (v := (nI 0)) hx hb dL_law_151 (by decide) ?_
          refine lv_goto (tgt := 192) hx hb dL_law_152 (by decide) ?_
          refine lv_istore (lv' := [(12, .int (nI 0)), (11, .int i29), (10, .int i28), (9, .int i25), (8, .ref a17), (7, .ref a15), (6, .ref a13), (5, .ref a11), (4, .ref a9), (3, .ref a7), (2, .ref a5), (1, .ref a1), (0, .ref b)]) hx hb dL_law_192 hl (by decide) rfl (fun ls hl => ?_)
          exact kc194 (nI 0) _ h (lv_sub hl [0, 1, 2, 3, 4, 5, 6, 7, 8, 9, 10, 11, 12] rfl)
    · have h := h.2 c24
      refine lv_aload_n hx hb dL_law_90 rfl (lv_at hl 6 rfl) ?_
      refine lv_iload hx hb dL_law_91 (lv_at hl 0 rfl) ?_
      refine lv_iconst (v := (nI 1)) hx hb dL_law_93 (by decide) ?_
      refine lv_iload hx hb dL_law_94 (lv_at hl 0 rfl) ?_
      refine lv_ishl hx hb dL_law_96 ?_
      obtain ⟨n101, f102, e103, e103', h⟩ := h
      refine r_iast C hO e103 e103' dL_law_97 (fun H locs hO => ?_)
      obtain ⟨S104, eS104⟩ : ∃ Sx, Sx = va_up S23 a7 (aI n101 (upd f102 (i22).toNatClampNeg ((nI 1) <<< (i22 &&& 31)))) := ⟨_, rfl⟩
      rw [← eS104] at hO
      have h := h S104 eS104
      obtain ⟨i105, ei105⟩ : ∃ y : Int32, y = i22 + (nI 1) := ⟨_, rfl⟩
      have h := h i105 ei105
      refine lv_iinc (v := i105) (lv' := [(9, .int i105), (8, .ref a17), (7, .ref a15), (6, .ref a13), (5, .ref a11), (4, .ref a9), (3, .ref a7), (2, .ref a5), (1, .ref a1), (0, .ref b)]) hx hb dL_law_98 hl (k := 0) rfl (by rw [ei105]; rfl) (by decide) rfl (fun ls hl => ?_)
      refine lv_goto (tgt := 83) hx hb dL_law_101 (by decide) ?_
      exact ih83 (i105, S104) _ _ _ h (lv_sub hl [0, 1, 2, 3, 4, 5, 6, 7, 8, 9] rfl) hO
  · have h := h.2 c21
    refine lv_aload_n hx hb dL_law_58 rfl (lv_at hl 7 rfl) ?_
    refine lv_iload hx hb dL_law_59 (lv_at hl 0 rfl) ?_
    refine lv_iload hx hb dL_law_61 (lv_at hl 0 rfl) ?_
    refine lv_bipush (v := (nI 6)) hx hb dL_law_63 (by decide) ?_
    refine lv_irem hx hb dL_law_65 (by decide) ?_
    obtain ⟨n107, f108, e109, e109', h⟩ := h
    refine r_iast C hO e109 e109' dL_law_66 (fun H locs hO => ?_)
    obtain ⟨S110, eS110⟩ : ∃ Sx, Sx = va_up S20 a5 (aI n107 (upd f108 (i19).toNatClampNeg (i19 - i19 / (nI 6) * (nI 6)))) := ⟨_, rfl⟩
    rw [← eS110] at hO
    have h := h S110 eS110
    refine lv_aload hx hb dL_law_67 (lv_at hl 5 rfl) ?_
    refine lv_iload hx hb dL_law_69 (lv_at hl 0 rfl) ?_
    refine lv_iload hx hb dL_law_71 (lv_at hl 0 rfl) ?_
    obtain ⟨n111, f112, e113, e113', h⟩ := h
    refine r_iast C hO e113 e113' dL_law_73 (fun H locs hO => ?_)
    obtain ⟨S114, eS114⟩ : ∃ Sx, Sx = va_up S110 a9 (aI n111 (upd f112 (i19).toNatClampNeg i19)) := ⟨_, rfl⟩
    rw [← eS114] at hO
    have h := h S114 eS114
    obtain ⟨i115, ei115⟩ : ∃ y : Int32, y = i19 + (nI 1) := ⟨_, rfl⟩
    have h := h i115 ei115
    refine lv_iinc (v := i115) (lv' := [(9, .int i115), (8, .ref a17), (7, .ref a15), (6, .ref a13), (5, .ref a11), (4, .ref a9), (3, .ref a7), (2, .ref a5), (1, .ref a1), (0, .ref b)]) hx hb dL_law_74 hl (k := 0) rfl (by rw [ei115]; rfl) (by decide) rfl (fun ls hl => ?_)
    refine lv_goto (tgt := 51) hx hb dL_law_77 (by decide) ?_
    exact ih51 (i115, S114) _ _ _ h (lv_sub hl [0, 1, 2, 3, 4, 5, 6, 7, 8, 9] rfl) hO
