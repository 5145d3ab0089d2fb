theorem hdS_X8_repeats : yX8_repeats.cls ≠ "java/lang/invoke/MethodHandle" ∧ yX8_repeats.cls ≠ "java/lang/invoke/VarHandle" ∧ (parseMethodDescriptor yX8_repeats.desc).map (fun d => d.parameters.length) = some 1 := by decide +kernel
set_option maxHeartbeats 4000000 in
set_option maxRecDepth 100000 in
theorem c_X8_repeats (l : Launch) (D : va_G) (Y : Nat → ClassId) (L : List Nat) (S : PS) (sz : Nat) (a0 : Nat) (v1 : Int32) (Post : Int32 → PS → Prop) (h : wp_X8_repeats S a0 v1 Post) : Met l yX8_repeats wsX8_repeats ({ frames := 2, cells := 0, slots := 0, locals := 44 }) (va_Pc [.ref a0, .int v1] (PrO D Y L S sz)) (va_Qi Post (QtO D Y (fR L sz)) (fR L sz)) 0 0 (fR L sz) := by
  refine Met.ofW (cc := cX8_repeats) (maxL := 4) (ret := (some .int)) (by decide) rfl ?_
  intro p e s m args below meth c s₁ B hml hv
  obtain ⟨rfl, hsz, hJ, hP, hK, hD0, hZ⟩ := hv
  have hx := B.exec
  have hb := B.bytes
  have hr := B.returns
  have hts := atoms_spec (ws := wsX8_repeats) B.pre
  have hown : s.vm.findClass RX8 = some m.cls := findClass_of_methodNamed B.named
  have hlocks := B.notSynchronized
  have CF : CallFix p m c cX8_repeats 4 s ([.ref a0, .int v1] : List Value).toArray wsX8_repeats RX8 := ⟨hx, hb, hml, hown, hts⟩
  have C : CX p m c cX8_repeats 4 s ([.ref a0, .int v1] : List Value).toArray wsX8_repeats RX8 D Y := ⟨CF, hK, hZ⟩
  have hO : HO D Y (fR L sz) s.heap S s.heap [] := HO.entry hsz hJ hP hD0
  subst hsz
  have hl := lv_entry ([.ref a0, .int v1]) (n := 4) (Nat.le_of_ble_eq_true rfl)
  rw [lg_entry_eq]
  generalize (lg_sl ([.ref a0, .int v1]) ++ List.replicate (4 - (lg_sl ([.ref a0, .int v1])).length) Slot.unset).toArray = ls at hl ⊢
  have hl : lv_has ls 4 [(0, .ref a0), (1, .int v1)] := hl
  unfold wp_X8_repeats at h
  refine lv_aload_n hx hb dX8_repeats_0 rfl (lv_at hl 0 rfl) ?_
  obtain ⟨fs3, e2, h⟩ := h
  refine cV_wv (As := []) (rest := []) (n := 0) C hO (fun L => c_X8_takeThreads l D Y L S s.heap.size a0 _ h) 6 rfl e2 (cwV 0 hts gX8_repeats_X8_takeThreads rfl rfl rfl ⟨rfl, hdS_X8_takeThreads⟩ ⟨Nat.le_of_ble_eq_true rfl, Nat.le_of_ble_eq_true rfl⟩) rfl hl.1 rfl (Nat.le_of_ble_eq_true rfl) dX8_repeats_1 ⟨Nat.le_of_ble_eq_true rfl, Nat.le_of_ble_eq_true rfl⟩ (fun S1 H locs h hO => ?_)
  refine lv_iconst (v := (nI 0)) hx hb dX8_repeats_4 (by decide) ?_
  refine lv_istore_n (lv' := [(2, .int (nI 0)), (0, .ref a0), (1, .int v1)]) hx hb dX8_repeats_5 rfl hl (by decide) rfl (fun ls hl => ?_)
  refine lv_iconst (v := (nI 0)) hx hb dX8_repeats_6 (by decide) ?_
  refine lv_istore_n (lv' := [(3, .int (nI 0)), (2, .int (nI 0)), (0, .ref a0), (1, .int v1)]) hx hb dX8_repeats_7 rfl hl (by decide) rfl (fun ls hl => ?_)
  obtain ⟨n15, h⟩ := h
  refine lp_W (nL := 4) (fun q => [(3, .int q.1), (2, .int q.2.1), (0, .ref a0), (1, .int v1)]) (fun q => q.2.2) h (lv_sub hl [0, 1, 2, 3] rfl) hO (fun K8 ih8 q ls H locs h hl hO => ?_)
  obtain ⟨i4, i5, S6⟩ := q
  have h : wpb_X8_repeats_8 a0 v1 Post K8 i4 i5 S6 := h
  have hl : lv_has ls 4 [(3, .int i4), (2, .int i5), (0, .ref a0), (1, .int v1)] := hl
  have hO : HO D Y (fR L s.heap.size) s.heap S6 H locs := hO
  unfold wpb_X8_repeats_8 at h
  refine lv_iload_n hx hb dX8_repeats_8 rfl (lv_at hl 0 rfl) ?_
  refine lv_if_ne (tgt := 28) hx hb dX8_repeats_9 (by decide) (fun c7 => ?_) (fun c7 => ?_)
  · have h := h.2 c7
    refine lv_iload_n hx hb dX8_repeats_28 rfl (lv_at hl 1 rfl) ?_
    exact W.iret hx hb hr (fun t ht hW => ⟨⟨i5, S6, rfl, h, hO.q ht⟩, hO.f ht⟩) hO.lc dX8_repeats_29
  · have h := h.1 c7
    refine lv_aload_n hx hb dX8_repeats_12 rfl (lv_at hl 2 rfl) ?_
    refine lv_iload_n hx hb dX8_repeats_13 rfl (lv_at hl 3 rfl) ?_
    obtain ⟨fs10, e9, h⟩ := h
    refine cV_wv (As := [.int v1]) (rest := []) (n := 1) C hO (fun L => c_X8_weaveOnce l D Y L S6 H.size a0 v1 _ h) 6 rfl e9 (cwV 1 hts gX8_repeats_X8_weaveOnce rfl rfl rfl ⟨rfl, hdS_X8_weaveOnce⟩ ⟨Nat.le_of_ble_eq_true rfl, Nat.le_of_ble_eq_true rfl⟩) rfl hl.1 rfl (Nat.le_of_ble_eq_true rfl) dX8_repeats_14 ⟨Nat.le_of_ble_eq_true rfl, Nat.le_of_ble_eq_true rfl⟩ (fun S8 H locs h hO => ?_)
    obtain ⟨i11, ei11⟩ : ∃ y : Int32, y = i5 + (nI 1) := ⟨_, rfl⟩
    have h := h i11 ei11
    refine lv_iinc (v := i11) (lv' := [(2, .int i11), (3, .int i4), (0, .ref a0), (1, .int v1)]) hx hb dX8_repeats_17 hl (k := 1) rfl (by rw [ei11]; rfl) (by decide) rfl (fun ls hl => ?_)
    refine lv_aload_n hx hb dX8_repeats_20 rfl (lv_at hl 2 rfl) ?_
    obtain ⟨fs14, e13, h⟩ := h
    refine cV_ri (As := []) (rest := []) (n := 0) C hO (fun L => c_X8_isSameCloth l D Y L S8 H.size a0 _ h) 6 rfl e13 (cwV 0 hts gX8_repeats_X8_isSameCloth rfl rfl rfl ⟨rfl, hdS_X8_isSameCloth⟩ ⟨Nat.le_of_ble_eq_true rfl, Nat.le_of_ble_eq_true rfl⟩) rfl hl.1 rfl (Nat.le_of_ble_eq_true rfl) dX8_repeats_21 ⟨Nat.le_of_ble_eq_true rfl, Nat.le_of_ble_eq_true rfl⟩ (fun i12 h => ?_)
    refine lv_istore_n (lv' := [(3, .int i12), (2, .int i11), (0, .ref a0), (1, .int v1)]) hx hb dX8_repeats_24 rfl hl (by decide) rfl (fun ls hl => ?_)
    refine lv_goto (tgt := 8) hx hb dX8_repeats_25 (by decide) ?_
    exact ih8 (i12, i11, S8) _ _ _ h (lv_sub hl [0, 1, 2, 3] rfl) hO
theorem hdS_X8_homeNow : yX8_homeNow.cls ≠ "java/lang/invoke/MethodHandle" ∧ yX8_homeNow.cls ≠ "java/lang/invoke/VarHandle" ∧ (parseMethodDescriptor yX8_homeNow.desc).map (fun d => d.parameters.length) = some 0 := by decide +kernel
set_option maxHeartbeats 4000000 in
set_option maxRecDepth 100000 in
theorem c_X8_homeNow (l : Launch) (D : va_G) (Y : Nat → ClassId) (L : List Nat) (S : PS) (sz : Nat) (a0 : Nat) (Post : Int32 → Prop) (h : wp_X8_homeNow S a0 Post) : Met l yX8_homeNow wsX8_homeNow ({ frames := 0, cells := 0, slots := 0, locals := 0 }) (va_Pc [.ref a0] (PrO D Y L S sz)) (vp_Si Post) 0 0 (fun _ => False) := by
  refine Met.ofW (cc := cX8_homeNow) (maxL := 3) (ret := (some .int)) (by decide) rfl ?_
  intro p e s m args below meth c s₁ B hml hv
  obtain ⟨rfl, hsz, hJ, hP, hK, hD0, hZ⟩ := hv
  have hx := B.exec
  have hb := B.bytes
  have hr := B.returns
  have hts := atoms_spec (ws := wsX8_homeNow) B.pre
  have hown : s.vm.findClass RX8 = some m.cls := findClass_of_methodNamed B.named
  have hlocks := B.notSynchronized
  have CF : CallFix p m c cX8_homeNow 3 s ([.ref a0] : List Value).toArray wsX8_homeNow RX8 := ⟨hx, hb, hml, hown, hts⟩
  have C : CX p m c cX8_homeNow 3 s ([.ref a0] : List Value).toArray wsX8_homeNow RX8 D Y := ⟨CF, hK, hZ⟩
  have hO : HO D Y (fR L sz) s.heap S s.heap [] := HO.entry hsz hJ hP hD0
  subst hsz
  have inX8 : ∀ w ∈ wsX80, w ∈ wsX8_homeNow := fun w h => List.mem_cons_of_mem _ (List.mem_append_right _ h)
  have hl := lv_entry ([.ref a0]) (n := 3) (Nat.le_of_ble_eq_true rfl)
  rw [lg_entry_eq]
  generalize (lg_sl ([.ref a0]) ++ List.replicate (3 - (lg_sl ([.ref a0])).length) Slot.unset).toArray = ls at hl ⊢
  have hl : lv_has ls 3 [(0, .ref a0)] := hl
  unfold wp_X8_homeNow at h
  refine lv_iconst (v := (nI 0)) hx hb dX8_homeNow_0 (by decide) ?_
  refine lv_istore_n (lv' := [(1, .int (nI 0)), (0, .ref a0)]) hx hb dX8_homeNow_1 rfl hl (by decide) rfl (fun ls hl => ?_)
  refine lv_iconst (v := (nI 0)) hx hb dX8_homeNow_2 (by decide) ?_
  refine lv_istore_n (lv' := [(2, .int (nI 0)), (1, .int (nI 0)), (0, .ref a0)]) hx hb dX8_homeNow_3 rfl hl (by decide) rfl (fun ls hl => ?_)
  obtain ⟨n16, h⟩ := h
  refine lp_P (nL := 3) (fun q => [(2, .int q.1), (1, .int q.2), (0, .ref a0)]) h (lv_sub hl [0, 1, 2] rfl) (fun K4 ih4 q ls h hl => ?_)
  obtain ⟨i1, i2⟩ := q
  have h : wpb_X8_homeNow_4 S a0 Post K4 i1 i2 := h
  have hl : lv_has ls 3 [(2, .int i1), (1, .int i2), (0, .ref a0)] := hl
  unfold wpb_X8_homeNow_4 at h
  refine lv_iload_n hx hb dX8_homeNow_4 rfl (lv_at hl 0 rfl) ?_
  refine lv_bipush (v := (nI 12)) hx hb dX8_homeNow_5 (by decide) ?_
  refine lv_icmp_ge (tgt := 34) hx hb dX8_homeNow_7 (by decide) (fun c3 => ?_) (fun c3 => ?_)
  · have h := h.1 c3
    refine lv_iload_n hx hb dX8_homeNow_34 rfl (lv_at hl 1 rfl) ?_
    exact W.iret hx hb hr (fun t ht hW => ⟨i2, rfl, h, ht⟩) no_locs dX8_homeNow_35
  · have h := h.2 c3
    refine lv_iload_n hx hb dX8_homeNow_10 rfl (lv_at hl 1 rfl) ?_
    refine lv_aload_n hx hb dX8_homeNow_11 rfl (lv_at hl 2 rfl) ?_
    obtain ⟨fs4, a5, e6, e6', h⟩ := h
    refine r_get C hO 6 11 rfl inX8 (Nat.le_of_ble_eq_true rfl) e6 e6' (List.mem_of_getElem? (i := 1) (by decide +kernel)) dX8_homeNow_12 ?_
    refine lv_iload_n hx hb dX8_homeNow_15 rfl (lv_at hl 0 rfl) ?_
    obtain ⟨n7, f8, i10, e9, e9', exi10, h⟩ := h
    refine r_iald C hO e9 e9' dX8_homeNow_16 ?_
    rw [exi10]
    refine lv_iload_n hx hb dX8_homeNow_17 rfl (lv_at hl 0 rfl) ?_
    refine lv_icmp_ne (tgt := 25) hx hb dX8_homeNow_18 (by decide) (fun c11 => ?_) (fun c11 => ?_)
    · have h := h.2 c11
      refine lv_iconst (v := (nI 0)) hx hb dX8_homeNow_25 (by decide) ?_
      refine lv_iadd hx hb dX8_homeNow_26 ?_
      refine lv_topi (fun i12 ei12 => ?_)
      have h := h i12 ei12
      refine lv_istore_n (lv' := [(1, .int i12), (2, .int i1), (0, .ref a0)]) hx hb dX8_homeNow_27 rfl hl (by decide) rfl (fun ls hl => ?_)
      obtain ⟨i13, ei13⟩ : ∃ y : Int32, y = i1 + (nI 1) := ⟨_, rfl⟩
      have h := h i13 ei13
      refine lv_iinc (v := i13) (lv' := [(2, .int i13), (1, .int i12), (0, .ref a0)]) hx hb dX8_homeNow_28 hl (k := 1) rfl (by rw [ei13]; rfl) (by decide) rfl (fun ls hl => ?_)
      refine lv_goto (tgt := 4) hx hb dX8_homeNow_31 (by decide) ?_
      exact ih4 (i13, i12) _ h (lv_sub hl [0, 1, 2] rfl)
    · have h := h.1 c11
      refine lv_iconst (v := (nI 1)) hx hb dX8_homeNow_21 (by decide) ?_
      refine lv_goto (tgt := 26) hx hb dX8_homeNow_22 (by decide) ?_
      refine lv_iadd hx hb dX8_homeNow_26 ?_
      refine lv_topi (fun i14 ei14 => ?_)
      have h := h i14 ei14
      refine lv_istore_n (lv' := [(1, .int i14), (2, .int i1), (0, .ref a0)]) hx hb dX8_homeNow_27 rfl hl (by decide) rfl (fun ls hl => ?_)
      obtain ⟨i15, ei15⟩ : ∃ y : Int32, y = i1 + (nI 1) := ⟨_, rfl⟩
      have h := h i15 ei15
      refine lv_iinc (v := i15) (lv' := [(2, .int i15), (1, .int i14), (0, .ref a0)]) hx hb dX8_homeNow_28 hl (k := 1) rfl (by rw [ei15]; rfl) (by decide) rfl (fun ls hl => ?_)
      refine lv_goto (tgt := 4) hx hb dX8_homeNow_31 (by decide) ?_
      exact ih4 (i15, i14) _ h (lv_sub hl [0, 1, 2] rfl)
theorem hdS_X8_put : yX8_put.cls ≠ "java/lang/invoke/MethodHandle" ∧ yX8_put.cls ≠ "java/lang/invoke/VarHandle" ∧ (parseMethodDescriptor yX8_put.desc).map (fun d => d.parameters.length) = some 2 := by decide +kernel
set_option maxHeartbeats 4000000 in
set_option maxRecDepth 100000 in
theorem c_X8_put (l : Launch) (D : va_G) (Y : Nat → ClassId) (L : List Nat) (S : PS) (sz : Nat) (a0 : Nat) (v1 : Int32) (v2 : Int32) (Post : Int32 → PS → Prop) (h : wp_X8_put S a0 v1 v2 Post) : Met l yX8_put wsX8_put ({ frames := 2, cells := 0, slots := 0, locals := 42 }) (va_Pc [.ref a0, .int v1, .int v2] (PrO D Y L S sz)) (va_Qi Post (QtO D Y (fR L sz)) (fR L sz)) 0 0 (fR L sz) := by
  refine Met.ofW (cc := cX8_put) (maxL := 4) (ret := (some .int)) (by decide) rfl ?_
  intro p e s m args below meth c s₁ B hml hv
  obtain ⟨rfl, hsz, hJ, hP, hK, hD0, hZ⟩ := hv
  have hx := B.exec
  have hb := B.bytes
  have hr := B.returns
  have hts := atoms_spec (ws := wsX8_put) B.pre
  have hown : s.vm.findClass RX8 = some m.cls := findClass_of_methodNamed B.named
  have hlocks := B.notSynchronized
  have CF : CallFix p m c cX8_put 4 s ([.ref a0, .int v1, .int v2] : List Value).toArray wsX8_put RX8 := ⟨hx, hb, hml, hown, hts⟩
  have C : CX p m c cX8_put 4 s ([.ref a0, .int v1, .int v2] : List Value).toArray wsX8_put RX8 D Y := ⟨CF, hK, hZ⟩
  have hO : HO D Y (fR L sz) s.heap S s.heap [] := HO.entry hsz hJ hP hD0
  subst hsz
  have inX8 : ∀ w ∈ wsX80, w ∈ wsX8_put := fun w h => List.mem_cons_of_mem _ (List.mem_append_right _ h)
  have hl := lv_entry ([.ref a0, .int v1, .int v2]) (n := 4) (Nat.le_of_ble_eq_true rfl)
  rw [lg_entry_eq]
  generalize (lg_sl ([.ref a0, .int v1, .int v2]) ++ List.replicate (4 - (lg_sl ([.ref a0, .int v1, .int v2])).length) Slot.unset).toArray = ls at hl ⊢
  have hl : lv_has ls 4 [(0, .ref a0), (1, .int v1), (2, .int v2)] := hl
  unfold wp_X8_put at h
  refine lv_iload_n hx hb dX8_put_0 rfl (lv_at hl 1 rfl) ?_
  refine cS_si (As := [.int v1]) (rest := []) (n := 1) CF hZ (c_X8_isPlace l v1 _ h) (va_cwS 1 hts gX8_put_X8_isPlace rfl rfl rfl hdS_X8_isPlace ⟨Nat.le_of_ble_eq_true rfl, Nat.le_of_ble_eq_true rfl⟩) rfl hl.1 rfl (Nat.le_of_ble_eq_true rfl) dX8_put_1 ⟨Nat.le_of_ble_eq_true rfl, Nat.le_of_ble_eq_true rfl⟩ (fun i1 h => ?_)
  refine lv_if_eq (tgt := 16) hx hb dX8_put_4 (by decide) (fun c2 => ?_) (fun c2 => ?_)
  · have h := h.1 c2
    refine lv_iconst (v := (-1 : Int32)) hx hb dX8_put_16 (by decide) ?_
    exact W.iret hx hb hr (fun t ht hW => ⟨⟨(-1 : Int32), S, rfl, h, hO.q ht⟩, hO.f ht⟩) hO.lc dX8_put_17
  · have h := h.2 c2
    refine lv_iload_n hx hb dX8_put_7 rfl (lv_at hl 2 rfl) ?_
    refine lv_iconst (v := (nI 0)) hx hb dX8_put_8 (by decide) ?_
    refine lv_iconst (v := (nI 5)) hx hb dX8_put_9 (by decide) ?_
    refine cS_si (As := [.int v2, .int (nI 0), .int (nI 5)]) (rest := []) (n := 3) CF hZ (c_X8_within l v2 (nI 0) (nI 5) _ h) (va_cwS 3 hts gX8_put_X8_within rfl rfl rfl hdS_X8_within ⟨Nat.le_of_ble_eq_true rfl, Nat.le_of_ble_eq_true rfl⟩) rfl hl.1 rfl (Nat.le_of_ble_eq_true rfl) dX8_put_10 ⟨Nat.le_of_ble_eq_true rfl, Nat.le_of_ble_eq_true rfl⟩ (fun i3 h => ?_)
    refine lv_if_ne (tgt := 18) hx hb dX8_put_13 (by decide) (fun c4 => ?_) (fun c4 => ?_)
    · have h := h.2 c4
      refine lv_aload_n hx hb dX8_put_18 rfl (lv_at hl 0 rfl) ?_
      obtain ⟨fs7, e6, h⟩ := h
      refine cV_wv (As := []) (rest := []) (n := 0) C hO (fun L => c_X8_record l D Y L S s.heap.size a0 _ h) 6 rfl e6 (cwV 0 hts gX8_put_X8_record rfl rfl rfl ⟨rfl, hdS_X8_record⟩ ⟨Nat.le_of_ble_eq_true rfl, Nat.le_of_ble_eq_true rfl⟩) rfl hl.1 rfl (Nat.le_of_ble_eq_true rfl) dX8_put_19 ⟨Nat.le_of_ble_eq_true rfl, Nat.le_of_ble_eq_true rfl⟩ (fun S5 H locs h hO => ?_)
      refine lv_aload_n hx hb dX8_put_22 rfl (lv_at hl 0 rfl) ?_
      obtain ⟨fs8, a9, e10, e10', h⟩ := h
      refine r_get C hO 6 0 rfl inX8 (Nat.le_of_ble_eq_true rfl) e10 e10' (List.mem_of_getElem? (i := 1) (by decide +kernel)) dX8_put_23 ?_
      refine lv_iconst (v := (nI 0)) hx hb dX8_put_26 (by decide) ?_
      refine lv_iload_n hx hb dX8_put_27 rfl (lv_at hl 1 rfl) ?_
      refine lv_iadd hx hb dX8_put_28 ?_
      obtain ⟨n11, f12, i14, e13, e13', exi14, h⟩ := h
      refine r_iald C hO e13 e13' dX8_put_29 ?_
      rw [exi14]
      refine lv_istore_n (lv' := [(3, .int i14), (0, .ref a0), (1, .int v1), (2, .int v2)]) hx hb dX8_put_30 rfl hl (by decide) rfl (fun ls hl => ?_)
      refine lv_aload_n hx hb dX8_put_31 rfl (lv_at hl 1 rfl) ?_
      obtain ⟨fs15, a16, e17, e17', h⟩ := h
      refine r_get C hO 6 0 rfl inX8 (Nat.le_of_ble_eq_true rfl) e17 e17' (List.mem_of_getElem? (i := 1) (by decide +kernel)) dX8_put_32 ?_
      refine lv_iconst (v := (nI 0)) hx hb dX8_put_35 (by decide) ?_
      refine lv_iload_n hx hb dX8_put_36 rfl (lv_at hl 2 rfl) ?_
      refine lv_iadd hx hb dX8_put_37 ?_
      refine lv_iload_n hx hb dX8_put_38 rfl (lv_at hl 3 rfl) ?_
      obtain ⟨n18, f19, e20, e20', h⟩ := h
      refine r_iast C hO e20 e20' dX8_put_39 (fun H locs hO => ?_)
      obtain ⟨S21, eS21⟩ : ∃ Sx, Sx = va_up S5 a16 (aI n18 (upd f19 (((nI 0) + v1)).toNatClampNeg v2)) := ⟨_, rfl⟩
      rw [← eS21] at hO
      have h := h S21 eS21
      refine lv_iload_n hx hb dX8_put_40 rfl (lv_at hl 0 rfl) ?_
      exact W.iret hx hb hr (fun t ht hW => ⟨⟨i14, S21, rfl, h, hO.q ht⟩, hO.f ht⟩) hO.lc dX8_put_41
    · have h := h.1 c4
      refine lv_iconst (v := (-1 : Int32)) hx hb dX8_put_16 (by decide) ?_
      exact W.iret hx hb hr (fun t ht hW => ⟨⟨(-1 : Int32), S, rfl, h, hO.q ht⟩, hO.f ht⟩) hO.lc dX8_put_17
theorem hdS_X8_tie : yX8_tie.cls ≠ "java/lang/invoke/MethodHandle" ∧ yX8_tie.cls ≠ "java/lang/invoke/VarHandle" ∧ (parseMethodDescriptor yX8_tie.desc).map (fun d => d.parameters.length) = some 2 := by decide +kernel
set_option maxHeartbeats 4000000 in
set_option maxRecDepth 100000 in
theorem c_X8_tie (l : Launch) (D : va_G) (Y : Nat → ClassId) (L : List Nat) (S : PS) (sz : Nat) (a0 : Nat) (v1 : Int32) (v2 : Int32) (Post : Int32 → PS → Prop) (h : wp_X8_tie S a0 v1 v2 Post) : Met l yX8_tie wsX8_tie ({ frames := 1, cells := 0, slots := 0, locals := 23 }) (va_Pc [.ref a0, .int v1, .int v2] (PrO D Y L S sz)) (va_Qi Post (QtO D Y (fR L sz)) (fR L sz)) 0 0 (fR L sz) := by
  refine Met.ofW (cc := cX8_tie) (maxL := 3) (ret := (some .int)) (by decide) rfl ?_
  intro p e s m args below meth c s₁ B hml hv
  obtain ⟨rfl, hsz, hJ, hP, hK, hD0, hZ⟩ := hv
  have hx := B.exec
  have hb := B.bytes
  have hr := B.returns
  have hts := atoms_spec (ws := wsX8_tie) B.pre
  have hown : s.vm.findClass RX8 = some m.cls := findClass_of_methodNamed B.named
  have hlocks := B.notSynchronized
  have CF : CallFix p m c cX8_tie 3 s ([.ref a0, .int v1, .int v2] : List Value).toArray wsX8_tie RX8 := ⟨hx, hb, hml, hown, hts⟩
  have C : CX p m c cX8_tie 3 s ([.ref a0, .int v1, .int v2] : List Value).toArray wsX8_tie RX8 D Y := ⟨CF, hK, hZ⟩
  have hO : HO D Y (fR L sz) s.heap S s.heap [] := HO.entry hsz hJ hP hD0
  subst hsz
  have inX8 : ∀ w ∈ wsX80, w ∈ wsX8_tie := fun w h => List.mem_cons_of_mem _ (List.mem_append_right _ h)
  have hl := lv_entry ([.ref a0, .int v1, .int v2]) (n := 3) (Nat.le_of_ble_eq_true rfl)
  rw [lg_entry_eq]
  generalize (lg_sl ([.ref a0, .int v1, .int v2]) ++ List.replicate (3 - (lg_sl ([.ref a0, .int v1, .int v2])).length) Slot.unset).toArray = ls at hl ⊢
  have hl : lv_has ls 3 [(0, .ref a0), (1, .int v1), (2, .int v2)] := hl
  unfold wp_X8_tie at h
  refine lv_iload_n hx hb dX8_tie_0 rfl (lv_at hl 1 rfl) ?_
  refine lv_iconst (v := (nI 0)) hx hb dX8_tie_1 (by decide) ?_
  refine lv_iconst (v := (nI 5)) hx hb dX8_tie_2 (by decide) ?_
  refine cS_si (As := [.int v1, .int (nI 0), .int (nI 5)]) (rest := []) (n := 3) CF hZ (c_X8_within l v1 (nI 0) (nI 5) _ h) (va_cwS 3 hts gX8_tie_X8_within rfl rfl rfl hdS_X8_within ⟨Nat.le_of_ble_eq_true rfl, Nat.le_of_ble_eq_true rfl⟩) rfl hl.1 rfl (Nat.le_of_ble_eq_true rfl) dX8_tie_3 ⟨Nat.le_of_ble_eq_true rfl, Nat.le_of_ble_eq_true rfl⟩ (fun i1 h => ?_)
  refine lv_if_ne (tgt := 11) hx hb dX8_tie_6 (by decide) (fun c2 => ?_) (fun c2 => ?_)
  · have h := h.2 c2
    refine lv_iload_n hx hb dX8_tie_11 rfl (lv_at hl 2 rfl) ?_
    refine lv_iconst (v := (nI 0)) hx hb dX8_tie_12 (by decide) ?_
    refine lv_bipush (v := (nI 63)) hx hb dX8_tie_13 (by decide) ?_
    refine cS_si (As := [.int v2, .int (nI 0), .int (nI 63)]) (rest := []) (n := 3) CF hZ (c_X8_within l v2 (nI 0) (nI 63) _ h) (va_cwS 3 hts gX8_tie_X8_within rfl rfl rfl hdS_X8_within ⟨Nat.le_of_ble_eq_true rfl, Nat.le_of_ble_eq_true rfl⟩) rfl hl.1 rfl (Nat.le_of_ble_eq_true rfl) dX8_tie_15 ⟨Nat.le_of_ble_eq_true rfl, Nat.le_of_ble_eq_true rfl⟩ (fun i3 h => ?_)
    refine lv_if_ne (tgt := 24) hx hb dX8_tie_18 (by decide) (fun c4 => ?_) (fun c4 => ?_)
    · have h := h.2 c4
      refine lv_aload_n hx hb dX8_tie_24 rfl (lv_at hl 0 rfl) ?_
      obtain ⟨fs7, e6, h⟩ := h
      refine cV_wv (As := []) (rest := []) (n := 0) C hO (fun L => c_X8_record l D Y L S s.heap.size a0 _ h) 6 rfl e6 (cwV 0 hts gX8_tie_X8_record rfl rfl rfl ⟨rfl, hdS_X8_record⟩ ⟨Nat.le_of_ble_eq_true rfl, Nat.le_of_ble_eq_true rfl⟩) rfl hl.1 rfl (Nat.le_of_ble_eq_true rfl) dX8_tie_25 ⟨Nat.le_of_ble_eq_true rfl, Nat.le_of_ble_eq_true rfl⟩ (fun S5 H locs h hO => ?_)
      refine lv_aload_n hx hb dX8_tie_28 rfl (lv_at hl 0 rfl) ?_
      obtain ⟨fs8, a9, e10, e10', h⟩ := h
      refine r_get C hO 6 0 rfl inX8 (Nat.le_of_ble_eq_true rfl) e10 e10' (List.mem_of_getElem? (i := 1) (by decide +kernel)) dX8_tie_29 ?_
      refine lv_bipush (v := (nI 12)) hx hb dX8_tie_32 (by decide) ?_
      refine lv_iload_n hx hb dX8_tie_34 rfl (lv_at hl 1 rfl) ?_
      refine lv_iadd hx hb dX8_tie_35 ?_
      refine lv_iload_n hx hb dX8_tie_36 rfl (lv_at hl 2 rfl) ?_
      obtain ⟨n11, f12, e13, e13', h⟩ := h
      refine r_iast C hO e13 e13' dX8_tie_37 (fun H locs hO => ?_)
      obtain ⟨S14, eS14⟩ : ∃ Sx, Sx = va_up S5 a9 (aI n11 (upd f12 (((nI 12) + v1)).toNatClampNeg v2)) := ⟨_, rfl⟩
      rw [← eS14] at hO
      have h := h S14 eS14
      refine lv_aload_n hx hb dX8_tie_38 rfl (lv_at hl 0 rfl) ?_
      refine lv_iload_n hx hb dX8_tie_39 rfl (lv_at hl 1 rfl) ?_
      obtain ⟨fs17, e16, h⟩ := h
      refine cV_ri (As := [.int v1]) (rest := []) (n := 1) C hO (fun L => c_X8_raised l D Y L S14 H.size a0 v1 _ h) 6 rfl e16 (cwV 1 hts gX8_tie_X8_raised rfl rfl rfl ⟨rfl, hdS_X8_raised⟩ ⟨Nat.le_of_ble_eq_true rfl, Nat.le_of_ble_eq_true rfl⟩) rfl hl.1 rfl (Nat.le_of_ble_eq_true rfl) dX8_tie_40 ⟨Nat.le_of_ble_eq_true rfl, Nat.le_of_ble_eq_true rfl⟩ (fun i15 h => ?_)
      refine cS_si (As := [.int i15]) (rest := []) (n := 1) CF hZ (c_X8_ones l i15 _ h) (va_cwS 1 hts gX8_tie_X8_ones rfl rfl rfl hdS_X8_ones ⟨Nat.le_of_ble_eq_true rfl, Nat.le_of_ble_eq_true rfl⟩) rfl hl.1 rfl (Nat.le_of_ble_eq_true rfl) dX8_tie_43 ⟨Nat.le_of_ble_eq_true rfl, Nat.le_of_ble_eq_true rfl⟩ (fun i18 h => ?_)
      exact W.iret hx hb hr (fun t ht hW => ⟨⟨i18, S14, rfl, h, hO.q ht⟩, hO.f ht⟩) hO.lc dX8_tie_46
    · have h := h.1 c4
      refine lv_bipush (v := (-2 : Int32)) hx hb dX8_tie_21 (by decide) ?_
      exact W.iret hx hb hr (fun t ht hW => ⟨⟨(-2 : Int32), S, rfl, h, hO.q ht⟩, hO.f ht⟩) hO.lc dX8_tie_23
  · have h := h.1 c2
    refine lv_iconst (v := (-1 : Int32)) hx hb dX8_tie_9 (by decide) ?_
    exact W.iret hx hb hr (fun t ht hW => ⟨⟨(-1 : Int32), S, rfl, h, hO.q ht⟩, hO.f ht⟩) hO.lc dX8_tie_10
theorem hdS_X8_make : yX8_make.cls ≠ "java/lang/invoke/MethodHandle" ∧ yX8_make.cls ≠ "java/lang/invoke/VarHandle" ∧ (parseMethodDescriptor yX8_make.desc).map (fun d => d.parameters.length) = some 1 := by decide +kernel
set_option maxHeartbeats 4000000 in
set_option maxRecDepth 100000 in
theorem c_X8_make (l : Launch) (D : va_G) (Y : Nat → ClassId) (L : List Nat) (S : PS) (sz : Nat) (a0 : Nat) (v1 : Int32) (Post : Int32 → PS → Prop) (h : wp_X8_make S a0 v1 Post) : Met l yX8_make wsX8_make ({ frames := 1, cells := 0, slots := 0, locals := 21 }) (va_Pc [.ref a0, .int v1] (PrO D Y L S sz)) (va_Qi Post (QtO D Y (fR L sz)) (fR L sz)) 0 0 (fR L sz) := by
  refine Met.ofW (cc := cX8_make) (maxL := 3) (ret := (some .int)) (by decide) rfl ?_
  intro p e s m args below meth c s₁ B hml hv
  obtain ⟨rfl, hsz, hJ, hP, hK, hD0, hZ⟩ := hv
  have hx := B.exec
  have hb := B.bytes
  have hr := B.returns
  have hts := atoms_spec (ws := wsX8_make) B.pre
  have hown : s.vm.findClass RX8 = some m.cls := findClass_of_methodNamed B.named
  have hlocks := B.notSynchronized
  have CF : CallFix p m c cX8_make 3 s ([.ref a0, .int v1] : List Value).toArray wsX8_make RX8 := ⟨hx, hb, hml, hown, hts⟩
  have C : CX p m c cX8_make 3 s ([.ref a0, .int v1] : List Value).toArray wsX8_make RX8 D Y := ⟨CF, hK, hZ⟩
  have hO : HO D Y (fR L sz) s.heap S s.heap [] := HO.entry hsz hJ hP hD0
  subst hsz
  have inX8 : ∀ w ∈ wsX80, w ∈ wsX8_make := fun w h => List.mem_cons_of_mem _ (List.mem_append_right _ h)
  have hl := lv_entry ([.ref a0, .int v1]) (n := 3) (Nat.le_of_ble_eq_true rfl)
  rw [lg_entry_eq]
  generalize (lg_sl ([.ref a0, .int v1]) ++ List.replicate (3 - (lg_sl ([.ref a0, .int v1])).length) Slot.unset).toArray = ls at hl ⊢
  have hl : lv_has ls 3 [(0, .ref a0), (1, .int v1)] := hl
  unfold wp_X8_make at h
  refine lv_aload_n hx hb dX8_make_0 rfl (lv_at hl 0 rfl) ?_
  obtain ⟨fs3, e2, h⟩ := h
  refine cV_wv (As := []) (rest := []) (n := 0) C hO (fun L => c_X8_record l D Y L S s.heap.size a0 _ h) 6 rfl e2 (cwV 0 hts gX8_make_X8_record rfl rfl rfl ⟨rfl, hdS_X8_record⟩ ⟨Nat.le_of_ble_eq_true rfl, Nat.le_of_ble_eq_true rfl⟩) rfl hl.1 rfl (Nat.le_of_ble_eq_true rfl) dX8_make_1 ⟨Nat.le_of_ble_eq_true rfl, Nat.le_of_ble_eq_true rfl⟩ (fun S1 H locs h hO => ?_)
  refine lv_aload_n hx hb dX8_make_4 rfl (lv_at hl 0 rfl) ?_
  obtain ⟨fs4, a5, e6, e6', h⟩ := h
  refine r_get C hO 6 0 rfl inX8 (Nat.le_of_ble_eq_true rfl) e6 e6' (List.mem_of_getElem? (i := 1) (by decide +kernel)) dX8_make_5 ?_
  refine lv_bipush (v := (nI 42)) hx hb dX8_make_8 (by decide) ?_
  refine lv_iload_n hx hb dX8_make_10 rfl (lv_at hl 1 rfl) ?_
  refine lv_iadd hx hb dX8_make_11 ?_
  refine lv_aload_n hx hb dX8_make_12 rfl (lv_at hl 0 rfl) ?_
  obtain ⟨fs7, i8, e9, e9', h⟩ := h
  refine r_get C hO 6 9 rfl inX8 (Nat.le_of_ble_eq_true rfl) e9 e9' (List.mem_of_getElem? (i := 2) (by decide +kernel)) dX8_make_13 ?_
  obtain ⟨n10, f11, e12, e12', h⟩ := h
  refine r_iast C hO e12 e12' dX8_make_16 (fun H locs hO => ?_)
  obtain ⟨S13, eS13⟩ : ∃ Sx, Sx = va_up S1 a5 (aI n10 (upd f11 (((nI 42) + v1)).toNatClampNeg i8)) := ⟨_, rfl⟩
  rw [← eS13] at hO
  have h := h S13 eS13
  refine lv_iconst (v := (nI 0)) hx hb dX8_make_17 (by decide) ?_
  refine lv_istore_n (lv' := [(2, .int (nI 0)), (0, .ref a0), (1, .int v1)]) hx hb dX8_make_18 rfl hl (by decide) rfl (fun ls hl => ?_)
  obtain ⟨n44, h⟩ := h
  refine lp_W (nL := 3) (fun q => [(2, .int q.1), (0, .ref a0), (1, .int v1)]) (fun q => q.2) h (lv_sub hl [0, 1, 2] rfl) hO (fun K19 ih19 q ls H locs h hl hO => ?_)
  obtain ⟨i14, S15⟩ := q
  have h : wpb_X8_make_19 a0 v1 Post K19 i14 S15 := h
  have hl : lv_has ls 3 [(2, .int i14), (0, .ref a0), (1, .int v1)] := hl
  have hO : HO D Y (fR L s.heap.size) s.heap S15 H locs := hO
  unfold wpb_X8_make_19 at h
  refine lv_iload_n hx hb dX8_make_19 rfl (lv_at hl 0 rfl) ?_
  refine lv_bipush (v := (nI 24)) hx hb dX8_make_20 (by decide) ?_
  refine lv_icmp_ge (tgt := 63) hx hb dX8_make_22 (by decide) (fun c16 => ?_) (fun c16 => ?_)
  · have h := h.1 c16
    refine lv_aload_n hx hb dX8_make_63 rfl (lv_at hl 1 rfl) ?_
    obtain ⟨fs17, i18, e19, e19', h⟩ := h
    refine r_get C hO 6 9 rfl inX8 (Nat.le_of_ble_eq_true rfl) e19 e19' (List.mem_of_getElem? (i := 2) (by decide +kernel)) dX8_make_64 ?_
    exact W.iret hx hb hr (fun t ht hW => ⟨⟨i18, S15, rfl, h, hO.q ht⟩, hO.f ht⟩) hO.lc dX8_make_67
  · have h := h.2 c16
    refine lv_aload_n hx hb dX8_make_25 rfl (lv_at hl 1 rfl) ?_
    obtain ⟨fs20, a21, e22, e22', h⟩ := h
    refine r_get C hO 6 0 rfl inX8 (Nat.le_of_ble_eq_true rfl) e22 e22' (List.mem_of_getElem? (i := 1) (by decide +kernel)) dX8_make_26 ?_
    refine lv_bipush (v := (nI 48)) hx hb dX8_make_29 (by decide) ?_
    refine lv_bipush (v := (nI 24)) hx hb dX8_make_31 (by decide) ?_
    refine lv_iload_n hx hb dX8_make_33 rfl (lv_at hl 2 rfl) ?_
    refine lv_imul hx hb dX8_make_34 ?_
    refine lv_iadd hx hb dX8_make_35 ?_
    refine lv_iload_n hx hb dX8_make_36 rfl (lv_at hl 0 rfl) ?_
    refine lv_iadd hx hb dX8_make_37 ?_
    refine lv_iload_n hx hb dX8_make_38 rfl (lv_at hl 0 rfl) ?_
    refine lv_aload_n hx hb dX8_make_39 rfl (lv_at hl 1 rfl) ?_
    obtain ⟨fs23, i24, e25, e25', h⟩ := h
    refine r_get C hO 6 9 rfl inX8 (Nat.le_of_ble_eq_true rfl) e25 e25' (List.mem_of_getElem? (i := 2) (by decide +kernel)) dX8_make_40 ?_
    refine lv_icmp_ge (tgt := 55) hx hb dX8_make_43 (by decide) (fun c26 => ?_) (fun c26 => ?_)
    · have h := h.1 c26
      refine lv_iconst (v := (nI 0)) hx hb dX8_make_55 (by decide) ?_
      obtain ⟨n27, f28, e29, e29', h⟩ := h
      refine r_iast C hO e29 e29' dX8_make_56 (fun H locs hO => ?_)
      obtain ⟨S30, eS30⟩ : ∃ Sx, Sx = va_up S15 a21 (aI n27 (upd f28 ((((nI 48) + ((nI 24) * v1)) + i14)).toNatClampNeg (nI 0))) := ⟨_, rfl⟩
      rw [← eS30] at hO
      have h := h S30 eS30
      obtain ⟨i31, ei31⟩ : ∃ y : Int32, y = i14 + (nI 1) := ⟨_, rfl⟩
      have h := h i31 ei31
      refine lv_iinc (v := i31) (lv' := [(2, .int i31), (0, .ref a0), (1, .int v1)]) hx hb dX8_make_57 hl (k := 0) rfl (by rw [ei31]; rfl) (by decide) rfl (fun ls hl => ?_)
      refine lv_goto (tgt := 19) hx hb dX8_make_60 (by decide) ?_
      exact ih19 (i31, S30) _ _ _ h (lv_sub hl [0, 1, 2] rfl) hO
    · have h := h.2 c26
      refine lv_aload_n hx hb dX8_make_46 rfl (lv_at hl 1 rfl) ?_
      obtain ⟨fs32, a33, e34, e34', h⟩ := h
      refine r_get C hO 6 8 rfl inX8 (Nat.le_of_ble_eq_true rfl) e34 e34' (List.mem_of_getElem? (i := 3) (by decide +kernel)) dX8_make_47 ?_
      refine lv_iload_n hx hb dX8_make_50 rfl (lv_at hl 0 rfl) ?_
      obtain ⟨n35, f36, i38, e37, e37', exi38, h⟩ := h
      refine r_iald C hO e37 e37' dX8_make_51 ?_
      rw [exi38]
      refine lv_goto (tgt := 56) hx hb dX8_make_52 (by decide) ?_
      obtain ⟨n39, f40, e41, e41', h⟩ := h
      refine r_iast C hO e41 e41' dX8_make_56 (fun H locs hO => ?_)
      obtain ⟨S42, eS42⟩ : ∃ Sx, Sx = va_up S15 a21 (aI n39 (upd f40 ((((nI 48) + ((nI 24) * v1)) + i14)).toNatClampNeg i38)) := ⟨_, rfl⟩
      rw [← eS42] at hO
      have h := h S42 eS42
      obtain ⟨i43, ei43⟩ : ∃ y : Int32, y = i14 + (nI 1) := ⟨_, rfl⟩
      have h := h i43 ei43
      refine lv_iinc (v := i43) (lv' := [(2, .int i43), (0, .ref a0), (1, .int v1)]) hx hb dX8_make_57 hl (k := 0) rfl (by rw [ei43]; rfl) (by decide) rfl (fun ls hl => ?_)
      refine lv_goto (tgt := 19) hx hb dX8_make_60 (by decide) ?_
      exact ih19 (i43, S42) _ _ _ h (lv_sub hl [0, 1, 2] rfl) hO
theorem hdS_X8_addRow : yX8_addRow.cls ≠ "java/lang/invoke/MethodHandle" ∧ yX8_addRow.cls ≠ "java/lang/invoke/VarHandle" ∧ (parseMethodDescriptor yX8_addRow.desc).map (fun d => d.parameters.length) = some 1 := by decide +kernel
set_option maxHeartbeats 4000000 in
set_option maxRecDepth 100000 in
theorem c_X8_addRow (l : Launch) (D : va_G) (Y : Nat → ClassId) (L : List Nat) (S : PS) (sz : Nat) (a0 : Nat) (v1 : Int32) (Post : PS → Prop) (h : wp_X8_addRow S a0 v1 Post) : Met l yX8_addRow wsX8_addRow ({ frames := 1, cells := 0, slots := 0, locals := 22 }) (va_Pc [.ref a0, .int v1] (PrO D Y L S sz)) (va_Qv Post (QtO D Y (fR L sz)) (fR L sz)) 0 0 (fR L sz) := by
  refine Met.ofW (cc := cX8_addRow) (maxL := 3) (ret := none) (by decide) rfl ?_
  intro p e s m args below meth c s₁ B hml hv
  obtain ⟨rfl, hsz, hJ, hP, hK, hD0, hZ⟩ := hv
  have hx := B.exec
  have hb := B.bytes
  have hr := B.returns
  have hts := atoms_spec (ws := wsX8_addRow) B.pre
  have hown : s.vm.findClass RX8 = some m.cls := findClass_of_methodNamed B.named
  have hlocks := B.notSynchronized
  have CF : CallFix p m c cX8_addRow 3 s ([.ref a0, .int v1] : List Value).toArray wsX8_addRow RX8 := ⟨hx, hb, hml, hown, hts⟩
  have C : CX p m c cX8_addRow 3 s ([.ref a0, .int v1] : List Value).toArray wsX8_addRow RX8 D Y := ⟨CF, hK, hZ⟩
  have hO : HO D Y (fR L sz) s.heap S s.heap [] := HO.entry hsz hJ hP hD0
  subst hsz
  have inX8 : ∀ w ∈ wsX80, w ∈ wsX8_addRow := fun w h => List.mem_cons_of_mem _ (List.mem_append_right _ h)
  have hl := lv_entry ([.ref a0, .int v1]) (n := 3) (Nat.le_of_ble_eq_true rfl)
  rw [lg_entry_eq]
  generalize (lg_sl ([.ref a0, .int v1]) ++ List.replicate (3 - (lg_sl ([.ref a0, .int v1])).length) Slot.unset).toArray = ls at hl ⊢
  have hl : lv_has ls 3 [(0, .ref a0), (1, .int v1)] := hl
  unfold wp_X8_addRow at h
  refine lv_iconst (v := (nI 0)) hx hb dX8_addRow_0 (by decide) ?_
  refine lv_istore_n (lv' := [(2, .int (nI 0)), (0, .ref a0), (1, .int v1)]) hx hb dX8_addRow_1 rfl hl (by decide) rfl (fun ls hl => ?_)
  obtain ⟨n27, h⟩ := h
  refine lp_W (nL := 3) (fun q => [(2, .int q.1), (0, .ref a0), (1, .int v1)]) (fun q => q.2) h (lv_sub hl [0, 1, 2] rfl) hO (fun K2 ih2 q ls H locs h hl hO => ?_)
  obtain ⟨i1, S2⟩ := q
  have h : wpb_X8_addRow_2 a0 v1 Post K2 i1 S2 := h
  have hl : lv_has ls 3 [(2, .int i1), (0, .ref a0), (1, .int v1)] := hl
  have hO : HO D Y (fR L s.heap.size) s.heap S2 H locs := hO
  unfold wpb_X8_addRow_2 at h
  refine lv_iload_n hx hb dX8_addRow_2 rfl (lv_at hl 0 rfl) ?_
  refine lv_aload_n hx hb dX8_addRow_3 rfl (lv_at hl 1 rfl) ?_
  refine lv_iload_n hx hb dX8_addRow_4 rfl (lv_at hl 2 rfl) ?_
  obtain ⟨fs5, e4, h⟩ := h
  refine cV_ri (As := [.int v1]) (rest := [.int i1]) (n := 1) C hO (fun L => c_X8_lengthOf l D Y L S2 H.size a0 v1 _ h) 6 rfl e4 (cwV 1 hts gX8_addRow_X8_lengthOf rfl rfl rfl ⟨rfl, hdS_X8_lengthOf⟩ ⟨Nat.le_of_ble_eq_true rfl, Nat.le_of_ble_eq_true rfl⟩) rfl hl.1 rfl (Nat.le_of_ble_eq_true rfl) dX8_addRow_5 ⟨Nat.le_of_ble_eq_true rfl, Nat.le_of_ble_eq_true rfl⟩ (fun i3 h => ?_)
  refine lv_icmp_ge (tgt := 42) hx hb dX8_addRow_8 (by decide) (fun c6 => ?_) (fun c6 => ?_)
  · have h := h.1 c6
    exact W.vret hx hb hr (fun t ht hW => ⟨⟨S2, rfl, h, hO.q ht⟩, hO.f ht⟩) hO.lc dX8_addRow_42
  · have h := h.2 c6
    refine lv_aload_n hx hb dX8_addRow_11 rfl (lv_at hl 1 rfl) ?_
    obtain ⟨fs7, a8, e9, e9', h⟩ := h
    refine r_get C hO 6 8 rfl inX8 (Nat.le_of_ble_eq_true rfl) e9 e9' (List.mem_of_getElem? (i := 1) (by decide +kernel)) dX8_addRow_12 ?_
    refine lv_aload_n hx hb dX8_addRow_15 rfl (lv_at hl 1 rfl) ?_
    obtain ⟨fs10, i11, e12, e12', h⟩ := h
    refine r_get C hO 6 9 rfl inX8 (Nat.le_of_ble_eq_true rfl) e12 e12' (List.mem_of_getElem? (i := 2) (by decide +kernel)) dX8_addRow_16 ?_
    refine lv_aload_n hx hb dX8_addRow_19 rfl (lv_at hl 1 rfl) ?_
    refine lv_iload_n hx hb dX8_addRow_20 rfl (lv_at hl 2 rfl) ?_
    refine lv_iload_n hx hb dX8_addRow_21 rfl (lv_at hl 0 rfl) ?_
    obtain ⟨fs15, e14, h⟩ := h
    refine cV_ri (As := [.int v1, .int i1]) (rest := [.int i11, .ref a8]) (n := 2) C hO (fun L => c_X8_pressOf l D Y L S2 H.size a0 v1 i1 _ h) 6 rfl e14 (cwV 2 hts gX8_addRow_X8_pressOf rfl rfl rfl ⟨rfl, hdS_X8_pressOf⟩ ⟨Nat.le_of_ble_eq_true rfl, Nat.le_of_ble_eq_true rfl⟩) rfl hl.1 rfl (Nat.le_of_ble_eq_true rfl) dX8_addRow_22 ⟨Nat.le_of_ble_eq_true rfl, Nat.le_of_ble_eq_true rfl⟩ (fun i13 h => ?_)
    obtain ⟨n16, f17, e18, e18', h⟩ := h
    refine r_iast C hO e18 e18' dX8_addRow_25 (fun H locs hO => ?_)
    obtain ⟨S19, eS19⟩ : ∃ Sx, Sx = va_up S2 a8 (aI n16 (upd f17 (i11).toNatClampNeg i13)) := ⟨_, rfl⟩
    rw [← eS19] at hO
    have h := h S19 eS19
    refine lv_aload_n hx hb dX8_addRow_26 rfl (lv_at hl 1 rfl) ?_
    refine lv_dup hx hb dX8_addRow_27 rfl ?_
    obtain ⟨fs20, i21, e22, e22', h⟩ := h
    refine r_get C hO 6 9 rfl inX8 (Nat.le_of_ble_eq_true rfl) e22 e22' (List.mem_of_getElem? (i := 2) (by decide +kernel)) dX8_addRow_28 ?_
    refine lv_iconst (v := (nI 1)) hx hb dX8_addRow_31 (by decide) ?_
    refine lv_iadd hx hb dX8_addRow_32 ?_
    obtain ⟨fs23, e24, e24', h⟩ := h
    refine r_put C hO 6 9 rfl inX8 tyX8_ok nmX8 (Nat.le_of_ble_eq_true rfl) rfl rfl rfl e24 e24' (List.mem_of_getElem? (i := 2) (by decide +kernel)) dX8_addRow_33 (fun H locs hO => ?_)
    obtain ⟨S25, eS25⟩ : ∃ Sx, Sx = va_up S19 a0 (.inl (6, fs23.set 9 (.int (i21 + (nI 1))))) := ⟨_, rfl⟩
    rw [← eS25] at hO
    have h := h S25 eS25
    obtain ⟨i26, ei26⟩ : ∃ y : Int32, y = i1 + (nI 1) := ⟨_, rfl⟩
    have h := h i26 ei26
    refine lv_iinc (v := i26) (lv' := [(2, .int i26), (0, .ref a0), (1, .int v1)]) hx hb dX8_addRow_36 hl (k := 0) rfl (by rw [ei26]; rfl) (by decide) rfl (fun ls hl => ?_)
    refine lv_goto (tgt := 2) hx hb dX8_addRow_39 (by decide) ?_
    exact ih2 (i26, S25) _ _ _ h (lv_sub hl [0, 1, 2] rfl) hO
theorem hdS_X8_next : yX8_next.cls ≠ "java/lang/invoke/MethodHandle" ∧ yX8_next.cls ≠ "java/lang/invoke/VarHandle" ∧ (parseMethodDescriptor yX8_next.desc).map (fun d => d.parameters.length) = some 0 := by decide +kernel
set_option maxHeartbeats 4000000 in
set_option maxRecDepth 100000 in
theorem c_X8_next (l : Launch) (D : va_G) (Y : Nat → ClassId) (L : List Nat) (S : PS) (sz : Nat) (a0 : Nat) (Post : Int32 → Prop) (h : wp_X8_next S a0 Post) : Met l yX8_next wsX8_next ({ frames := 0, cells := 0, slots := 0, locals := 0 }) (va_Pc [.ref a0] (PrO D Y L S sz)) (vp_Si Post) 0 0 (fun _ => False) := by
  refine Met.ofW (cc := cX8_next) (maxL := 1) (ret := (some .int)) (by decide) rfl ?_
  intro p e s m args below meth c s₁ B hml hv
  obtain ⟨rfl, hsz, hJ, hP, hK, hD0, hZ⟩ := hv
  have hx := B.exec
  have hb := B.bytes
  have hr := B.returns
  have hts := atoms_spec (ws := wsX8_next) B.pre
  have hown : s.vm.findClass RX8 = some m.cls := findClass_of_methodNamed B.named
  have hlocks := B.notSynchronized
  have CF : CallFix p m c cX8_next 1 s ([.ref a0] : List Value).toArray wsX8_next RX8 := ⟨hx, hb, hml, hown, hts⟩
  have C : CX p m c cX8_next 1 s ([.ref a0] : List Value).toArray wsX8_next RX8 D Y := ⟨CF, hK, hZ⟩
  have hO : HO D Y (fR L sz) s.heap S s.heap [] := HO.entry hsz hJ hP hD0
  subst hsz
  have inX8 : ∀ w ∈ wsX80, w ∈ wsX8_next := fun w h => List.mem_cons_of_mem _ (List.mem_append_right _ h)
  have hl := lv_entry ([.ref a0]) (n := 1) (Nat.le_of_ble_eq_true rfl)
  rw [lg_entry_eq]
  generalize (lg_sl ([.ref a0]) ++ List.replicate (1 - (lg_sl ([.ref a0])).length) Slot.unset).toArray = ls at hl ⊢
  have hl : lv_has ls 1 [(0, .ref a0)] := hl
  unfold wp_X8_next at h
  refine lv_aload_n hx hb dX8_next_0 rfl (lv_at hl 0 rfl) ?_
  obtain ⟨fs1, i2, e3, e3', h⟩ := h
  refine r_get C hO 6 7 rfl inX8 (Nat.le_of_ble_eq_true rfl) e3 e3' (List.mem_of_getElem? (i := 1) (by decide +kernel)) dX8_next_1 ?_
  refine lv_aload_n hx hb dX8_next_4 rfl (lv_at hl 0 rfl) ?_
  obtain ⟨fs4, i5, e6, e6', h⟩ := h
  refine r_get C hO 6 6 rfl inX8 (Nat.le_of_ble_eq_true rfl) e6 e6' (List.mem_of_getElem? (i := 2) (by decide +kernel)) dX8_next_5 ?_
  refine lv_icmp_ge (tgt := 23) hx hb dX8_next_8 (by decide) (fun c7 => ?_) (fun c7 => ?_)
  · have h := h.1 c7
    refine lv_iconst (v := (nI 0)) hx hb dX8_next_23 (by decide) ?_
    exact W.iret hx hb hr (fun t ht hW => ⟨(nI 0), rfl, h, ht⟩) no_locs dX8_next_24
  · have h := h.2 c7
    refine lv_aload_n hx hb dX8_next_11 rfl (lv_at hl 0 rfl) ?_
    obtain ⟨fs8, a9, e10, e10', h⟩ := h
    refine r_get C hO 6 5 rfl inX8 (Nat.le_of_ble_eq_true rfl) e10 e10' (List.mem_of_getElem? (i := 3) (by decide +kernel)) dX8_next_12 ?_
    refine lv_aload_n hx hb dX8_next_15 rfl (lv_at hl 0 rfl) ?_
    obtain ⟨fs11, i12, e13, e13', h⟩ := h
    refine r_get C hO 6 7 rfl inX8 (Nat.le_of_ble_eq_true rfl) e13 e13' (List.mem_of_getElem? (i := 1) (by decide +kernel)) dX8_next_16 ?_
    obtain ⟨n14, f15, i17, e16, e16', exi17, h⟩ := h
    refine r_iald C hO e16 e16' dX8_next_19 ?_
    rw [exi17]
    refine lv_goto (tgt := 24) hx hb dX8_next_20 (by decide) ?_
    exact W.iret hx hb hr (fun t ht hW => ⟨i17, rfl, h, ht⟩) no_locs dX8_next_24
theorem hdS_X8_readsPress : yX8_readsPress.cls ≠ "java/lang/invoke/MethodHandle" ∧ yX8_readsPress.cls ≠ "java/lang/invoke/VarHandle" ∧ (parseMethodDescriptor yX8_readsPress.desc).map (fun d => d.parameters.length) = some 0 := by decide +kernel
set_option maxHeartbeats 4000000 in
set_option maxRecDepth 100000 in
theorem c_X8_readsPress (l : Launch) (D : va_G) (Y : Nat → ClassId) (L : List Nat) (S : PS) (sz : Nat) (a0 : Nat) (Post : Int32 → PS → Prop) (h : wp_X8_readsPress S a0 Post) : Met l yX8_readsPress wsX8_readsPress ({ frames := 1, cells := 0, slots := 0, locals := 22 }) (va_Pc [.ref a0] (PrO D Y L S sz)) (va_Qi Post (QtO D Y (fR L sz)) (fR L sz)) 0 0 (fR L sz) := by
  refine Met.ofW (cc := cX8_readsPress) (maxL := 6) (ret := (some .boolean)) (by decide) rfl ?_
  intro p e s m args below meth c s₁ B hml hv
  obtain ⟨rfl, hsz, hJ, hP, hK, hD0, hZ⟩ := hv
  have hx := B.exec
  have hb := B.bytes
  have hr := B.returns
  have hts := atoms_spec (ws := wsX8_readsPress) B.pre
  have hown : s.vm.findClass RX8 = some m.cls := findClass_of_methodNamed B.named
  have hlocks := B.notSynchronized
  have CF : CallFix p m c cX8_readsPress 6 s ([.ref a0] : List Value).toArray wsX8_readsPress RX8 := ⟨hx, hb, hml, hown, hts⟩
  have C : CX p m c cX8_readsPress 6 s ([.ref a0] : List Value).toArray wsX8_readsPress RX8 D Y := ⟨CF, hK, hZ⟩
  have hO : HO D Y (fR L sz) s.heap S s.heap [] := HO.entry hsz hJ hP hD0
  subst hsz
  have inX8 : ∀ w ∈ wsX80, w ∈ wsX8_readsPress := fun w h => List.mem_cons_of_mem _ (List.mem_append_right _ h)
  have hl := lv_entry ([.ref a0]) (n := 6) (Nat.le_of_ble_eq_true rfl)
  rw [lg_entry_eq]
  generalize (lg_sl ([.ref a0]) ++ List.replicate (6 - (lg_sl ([.ref a0])).length) Slot.unset).toArray = ls at hl ⊢
  have hl : lv_has ls 6 [(0, .ref a0)] := hl
  unfold wp_X8_readsPress at h
  refine lv_aload_n hx hb dX8_readsPress_0 rfl (lv_at hl 0 rfl) ?_
  obtain ⟨fs3, e2, h⟩ := h
  refine cV_ri (As := []) (rest := []) (n := 0) C hO (fun L => c_X8_next l D Y L S s.heap.size a0 _ h) 6 rfl e2 (cwV 0 hts gX8_readsPress_X8_next rfl rfl rfl ⟨rfl, hdS_X8_next⟩ ⟨Nat.le_of_ble_eq_true rfl, Nat.le_of_ble_eq_true rfl⟩) rfl hl.1 rfl (Nat.le_of_ble_eq_true rfl) dX8_readsPress_1 ⟨Nat.le_of_ble_eq_true rfl, Nat.le_of_ble_eq_true rfl⟩ (fun i1 h => ?_)
  refine lv_bipush (v := (nI 97)) hx hb dX8_readsPress_4 (by decide) ?_
  refine lv_isub hx hb dX8_readsPress_6 ?_
  refine lv_topi (fun i4 ei4 => ?_)
  have h := h i4 ei4
  refine lv_istore_n (lv' := [(1, .int i4), (0, .ref a0)]) hx hb dX8_readsPress_7 rfl hl (by decide) rfl (fun ls hl => ?_)
  refine lv_aload_n hx hb dX8_readsPress_8 rfl (lv_at hl 1 rfl) ?_
  obtain ⟨fs7, e6, h⟩ := h
  refine cV_ri (As := []) (rest := []) (n := 0) C hO (fun L => c_X8_next l D Y L S s.heap.size a0 _ h) 6 rfl e6 (cwV 0 hts gX8_readsPress_X8_next rfl rfl rfl ⟨rfl, hdS_X8_next⟩ ⟨Nat.le_of_ble_eq_true rfl, Nat.le_of_ble_eq_true rfl⟩) rfl hl.1 rfl (Nat.le_of_ble_eq_true rfl) dX8_readsPress_9 ⟨Nat.le_of_ble_eq_true rfl, Nat.le_of_ble_eq_true rfl⟩ (fun i5 h => ?_)
  refine lv_bipush (v := (nI 65)) hx hb dX8_readsPress_12 (by decide) ?_
  refine lv_isub hx hb dX8_readsPress_14 ?_
  refine lv_topi (fun i8 ei8 => ?_)
  have h := h i8 ei8
  refine lv_istore_n (lv' := [(2, .int i8), (1, .int i4), (0, .ref a0)]) hx hb dX8_readsPress_15 rfl hl (by decide) rfl (fun ls hl => ?_)
  refine lv_iload_n hx hb dX8_readsPress_16 rfl (lv_at hl 1 rfl) ?_
  refine lv_iconst (v := (nI 0)) hx hb dX8_readsPress_17 (by decide) ?_
  refine lv_iconst (v := (nI 5)) hx hb dX8_readsPress_18 (by decide) ?_
  refine cS_si (As := [.int i4, .int (nI 0), .int (nI 5)]) (rest := []) (n := 3) CF hZ (c_X8_within l i4 (nI 0) (nI 5) _ h) (va_cwS 3 hts gX8_readsPress_X8_within rfl rfl rfl hdS_X8_within ⟨Nat.le_of_ble_eq_true rfl, Nat.le_of_ble_eq_true rfl⟩) rfl hl.1 rfl (Nat.le_of_ble_eq_true rfl) dX8_readsPress_19 ⟨Nat.le_of_ble_eq_true rfl, Nat.le_of_ble_eq_true rfl⟩ (fun i9 h => ?_)
  refine cut_P (nL := 6) (fun (q : Int32) => wpk_X8_readsPress_48 S a0 Post q) (fun q => [(0, .ref a0), (3, .int q)]) 48 ?_ (fun kc48 => ?_)
  · intro q ls h hl
    obtain ⟨i10, rfl⟩ : ∃ z, z = q := ⟨q, rfl⟩
    have h : wpk_X8_readsPress_48 S a0 Post i10 := h
    have hl : lv_has ls 6 [(0, .ref a0), (3, .int i10)] := hl
    unfold wpk_X8_readsPress_48 at h
    refine lv_iload_n hx hb dX8_readsPress_48 rfl (lv_at hl 1 rfl) ?_
    refine lv_bipush (v := (-6 : Int32)) hx hb dX8_readsPress_49 (by decide) ?_
    refine lv_icmp_eq (tgt := 63) hx hb dX8_readsPress_51 (by decide) (fun c11 => ?_) (fun c11 => ?_)
    · have h := h.1 c11
      refine lv_iconst (v := (nI 0)) hx hb dX8_readsPress_63 (by decide) ?_
      exact W.zret hx hb hr (by decide) (fun t ht hW => ⟨⟨(nI 0), S, rfl, h, hO.q ht⟩, hO.f ht⟩) hO.lc dX8_readsPress_64
    · have h := h.2 c11
      refine lv_aload_n hx hb dX8_readsPress_54 rfl (lv_at hl 0 rfl) ?_
      obtain ⟨fs12, i13, e14, e14', h⟩ := h
      refine r_get C hO 6 9 rfl inX8 (Nat.le_of_ble_eq_true rfl) e14 e14' (List.mem_of_getElem? (i := 1) (by decide +kernel)) dX8_readsPress_55 ?_
      refine lv_bipush (v := (nI 24)) hx hb dX8_readsPress_58 (by decide) ?_
      refine lv_icmp_ne (tgt := 65) hx hb dX8_readsPress_60 (by decide) (fun c15 => ?_) (fun c15 => ?_)
      · have h := h.2 c15
        refine lv_aload_n hx hb dX8_readsPress_65 rfl (lv_at hl 0 rfl) ?_
        refine lv_dup hx hb dX8_readsPress_66 rfl ?_
        obtain ⟨fs16, i17, e18, e18', h⟩ := h
        refine r_get C hO 6 7 rfl inX8 (Nat.le_of_ble_eq_true rfl) e18 e18' (List.mem_of_getElem? (i := 2) (by decide +kernel)) dX8_readsPress_67 ?_
        refine lv_iconst (v := (nI 1)) hx hb dX8_readsPress_70 (by decide) ?_
        refine lv_iadd hx hb dX8_readsPress_71 ?_
        obtain ⟨fs19, e20, e20', h⟩ := h
        refine r_put C hO 6 7 rfl inX8 tyX8_ok nmX8 (Nat.le_of_ble_eq_true rfl) rfl rfl rfl e20 e20' (List.mem_of_getElem? (i := 2) (by decide +kernel)) dX8_readsPress_72 (fun H locs hO => ?_)
        obtain ⟨S21, eS21⟩ : ∃ Sx, Sx = va_up S a0 (.inl (6, fs19.set 7 (.int (i17 + (nI 1))))) := ⟨_, rfl⟩
        rw [← eS21] at hO
        have h := h S21 eS21
        refine lv_aload_n hx hb dX8_readsPress_75 rfl (lv_at hl 0 rfl) ?_
        obtain ⟨fs24, e23, h⟩ := h
        refine cV_ri (As := []) (rest := []) (n := 0) C hO (fun L => c_X8_next l D Y L S21 H.size a0 _ h) 6 rfl e23 (cwV 0 hts gX8_readsPress_X8_next rfl rfl rfl ⟨rfl, hdS_X8_next⟩ ⟨Nat.le_of_ble_eq_true rfl, Nat.le_of_ble_eq_true rfl⟩) rfl hl.1 rfl (Nat.le_of_ble_eq_true rfl) dX8_readsPress_76 ⟨Nat.le_of_ble_eq_true rfl, Nat.le_of_ble_eq_true rfl⟩ (fun i22 h => ?_)
        refine lv_bipush (v := (nI 50)) hx hb dX8_readsPress_79 (by decide) ?_
        refine lv_bipush (v := (nI 57)) hx hb dX8_readsPress_81 (by decide) ?_
        refine cS_si (As := [.int i22, .int (nI 50), .int (nI 57)]) (rest := []) (n := 3) CF hZ (c_X8_within l i22 (nI 50) (nI 57) _ h) (va_cwS 3 hts gX8_readsPress_X8_within rfl rfl rfl hdS_X8_within ⟨Nat.le_of_ble_eq_true rfl, Nat.le_of_ble_eq_true rfl⟩) rfl hl.1 rfl (Nat.le_of_ble_eq_true rfl) dX8_readsPress_83 ⟨Nat.le_of_ble_eq_true rfl, Nat.le_of_ble_eq_true rfl⟩ (fun i25 h => ?_)
        refine cut_P (nL := 6) (fun (q : Int32) => wpk_X8_readsPress_102 a0 i10 S21 Post q) (fun q => [(0, .ref a0), (3, .int i10), (4, .int q)]) 102 ?_ (fun kc102 => ?_)
        · intro q ls h hl
          obtain ⟨i26, rfl⟩ : ∃ z, z = q := ⟨q, rfl⟩
          have h : wpk_X8_readsPress_102 a0 i10 S21 Post i26 := h
          have hl : lv_has ls 6 [(0, .ref a0), (3, .int i10), (4, .int i26)] := hl
          unfold wpk_X8_readsPress_102 at h
          refine lv_aload_n hx hb dX8_readsPress_102 rfl (lv_at hl 0 rfl) ?_
          obtain ⟨fs27, i28, e29, e29', h⟩ := h
          refine r_get C hO 6 9 rfl inX8 (Nat.le_of_ble_eq_true rfl) e29 e29' (List.mem_of_getElem? (i := 1) (by decide +kernel)) dX8_readsPress_103 ?_
          refine lv_iload hx hb dX8_readsPress_106 (lv_at hl 2 rfl) ?_
          refine lv_iadd hx hb dX8_readsPress_108 ?_
          refine lv_bipush (v := (nI 24)) hx hb dX8_readsPress_109 (by decide) ?_
          refine lv_icmp_le (tgt := 116) hx hb dX8_readsPress_111 (by decide) (fun c30 => ?_) (fun c30 => ?_)
          · have h := h.1 c30
            refine lv_aload_n hx hb dX8_readsPress_116 rfl (lv_at hl 0 rfl) ?_
            refine lv_dup hx hb dX8_readsPress_117 rfl ?_
            obtain ⟨fs31, i32, e33, e33', h⟩ := h
            refine r_get C hO 6 7 rfl inX8 (Nat.le_of_ble_eq_true rfl) e33 e33' (List.mem_of_getElem? (i := 2) (by decide +kernel)) dX8_readsPress_118 ?_
            refine lv_iload hx hb dX8_readsPress_121 (lv_at hl 2 rfl) ?_
            refine lv_iconst (v := (nI 1)) hx hb dX8_readsPress_123 (by decide) ?_
            refine cut_W D Y (fR L s.heap.size) s.heap (nL := 6) (fun (q : PS) => wpk_X8_readsPress_136 a0 i10 i26 Post q) (fun q => [(0, .ref a0), (3, .int i10), (4, .int i26)]) (fun q => q) 136 ?_ (fun kc136 => ?_)
            · intro q ls H locs h hl hO
              obtain ⟨S34, rfl⟩ : ∃ z, z = q := ⟨q, rfl⟩
              have h : wpk_X8_readsPress_136 a0 i10 i26 Post S34 := h
              have hl : lv_has ls 6 [(0, .ref a0), (3, .int i10), (4, .int i26)] := hl
              have hO : HO D Y (fR L s.heap.size) s.heap S34 H locs := hO
              unfold wpk_X8_readsPress_136 at h
              refine lv_iconst (v := (nI 0)) hx hb dX8_readsPress_136 (by decide) ?_
              refine lv_istore (lv' := [(5, .int (nI 0)), (0, .ref a0), (3, .int i10), (4, .int i26)]) hx hb dX8_readsPress_137 hl (by decide) rfl (fun ls hl => ?_)
              obtain ⟨n55, h⟩ := h
              refine lp_W (nL := 6) (fun q => [(5, .int q.1), (0, .ref a0), (3, .int i10), (4, .int i26)]) (fun q => q.2) h (lv_sub hl [0, 1, 2, 3] rfl) hO (fun K139 ih139 q ls H locs h hl hO => ?_)
              obtain ⟨i35, S36⟩ := q
              have h : wpb_X8_readsPress_139 a0 i10 i26 Post K139 i35 S36 := h
              have hl : lv_has ls 6 [(5, .int i35), (0, .ref a0), (3, .int i10), (4, .int i26)] := hl
              have hO : HO D Y (fR L s.heap.size) s.heap S36 H locs := hO
              unfold wpb_X8_readsPress_139 at h
              refine lv_iload hx hb dX8_readsPress_139 (lv_at hl 0 rfl) ?_
              refine lv_iload hx hb dX8_readsPress_141 (lv_at hl 3 rfl) ?_
              refine lv_icmp_ge (tgt := 172) hx hb dX8_readsPress_143 (by decide) (fun c37 => ?_) (fun c37 => ?_)
              · have h := h.1 c37
                refine lv_iconst (v := (nI 1)) hx hb dX8_readsPress_172 (by decide) ?_
                exact W.zret hx hb hr (by decide) (fun t ht hW => ⟨⟨(nI 1), S36, rfl, h, hO.q ht⟩, hO.f ht⟩) hO.lc dX8_readsPress_173
              · have h := h.2 c37
                refine lv_aload_n hx hb dX8_readsPress_146 rfl (lv_at hl 1 rfl) ?_
                obtain ⟨fs38, a39, e40, e40', h⟩ := h
                refine r_get C hO 6 8 rfl inX8 (Nat.le_of_ble_eq_true rfl) e40 e40' (List.mem_of_getElem? (i := 3) (by decide +kernel)) dX8_readsPress_147 ?_
                refine lv_aload_n hx hb dX8_readsPress_150 rfl (lv_at hl 1 rfl) ?_
                obtain ⟨fs41, i42, e43, e43', h⟩ := h
                refine r_get C hO 6 9 rfl inX8 (Nat.le_of_ble_eq_true rfl) e43 e43' (List.mem_of_getElem? (i := 1) (by decide +kernel)) dX8_readsPress_151 ?_
                refine lv_iload_n hx hb dX8_readsPress_154 rfl (lv_at hl 2 rfl) ?_
                obtain ⟨n44, f45, e46, e46', h⟩ := h
                refine r_iast C hO e46 e46' dX8_readsPress_155 (fun H locs hO => ?_)
                obtain ⟨S47, eS47⟩ : ∃ Sx, Sx = va_up S36 a39 (aI n44 (upd f45 (i42).toNatClampNeg i10)) := ⟨_, rfl⟩
                rw [← eS47] at hO
                have h := h S47 eS47
                refine lv_aload_n hx hb dX8_readsPress_156 rfl (lv_at hl 1 rfl) ?_
                refine lv_dup hx hb dX8_readsPress_157 rfl ?_
                obtain ⟨fs48, i49, e50, e50', h⟩ := h
                refine r_get C hO 6 9 rfl inX8 (Nat.le_of_ble_eq_true rfl) e50 e50' (List.mem_of_getElem? (i := 1) (by decide +kernel)) dX8_readsPress_158 ?_
                refine lv_iconst (v := (nI 1)) hx hb dX8_readsPress_161 (by decide) ?_
                refine lv_iadd hx hb dX8_readsPress_162 ?_
                obtain ⟨fs51, e52, e52', h⟩ := h
                refine r_put C hO 6 9 rfl inX8 tyX8_ok nmX8 (Nat.le_of_ble_eq_true rfl) rfl rfl rfl e52 e52' (List.mem_of_getElem? (i := 1) (by decide +kernel)) dX8_readsPress_163 (fun H locs hO => ?_)
                obtain ⟨S53, eS53⟩ : ∃ Sx, Sx = va_up S47 a0 (.inl (6, fs51.set 9 (.int (i49 + (nI 1))))) := ⟨_, rfl⟩
                rw [← eS53] at hO
                have h := h S53 eS53
                obtain ⟨i54, ei54⟩ : ∃ y : Int32, y = i35 + (nI 1) := ⟨_, rfl⟩
                have h := h i54 ei54
                refine lv_iinc (v := i54) (lv' := [(5, .int i54), (0, .ref a0), (3, .int i10), (4, .int i26)]) hx hb dX8_readsPress_166 hl (k := 0) rfl (by rw [ei54]; rfl) (by decide) rfl (fun ls hl => ?_)
                refine lv_goto (tgt := 139) hx hb dX8_readsPress_169 (by decide) ?_
                exact ih139 (i54, S53) _ _ _ h (lv_sub hl [0, 1, 2, 3] rfl) hO
            refine lv_icmp_le (tgt := 131) hx hb dX8_readsPress_124 (by decide) (fun c56 => ?_) (fun c56 => ?_)
            · have h := h.1 c56
              refine lv_iconst (v := (nI 0)) hx hb dX8_readsPress_131 (by decide) ?_
              refine lv_iadd hx hb dX8_readsPress_132 ?_
              obtain ⟨fs57, e58, e58', h⟩ := h
              refine r_put C hO 6 7 rfl inX8 tyX8_ok nmX8 (Nat.le_of_ble_eq_true rfl) rfl rfl rfl e58 e58' (List.mem_of_getElem? (i := 2) (by decide +kernel)) dX8_readsPress_133 (fun H locs hO => ?_)
              obtain ⟨S59, eS59⟩ : ∃ Sx, Sx = va_up S21 a0 (.inl (6, fs57.set 7 (.int (i32 + (nI 0))))) := ⟨_, rfl⟩
              rw [← eS59] at hO
              have h := h S59 eS59
              exact kc136 S59 _ _ _ h (lv_sub hl [0, 1, 2] rfl) hO
            · have h := h.2 c56
              refine lv_iconst (v := (nI 1)) hx hb dX8_readsPress_127 (by decide) ?_
              refine lv_goto (tgt := 132) hx hb dX8_readsPress_128 (by decide) ?_
              refine lv_iadd hx hb dX8_readsPress_132 ?_
              obtain ⟨fs60, e61, e61', h⟩ := h
              refine r_put C hO 6 7 rfl inX8 tyX8_ok nmX8 (Nat.le_of_ble_eq_true rfl) rfl rfl rfl e61 e61' (List.mem_of_getElem? (i := 2) (by decide +kernel)) dX8_readsPress_133 (fun H locs hO => ?_)
              obtain ⟨S62, eS62⟩ : ∃ Sx, Sx = va_up S21 a0 (.inl (6, fs60.set 7 (.int (i32 + (nI 1))))) := ⟨_, rfl⟩
              rw [← eS62] at hO
              have h := h S62 eS62
              exact kc136 S62 _ _ _ h (lv_sub hl [0, 1, 2] rfl) hO
          · have h := h.2 c30
            refine lv_iconst (v := (nI 0)) hx hb dX8_readsPress_114 (by decide) ?_
            exact W.zret hx hb hr (by decide) (fun t ht hW => ⟨⟨(nI 0), S21, rfl, h, hO.q ht⟩, hO.f ht⟩) hO.lc dX8_readsPress_115
        refine lv_if_eq (tgt := 99) hx hb dX8_readsPress_86 (by decide) (fun c63 => ?_) (fun c63 => ?_)
        · have h := h.1 c63
          refine lv_iconst (v := (nI 1)) hx hb dX8_readsPress_99 (by decide) ?_
          refine lv_istore (lv' := [(4, .int (nI 1)), (0, .ref a0), (3, .int i10)]) hx hb dX8_readsPress_100 hl (by decide) rfl (fun ls hl => ?_)
          exact kc102 (nI 1) _ h (lv_sub hl [1, 2, 0] rfl)
        · have h := h.2 c63
          refine lv_aload_n hx hb dX8_readsPress_89 rfl (lv_at hl 0 rfl) ?_
          obtain ⟨fs66, e65, h⟩ := h
          refine cV_ri (As := []) (rest := []) (n := 0) C hO (fun L => c_X8_next l D Y L S21 H.size a0 _ h) 6 rfl e65 (cwV 0 hts gX8_readsPress_X8_next rfl rfl rfl ⟨rfl, hdS_X8_next⟩ ⟨Nat.le_of_ble_eq_true rfl, Nat.le_of_ble_eq_true rfl⟩) rfl hl.1 rfl (Nat.le_of_ble_eq_true rfl) dX8_readsPress_90 ⟨Nat.le_of_ble_eq_true rfl, Nat.le_of_ble_eq_true rfl⟩ (fun i64 h => ?_)
          refine lv_bipush (v := (nI 48)) hx hb dX8_readsPress_93 (by decide) ?_
          refine lv_isub hx hb dX8_readsPress_95 ?_
          refine lv_goto (tgt := 100) hx hb dX8_readsPress_96 (by decide) ?_
          refine lv_topi (fun i67 ei67 => ?_)
          have h := h i67 ei67
          refine lv_istore (lv' := [(4, .int i67), (0, .ref a0), (3, .int i10)]) hx hb dX8_readsPress_100 hl (by decide) rfl (fun ls hl => ?_)
          exact kc102 i67 _ h (lv_sub hl [1, 2, 0] rfl)
      · have h := h.1 c15
        refine lv_iconst (v := (nI 0)) hx hb dX8_readsPress_63 (by decide) ?_
        exact W.zret hx hb hr (by decide) (fun t ht hW => ⟨⟨(nI 0), S, rfl, h, hO.q ht⟩, hO.f ht⟩) hO.lc dX8_readsPress_64
  refine lv_if_eq (tgt := 29) hx hb dX8_readsPress_22 (by decide) (fun c68 => ?_) (fun c68 => ?_)
  · have h := h.1 c68
    refine lv_iload_n hx hb dX8_readsPress_29 rfl (lv_at hl 0 rfl) ?_
    refine lv_iconst (v := (nI 0)) hx hb dX8_readsPress_30 (by decide) ?_
    refine lv_iconst (v := (nI 5)) hx hb dX8_readsPress_31 (by decide) ?_
    refine cS_si (As := [.int i8, .int (nI 0), .int (nI 5)]) (rest := []) (n := 3) CF hZ (c_X8_within l i8 (nI 0) (nI 5) _ h) (va_cwS 3 hts gX8_readsPress_X8_within rfl rfl rfl hdS_X8_within ⟨Nat.le_of_ble_eq_true rfl, Nat.le_of_ble_eq_true rfl⟩) rfl hl.1 rfl (Nat.le_of_ble_eq_true rfl) dX8_readsPress_32 ⟨Nat.le_of_ble_eq_true rfl, Nat.le_of_ble_eq_true rfl⟩ (fun i69 h => ?_)
    refine lv_if_eq (tgt := 45) hx hb dX8_readsPress_35 (by decide) (fun c70 => ?_) (fun c70 => ?_)
    · have h := h.1 c70
      refine lv_bipush (v := (-6 : Int32)) hx hb dX8_readsPress_45 (by decide) ?_
      refine lv_istore_n (lv' := [(3, .int (-6 : Int32)), (2, .int i8), (1, .int i4), (0, .ref a0)]) hx hb dX8_readsPress_47 rfl hl (by decide) rfl (fun ls hl => ?_)
      exact kc48 (-6 : Int32) _ h (lv_sub hl [3, 0] rfl)
    · have h := h.2 c70
      refine lv_iload_n hx hb dX8_readsPress_38 rfl (lv_at hl 0 rfl) ?_
      refine lv_bipush (v := (nI 6)) hx hb dX8_readsPress_39 (by decide) ?_
      refine lv_iadd hx hb dX8_readsPress_41 ?_
      refine lv_goto (tgt := 47) hx hb dX8_readsPress_42 (by decide) ?_
      refine lv_topi (fun i71 ei71 => ?_)
      have h := h i71 ei71
      refine lv_istore_n (lv' := [(3, .int i71), (2, .int i8), (1, .int i4), (0, .ref a0)]) hx hb dX8_readsPress_47 rfl hl (by decide) rfl (fun ls hl => ?_)
      exact kc48 i71 _ h (lv_sub hl [3, 0] rfl)
  · have h := h.2 c68
    refine lv_iload_n hx hb dX8_readsPress_25 rfl (lv_at hl 1 rfl) ?_
    refine lv_goto (tgt := 47) hx hb dX8_readsPress_26 (by decide) ?_
    refine lv_istore_n (lv' := [(3, .int i4), (2, .int i8), (1, .int i4), (0, .ref a0)]) hx hb dX8_readsPress_47 rfl hl (by decide) rfl (fun ls hl => ?_)
    exact kc48 i4 _ h (lv_sub hl [3, 0] rfl)
theorem hdS_X8_findFault : yX8_findFault.cls ≠ "java/lang/invoke/MethodHandle" ∧ yX8_findFault.cls ≠ "java/lang/invoke/VarHandle" ∧ (parseMethodDescriptor yX8_findFault.desc).map (fun d => d.parameters.length) = some 0 := by decide +kernel
set_option maxHeartbeats 4000000 in
set_option maxRecDepth 100000 in
theorem c_X8_findFault (l : Launch) (D : va_G) (Y : Nat → ClassId) (L : List Nat) (S : PS) (sz : Nat) (a0 : Nat) (Post : Int32 → PS → Prop) (h : wp_X8_findFault S a0 Post) : Met l yX8_findFault wsX8_findFault ({ frames := 2, cells := 0, slots := 0, locals := 47 }) (va_Pc [.ref a0] (PrO D Y L S sz)) (va_Qi Post (QtO D Y (fR L sz)) (fR L sz)) 0 0 (fR L sz) := by
  refine Met.ofW (cc := cX8_findFault) (maxL := 2) (ret := (some .int)) (by decide) rfl ?_
  intro p e s m args below meth c s₁ B hml hv
  obtain ⟨rfl, hsz, hJ, hP, hK, hD0, hZ⟩ := hv
  have hx := B.exec
  have hb := B.bytes
  have hr := B.returns
  have hts := atoms_spec (ws := wsX8_findFault) B.pre
  have hown : s.vm.findClass RX8 = some m.cls := findClass_of_methodNamed B.named
  have hlocks := B.notSynchronized
  have CF : CallFix p m c cX8_findFault 2 s ([.ref a0] : List Value).toArray wsX8_findFault RX8 := ⟨hx, hb, hml, hown, hts⟩
  have C : CX p m c cX8_findFault 2 s ([.ref a0] : List Value).toArray wsX8_findFault RX8 D Y := ⟨CF, hK, hZ⟩
  have hO : HO D Y (fR L sz) s.heap S s.heap [] := HO.entry hsz hJ hP hD0
  subst hsz
  have inX8 : ∀ w ∈ wsX80, w ∈ wsX8_findFault := fun w h => List.mem_cons_of_mem _ (List.mem_append_right _ h)
  have hl := lv_entry ([.ref a0]) (n := 2) (Nat.le_of_ble_eq_true rfl)
  rw [lg_entry_eq]
  generalize (lg_sl ([.ref a0]) ++ List.replicate (2 - (lg_sl ([.ref a0])).length) Slot.unset).toArray = ls at hl ⊢
  have hl : lv_has ls 2 [(0, .ref a0)] := hl
  unfold wp_X8_findFault at h
  refine lv_aload_n hx hb dX8_findFault_0 rfl (lv_at hl 0 rfl) ?_
  refine lv_iconst (v := (nI 0)) hx hb dX8_findFault_1 (by decide) ?_
  obtain ⟨fs1, e2, e2', h⟩ := h
  refine r_put C hO 6 7 rfl inX8 tyX8_ok nmX8 (Nat.le_of_ble_eq_true rfl) rfl rfl rfl e2 e2' (List.mem_of_getElem? (i := 1) (by decide +kernel)) dX8_findFault_2 (fun H locs hO => ?_)
  obtain ⟨S3, eS3⟩ : ∃ Sx, Sx = va_up S a0 (.inl (6, fs1.set 7 (.int (nI 0)))) := ⟨_, rfl⟩
  rw [← eS3] at hO
  have h := h S3 eS3
  refine lv_aload_n hx hb dX8_findFault_5 rfl (lv_at hl 0 rfl) ?_
  refine lv_iconst (v := (nI 0)) hx hb dX8_findFault_6 (by decide) ?_
  obtain ⟨fs4, e5, e5', h⟩ := h
  refine r_put C hO 6 9 rfl inX8 tyX8_ok nmX8 (Nat.le_of_ble_eq_true rfl) rfl rfl rfl e5 e5' (List.mem_of_getElem? (i := 2) (by decide +kernel)) dX8_findFault_7 (fun H locs hO => ?_)
  obtain ⟨S6, eS6⟩ : ∃ Sx, Sx = va_up S3 a0 (.inl (6, fs4.set 9 (.int (nI 0)))) := ⟨_, rfl⟩
  rw [← eS6] at hO
  have h := h S6 eS6
  refine lv_iconst (v := (nI 1)) hx hb dX8_findFault_10 (by decide) ?_
  refine lv_istore_n (lv' := [(1, .int (nI 1)), (0, .ref a0)]) hx hb dX8_findFault_11 rfl hl (by decide) rfl (fun ls hl => ?_)
  obtain ⟨n34, h⟩ := h
  refine lp_W (nL := 2) (fun q => [(1, .int q.1), (0, .ref a0)]) (fun q => q.2) h (lv_sub hl [0, 1] rfl) hO (fun K12 ih12 q ls H locs h hl hO => ?_)
  obtain ⟨i7, S8⟩ := q
  have h : wpb_X8_findFault_12 a0 Post K12 i7 S8 := h
  have hl : lv_has ls 2 [(1, .int i7), (0, .ref a0)] := hl
  have hO : HO D Y (fR L s.heap.size) s.heap S8 H locs := hO
  unfold wpb_X8_findFault_12 at h
  refine lv_iload_n hx hb dX8_findFault_12 rfl (lv_at hl 0 rfl) ?_
  refine cut_W D Y (fR L s.heap.size) s.heap (nL := 2) (fun (q : Int32 × PS) => wpk_X8_findFault_35 a0 Post q.1 q.2) (fun q => [(1, .int q.1), (0, .ref a0)]) (fun q => q.2) 35 ?_ (fun kc35 => ?_)
  · intro q ls H locs h hl hO
    obtain ⟨i9, S10⟩ := q
    have h : wpk_X8_findFault_35 a0 Post i9 S10 := h
    have hl : lv_has ls 2 [(1, .int i9), (0, .ref a0)] := hl
    have hO : HO D Y (fR L s.heap.size) s.heap S10 H locs := hO
    unfold wpk_X8_findFault_35 at h
    refine lv_iload_n hx hb dX8_findFault_35 rfl (lv_at hl 0 rfl) ?_
    refine lv_if_eq (tgt := 51) hx hb dX8_findFault_36 (by decide) (fun c11 => ?_) (fun c11 => ?_)
    · have h := h.1 c11
      refine lv_aload_n hx hb dX8_findFault_51 rfl (lv_at hl 1 rfl) ?_
      obtain ⟨fs12, i13, e14, e14', h⟩ := h
      refine r_get C hO 6 7 rfl inX8 (Nat.le_of_ble_eq_true rfl) e14 e14' (List.mem_of_getElem? (i := 1) (by decide +kernel)) dX8_findFault_52 ?_
      exact W.iret hx hb hr (fun t ht hW => ⟨⟨i13, S10, rfl, h, hO.q ht⟩, hO.f ht⟩) hO.lc dX8_findFault_55
    · have h := h.2 c11
      refine lv_aload_n hx hb dX8_findFault_39 rfl (lv_at hl 1 rfl) ?_
      obtain ⟨fs15, i16, e17, e17', h⟩ := h
      refine r_get C hO 6 6 rfl inX8 (Nat.le_of_ble_eq_true rfl) e17 e17' (List.mem_of_getElem? (i := 3) (by decide +kernel)) dX8_findFault_40 ?_
      refine lv_if_le (tgt := 51) hx hb dX8_findFault_43 (by decide) (fun c18 => ?_) (fun c18 => ?_)
      · have h := h.1 c18
        refine lv_aload_n hx hb dX8_findFault_51 rfl (lv_at hl 1 rfl) ?_
        obtain ⟨fs19, i20, e21, e21', h⟩ := h
        refine r_get C hO 6 7 rfl inX8 (Nat.le_of_ble_eq_true rfl) e21 e21' (List.mem_of_getElem? (i := 1) (by decide +kernel)) dX8_findFault_52 ?_
        exact W.iret hx hb hr (fun t ht hW => ⟨⟨i20, S10, rfl, h, hO.q ht⟩, hO.f ht⟩) hO.lc dX8_findFault_55
      · have h := h.2 c18
        refine lv_bipush (v := (-6 : Int32)) hx hb dX8_findFault_46 (by decide) ?_
        refine lv_goto (tgt := 55) hx hb dX8_findFault_48 (by decide) ?_
        exact W.iret hx hb hr (fun t ht hW => ⟨⟨(-6 : Int32), S10, rfl, h, hO.q ht⟩, hO.f ht⟩) hO.lc dX8_findFault_55
  refine lv_if_eq (tgt := 35) hx hb dX8_findFault_13 (by decide) (fun c22 => ?_) (fun c22 => ?_)
  · have h := h.1 c22
    exact kc35 (i7, S8) _ _ _ h (lv_sub hl [0, 1] rfl) hO
  · have h := h.2 c22
    refine lv_aload_n hx hb dX8_findFault_16 rfl (lv_at hl 1 rfl) ?_
    obtain ⟨fs23, i24, e25, e25', h⟩ := h
    refine r_get C hO 6 7 rfl inX8 (Nat.le_of_ble_eq_true rfl) e25 e25' (List.mem_of_getElem? (i := 1) (by decide +kernel)) dX8_findFault_17 ?_
    refine lv_aload_n hx hb dX8_findFault_20 rfl (lv_at hl 1 rfl) ?_
    obtain ⟨fs26, i27, e28, e28', h⟩ := h
    refine r_get C hO 6 6 rfl inX8 (Nat.le_of_ble_eq_true rfl) e28 e28' (List.mem_of_getElem? (i := 3) (by decide +kernel)) dX8_findFault_21 ?_
    refine lv_icmp_ge (tgt := 35) hx hb dX8_findFault_24 (by decide) (fun c29 => ?_) (fun c29 => ?_)
    · have h := h.1 c29
      exact kc35 (i7, S8) _ _ _ h (lv_sub hl [0, 1] rfl) hO
    · have h := h.2 c29
      refine lv_aload_n hx hb dX8_findFault_27 rfl (lv_at hl 1 rfl) ?_
      obtain ⟨fs33, e32, h⟩ := h
      refine cV_wi (As := []) (rest := []) (n := 0) C hO (fun L => c_X8_readsPress l D Y L S8 H.size a0 _ h) 6 rfl e32 (cwV 0 hts gX8_findFault_X8_readsPress rfl rfl rfl ⟨rfl, hdS_X8_readsPress⟩ ⟨Nat.le_of_ble_eq_true rfl, Nat.le_of_ble_eq_true rfl⟩) rfl hl.1 rfl (Nat.le_of_ble_eq_true rfl) dX8_findFault_28 ⟨Nat.le_of_ble_eq_true rfl, Nat.le_of_ble_eq_true rfl⟩ (fun i30 S31 H locs h hO => ?_)
      refine lv_istore_n (lv' := [(1, .int i30), (0, .ref a0)]) hx hb dX8_findFault_31 rfl hl (by decide) rfl (fun ls hl => ?_)
      refine lv_goto (tgt := 12) hx hb dX8_findFault_32 (by decide) ?_
      exact ih12 (i30, S31) _ _ _ h (lv_sub hl [0, 1] rfl) hO
theorem hdS_X8_read : yX8_read.cls ≠ "java/lang/invoke/MethodHandle" ∧ yX8_read.cls ≠ "java/lang/invoke/VarHandle" ∧ (parseMethodDescriptor yX8_read.desc).map (fun d => d.parameters.length) = some 1 := by decide +kernel
set_option maxHeartbeats 4000000 in
set_option maxRecDepth 100000 in
theorem c_X8_read (l : Launch) (D : va_G) (Y : Nat → ClassId) (L : List Nat) (S : PS) (sz : Nat) (a0 : Nat) (v1 : Int32) (Post : Int32 → PS → Prop) (h : wp_X8_read S a0 v1 Post) : Met l yX8_read wsX8_read ({ frames := 3, cells := 0, slots := 0, locals := 68 }) (va_Pc [.ref a0, .int v1] (PrO D Y L S sz)) (va_Qi Post (QtO D Y (fR L sz)) (fR L sz)) 0 0 (fR L sz) := by
  refine Met.ofW (cc := cX8_read) (maxL := 2) (ret := (some .int)) (by decide) rfl ?_
  intro p e s m args below meth c s₁ B hml hv
  obtain ⟨rfl, hsz, hJ, hP, hK, hD0, hZ⟩ := hv
  have hx := B.exec
  have hb := B.bytes
  have hr := B.returns
  have hts := atoms_spec (ws := wsX8_read) B.pre
  have hown : s.vm.findClass RX8 = some m.cls := findClass_of_methodNamed B.named
  have hlocks := B.notSynchronized
  have CF : CallFix p m c cX8_read 2 s ([.ref a0, .int v1] : List Value).toArray wsX8_read RX8 := ⟨hx, hb, hml, hown, hts⟩
  have C : CX p m c cX8_read 2 s ([.ref a0, .int v1] : List Value).toArray wsX8_read RX8 D Y := ⟨CF, hK, hZ⟩
  have hO : HO D Y (fR L sz) s.heap S s.heap [] := HO.entry hsz hJ hP hD0
  subst hsz
  have inX8 : ∀ w ∈ wsX80, w ∈ wsX8_read := fun w h => List.mem_cons_of_mem _ (List.mem_append_right _ h)
  have hl := lv_entry ([.ref a0, .int v1]) (n := 2) (Nat.le_of_ble_eq_true rfl)
  rw [lg_entry_eq]
  generalize (lg_sl ([.ref a0, .int v1]) ++ List.replicate (2 - (lg_sl ([.ref a0, .int v1])).length) Slot.unset).toArray = ls at hl ⊢
  have hl : lv_has ls 2 [(0, .ref a0), (1, .int v1)] := hl
  unfold wp_X8_read at h
  refine lv_iload_n hx hb dX8_read_0 rfl (lv_at hl 1 rfl) ?_
  refine cS_si (As := [.int v1]) (rest := []) (n := 1) CF hZ (c_X8_isDraft l v1 _ h) (va_cwS 1 hts gX8_read_X8_isDraft rfl rfl rfl hdS_X8_isDraft ⟨Nat.le_of_ble_eq_true rfl, Nat.le_of_ble_eq_true rfl⟩) rfl hl.1 rfl (Nat.le_of_ble_eq_true rfl) dX8_read_1 ⟨Nat.le_of_ble_eq_true rfl, Nat.le_of_ble_eq_true rfl⟩ (fun i1 h => ?_)
  refine lv_if_ne (tgt := 9) hx hb dX8_read_4 (by decide) (fun c2 => ?_) (fun c2 => ?_)
  · have h := h.2 c2
    refine lv_aload_n hx hb dX8_read_9 rfl (lv_at hl 0 rfl) ?_
    obtain ⟨fs6, e5, h⟩ := h
    refine cV_wi (As := []) (rest := []) (n := 0) C hO (fun L => c_X8_findFault l D Y L S s.heap.size a0 _ h) 6 rfl e5 (cwV 0 hts gX8_read_X8_findFault rfl rfl rfl ⟨rfl, hdS_X8_findFault⟩ ⟨Nat.le_of_ble_eq_true rfl, Nat.le_of_ble_eq_true rfl⟩) rfl hl.1 rfl (Nat.le_of_ble_eq_true rfl) dX8_read_10 ⟨Nat.le_of_ble_eq_true rfl, Nat.le_of_ble_eq_true rfl⟩ (fun i3 S4 H locs h hO => ?_)
    refine lv_bipush (v := (-6 : Int32)) hx hb dX8_read_13 (by decide) ?_
    refine lv_icmp_eq (tgt := 21) hx hb dX8_read_15 (by decide) (fun c7 => ?_) (fun c7 => ?_)
    · have h := h.1 c7
      refine lv_aload_n hx hb dX8_read_21 rfl (lv_at hl 0 rfl) ?_
      refine lv_iconst (v := (nI 0)) hx hb dX8_read_22 (by decide) ?_
      obtain ⟨fs8, e9, e9', h⟩ := h
      refine r_put C hO 6 6 rfl inX8 tyX8_ok nmX8 (Nat.le_of_ble_eq_true rfl) rfl rfl rfl e9 e9' (List.mem_of_getElem? (i := 1) (by decide +kernel)) dX8_read_23 (fun H locs hO => ?_)
      obtain ⟨S10, eS10⟩ : ∃ Sx, Sx = va_up S4 a0 (.inl (6, fs8.set 6 (.int (nI 0)))) := ⟨_, rfl⟩
      rw [← eS10] at hO
      have h := h S10 eS10
      refine lv_aload_n hx hb dX8_read_26 rfl (lv_at hl 0 rfl) ?_
      refine lv_iload_n hx hb dX8_read_27 rfl (lv_at hl 1 rfl) ?_
      obtain ⟨fs14, e13, h⟩ := h
      refine cV_wi (As := [.int v1]) (rest := []) (n := 1) C hO (fun L => c_X8_make l D Y L S10 H.size a0 v1 _ h) 6 rfl e13 (cwV 1 hts gX8_read_X8_make rfl rfl rfl ⟨rfl, hdS_X8_make⟩ ⟨Nat.le_of_ble_eq_true rfl, Nat.le_of_ble_eq_true rfl⟩) rfl hl.1 rfl (Nat.le_of_ble_eq_true rfl) dX8_read_28 ⟨Nat.le_of_ble_eq_true rfl, Nat.le_of_ble_eq_true rfl⟩ (fun i11 S12 H locs h hO => ?_)
      exact W.iret hx hb hr (fun t ht hW => ⟨⟨i11, S12, rfl, h, hO.q ht⟩, hO.f ht⟩) hO.lc dX8_read_31
    · have h := h.2 c7
      refine lv_bipush (v := (-3 : Int32)) hx hb dX8_read_18 (by decide) ?_
      exact W.iret hx hb hr (fun t ht hW => ⟨⟨(-3 : Int32), S4, rfl, h, hO.q ht⟩, hO.f ht⟩) hO.lc dX8_read_20
  · have h := h.1 c2
    refine lv_iconst (v := (-1 : Int32)) hx hb dX8_read_7 (by decide) ?_
    exact W.iret hx hb hr (fun t ht hW => ⟨⟨(-1 : Int32), S, rfl, h, hO.q ht⟩, hO.f ht⟩) hO.lc dX8_read_8
theorem hdS_X8_compose : yX8_compose.cls ≠ "java/lang/invoke/MethodHandle" ∧ yX8_compose.cls ≠ "java/lang/invoke/VarHandle" ∧ (parseMethodDescriptor yX8_compose.desc).map (fun d => d.parameters.length) = some 3 := by decide +kernel
set_option maxHeartbeats 4000000 in
set_option maxRecDepth 100000 in
theorem c_X8_compose (l : Launch) (D : va_G) (Y : Nat → ClassId) (L : List Nat) (S : PS) (sz : Nat) (a0 : Nat) (v1 : Int32) (v2 : Int32) (v3 : Int32) (Post : Int32 → PS → Prop) (h : wp_X8_compose S a0 v1 v2 v3 Post) : Met l yX8_compose wsX8_compose ({ frames := 2, cells := 0, slots := 0, locals := 44 }) (va_Pc [.ref a0, .int v1, .int v2, .int v3] (PrO D Y L S sz)) (va_Qi Post (QtO D Y (fR L sz)) (fR L sz)) 0 0 (fR L sz) := by
  refine Met.ofW (cc := cX8_compose) (maxL := 4) (ret := (some .int)) (by decide) rfl ?_
  intro p e s m args below meth c s₁ B hml hv
  obtain ⟨rfl, hsz, hJ, hP, hK, hD0, hZ⟩ := hv
  have hx := B.exec
  have hb := B.bytes
  have hr := B.returns
  have hts := atoms_spec (ws := wsX8_compose) B.pre
  have hown : s.vm.findClass RX8 = some m.cls := findClass_of_methodNamed B.named
  have hlocks := B.notSynchronized
  have CF : CallFix p m c cX8_compose 4 s ([.ref a0, .int v1, .int v2, .int v3] : List Value).toArray wsX8_compose RX8 := ⟨hx, hb, hml, hown, hts⟩
  have C : CX p m c cX8_compose 4 s ([.ref a0, .int v1, .int v2, .int v3] : List Value).toArray wsX8_compose RX8 D Y := ⟨CF, hK, hZ⟩
  have hO : HO D Y (fR L sz) s.heap S s.heap [] := HO.entry hsz hJ hP hD0
  subst hsz
  have inX8 : ∀ w ∈ wsX80, w ∈ wsX8_compose := fun w h => List.mem_cons_of_mem _ (List.mem_append_right _ h)
  have hl := lv_entry ([.ref a0, .int v1, .int v2, .int v3]) (n := 4) (Nat.le_of_ble_eq_true rfl)
  rw [lg_entry_eq]
  generalize (lg_sl ([.ref a0, .int v1, .int v2, .int v3]) ++ List.replicate (4 - (lg_sl ([.ref a0, .int v1, .int v2, .int v3])).length) Slot.unset).toArray = ls at hl ⊢
  have hl : lv_has ls 4 [(0, .ref a0), (1, .int v1), (2, .int v2), (3, .int v3)] := hl
  unfold wp_X8_compose at h
  refine lv_iload_n hx hb dX8_compose_0 rfl (lv_at hl 1 rfl) ?_
  refine cS_si (As := [.int v1]) (rest := []) (n := 1) CF hZ (c_X8_isDraft l v1 _ h) (va_cwS 1 hts gX8_compose_X8_isDraft rfl rfl rfl hdS_X8_isDraft ⟨Nat.le_of_ble_eq_true rfl, Nat.le_of_ble_eq_true rfl⟩) rfl hl.1 rfl (Nat.le_of_ble_eq_true rfl) dX8_compose_1 ⟨Nat.le_of_ble_eq_true rfl, Nat.le_of_ble_eq_true rfl⟩ (fun i1 h => ?_)
  refine lv_if_eq (tgt := 21) hx hb dX8_compose_4 (by decide) (fun c2 => ?_) (fun c2 => ?_)
  · have h := h.1 c2
    refine lv_iconst (v := (-1 : Int32)) hx hb dX8_compose_21 (by decide) ?_
    exact W.iret hx hb hr (fun t ht hW => ⟨⟨(-1 : Int32), S, rfl, h, hO.q ht⟩, hO.f ht⟩) hO.lc dX8_compose_22
  · have h := h.2 c2
    refine lv_iload_n hx hb dX8_compose_7 rfl (lv_at hl 2 rfl) ?_
    refine cS_si (As := [.int v2]) (rest := []) (n := 1) CF hZ (c_X8_isDraft l v2 _ h) (va_cwS 1 hts gX8_compose_X8_isDraft rfl rfl rfl hdS_X8_isDraft ⟨Nat.le_of_ble_eq_true rfl, Nat.le_of_ble_eq_true rfl⟩) rfl hl.1 rfl (Nat.le_of_ble_eq_true rfl) dX8_compose_8 ⟨Nat.le_of_ble_eq_true rfl, Nat.le_of_ble_eq_true rfl⟩ (fun i3 h => ?_)
    refine lv_if_eq (tgt := 21) hx hb dX8_compose_11 (by decide) (fun c4 => ?_) (fun c4 => ?_)
    · have h := h.1 c4
      refine lv_iconst (v := (-1 : Int32)) hx hb dX8_compose_21 (by decide) ?_
      exact W.iret hx hb hr (fun t ht hW => ⟨⟨(-1 : Int32), S, rfl, h, hO.q ht⟩, hO.f ht⟩) hO.lc dX8_compose_22
    · have h := h.2 c4
      refine lv_iload_n hx hb dX8_compose_14 rfl (lv_at hl 3 rfl) ?_
      refine cS_si (As := [.int v3]) (rest := []) (n := 1) CF hZ (c_X8_isDraft l v3 _ h) (va_cwS 1 hts gX8_compose_X8_isDraft rfl rfl rfl hdS_X8_isDraft ⟨Nat.le_of_ble_eq_true rfl, Nat.le_of_ble_eq_true rfl⟩) rfl hl.1 rfl (Nat.le_of_ble_eq_true rfl) dX8_compose_15 ⟨Nat.le_of_ble_eq_true rfl, Nat.le_of_ble_eq_true rfl⟩ (fun i5 h => ?_)
      refine lv_if_ne (tgt := 23) hx hb dX8_compose_18 (by decide) (fun c6 => ?_) (fun c6 => ?_)
      · have h := h.2 c6
        refine lv_aload_n hx hb dX8_compose_23 rfl (lv_at hl 0 rfl) ?_
        refine lv_iload_n hx hb dX8_compose_24 rfl (lv_at hl 2 rfl) ?_
        obtain ⟨fs9, e8, h⟩ := h
        refine cV_ri (As := [.int v2]) (rest := []) (n := 1) C hO (fun L => c_X8_lengthOf l D Y L S s.heap.size a0 v2 _ h) 6 rfl e8 (cwV 1 hts gX8_compose_X8_lengthOf rfl rfl rfl ⟨rfl, hdS_X8_lengthOf⟩ ⟨Nat.le_of_ble_eq_true rfl, Nat.le_of_ble_eq_true rfl⟩) rfl hl.1 rfl (Nat.le_of_ble_eq_true rfl) dX8_compose_25 ⟨Nat.le_of_ble_eq_true rfl, Nat.le_of_ble_eq_true rfl⟩ (fun i7 h => ?_)
        refine lv_aload_n hx hb dX8_compose_28 rfl (lv_at hl 0 rfl) ?_
        refine lv_iload_n hx hb dX8_compose_29 rfl (lv_at hl 3 rfl) ?_
        obtain ⟨fs12, e11, h⟩ := h
        refine cV_ri (As := [.int v3]) (rest := [.int i7]) (n := 1) C hO (fun L => c_X8_lengthOf l D Y L S s.heap.size a0 v3 _ h) 6 rfl e11 (cwV 1 hts gX8_compose_X8_lengthOf rfl rfl rfl ⟨rfl, hdS_X8_lengthOf⟩ ⟨Nat.le_of_ble_eq_true rfl, Nat.le_of_ble_eq_true rfl⟩) rfl hl.1 rfl (Nat.le_of_ble_eq_true rfl) dX8_compose_30 ⟨Nat.le_of_ble_eq_true rfl, Nat.le_of_ble_eq_true rfl⟩ (fun i10 h => ?_)
        refine lv_iadd hx hb dX8_compose_33 ?_
        refine lv_bipush (v := (nI 24)) hx hb dX8_compose_34 (by decide) ?_
        refine lv_icmp_le (tgt := 42) hx hb dX8_compose_36 (by decide) (fun c13 => ?_) (fun c13 => ?_)
        · have h := h.1 c13
          refine lv_aload_n hx hb dX8_compose_42 rfl (lv_at hl 0 rfl) ?_
          refine lv_iconst (v := (nI 0)) hx hb dX8_compose_43 (by decide) ?_
          obtain ⟨fs14, e15, e15', h⟩ := h
          refine r_put C hO 6 9 rfl inX8 tyX8_ok nmX8 (Nat.le_of_ble_eq_true rfl) rfl rfl rfl e15 e15' (List.mem_of_getElem? (i := 1) (by decide +kernel)) dX8_compose_44 (fun H locs hO => ?_)
          obtain ⟨S16, eS16⟩ : ∃ Sx, Sx = va_up S a0 (.inl (6, fs14.set 9 (.int (nI 0)))) := ⟨_, rfl⟩
          rw [← eS16] at hO
          have h := h S16 eS16
          refine lv_aload_n hx hb dX8_compose_47 rfl (lv_at hl 0 rfl) ?_
          refine lv_iload_n hx hb dX8_compose_48 rfl (lv_at hl 2 rfl) ?_
          obtain ⟨fs19, e18, h⟩ := h
          refine cV_wv (As := [.int v2]) (rest := []) (n := 1) C hO (fun L => c_X8_addRow l D Y L S16 H.size a0 v2 _ h) 6 rfl e18 (cwV 1 hts gX8_compose_X8_addRow rfl rfl rfl ⟨rfl, hdS_X8_addRow⟩ ⟨Nat.le_of_ble_eq_true rfl, Nat.le_of_ble_eq_true rfl⟩) rfl hl.1 rfl (Nat.le_of_ble_eq_true rfl) dX8_compose_49 ⟨Nat.le_of_ble_eq_true rfl, Nat.le_of_ble_eq_true rfl⟩ (fun S17 H locs h hO => ?_)
          refine lv_aload_n hx hb dX8_compose_52 rfl (lv_at hl 0 rfl) ?_
          refine lv_iload_n hx hb dX8_compose_53 rfl (lv_at hl 3 rfl) ?_
          obtain ⟨fs22, e21, h⟩ := h
          refine cV_wv (As := [.int v3]) (rest := []) (n := 1) C hO (fun L => c_X8_addRow l D Y L S17 H.size a0 v3 _ h) 6 rfl e21 (cwV 1 hts gX8_compose_X8_addRow rfl rfl rfl ⟨rfl, hdS_X8_addRow⟩ ⟨Nat.le_of_ble_eq_true rfl, Nat.le_of_ble_eq_true rfl⟩) rfl hl.1 rfl (Nat.le_of_ble_eq_true rfl) dX8_compose_54 ⟨Nat.le_of_ble_eq_true rfl, Nat.le_of_ble_eq_true rfl⟩ (fun S20 H locs h hO => ?_)
          refine lv_aload_n hx hb dX8_compose_57 rfl (lv_at hl 0 rfl) ?_
          refine lv_iload_n hx hb dX8_compose_58 rfl (lv_at hl 1 rfl) ?_
          obtain ⟨fs26, e25, h⟩ := h
          refine cV_wi (As := [.int v1]) (rest := []) (n := 1) C hO (fun L => c_X8_make l D Y L S20 H.size a0 v1 _ h) 6 rfl e25 (cwV 1 hts gX8_compose_X8_make rfl rfl rfl ⟨rfl, hdS_X8_make⟩ ⟨Nat.le_of_ble_eq_true rfl, Nat.le_of_ble_eq_true rfl⟩) rfl hl.1 rfl (Nat.le_of_ble_eq_true rfl) dX8_compose_59 ⟨Nat.le_of_ble_eq_true rfl, Nat.le_of_ble_eq_true rfl⟩ (fun i23 S24 H locs h hO => ?_)
          exact W.iret hx hb hr (fun t ht hW => ⟨⟨i23, S24, rfl, h, hO.q ht⟩, hO.f ht⟩) hO.lc dX8_compose_62
        · have h := h.2 c13
          refine lv_bipush (v := (-4 : Int32)) hx hb dX8_compose_39 (by decide) ?_
          exact W.iret hx hb hr (fun t ht hW => ⟨⟨(-4 : Int32), S, rfl, h, hO.q ht⟩, hO.f ht⟩) hO.lc dX8_compose_41
      · have h := h.1 c6
        refine lv_iconst (v := (-1 : Int32)) hx hb dX8_compose_21 (by decide) ?_
        exact W.iret hx hb hr (fun t ht hW => ⟨⟨(-1 : Int32), S, rfl, h, hO.q ht⟩, hO.f ht⟩) hO.lc dX8_compose_22
theorem hdS_X8_turnRound : yX8_turnRound.cls ≠ "java/lang/invoke/MethodHandle" ∧ yX8_turnRound.cls ≠ "java/lang/invoke/VarHandle" ∧ (parseMethodDescriptor yX8_turnRound.desc).map (fun d => d.parameters.length) = some 2 := by decide +kernel
set_option maxHeartbeats 4000000 in
set_option maxRecDepth 100000 in
theorem c_X8_turnRound (l : Launch) (D : va_G) (Y : Nat → ClassId) (L : List Nat) (S : PS) (sz : Nat) (a0 : Nat) (v1 : Int32) (v2 : Int32) (Post : Int32 → PS → Prop) (h : wp_X8_turnRound S a0 v1 v2 Post) : Met l yX8_turnRound wsX8_turnRound ({ frames := 2, cells := 0, slots := 0, locals := 43 }) (va_Pc [.ref a0, .int v1, .int v2] (PrO D Y L S sz)) (va_Qi Post (QtO D Y (fR L sz)) (fR L sz)) 0 0 (fR L sz) := by
  refine Met.ofW (cc := cX8_turnRound) (maxL := 4) (ret := (some .int)) (by decide) rfl ?_
  intro p e s m args below meth c s₁ B hml hv
  obtain ⟨rfl, hsz, hJ, hP, hK, hD0, hZ⟩ := hv
  have hx := B.exec
  have hb := B.bytes
  have hr := B.returns
  have hts := atoms_spec (ws := wsX8_turnRound) B.pre
  have hown : s.vm.findClass RX8 = some m.cls := findClass_of_methodNamed B.named
  have hlocks := B.notSynchronized
  have CF : CallFix p m c cX8_turnRound 4 s ([.ref a0, .int v1, .int v2] : List Value).toArray wsX8_turnRound RX8 := ⟨hx, hb, hml, hown, hts⟩
  have C : CX p m c cX8_turnRound 4 s ([.ref a0, .int v1, .int v2] : List Value).toArray wsX8_turnRound RX8 D Y := ⟨CF, hK, hZ⟩
  have hO : HO D Y (fR L sz) s.heap S s.heap [] := HO.entry hsz hJ hP hD0
  subst hsz
  have inX8 : ∀ w ∈ wsX80, w ∈ wsX8_turnRound := fun w h => List.mem_cons_of_mem _ (List.mem_append_right _ h)
  have hl := lv_entry ([.ref a0, .int v1, .int v2]) (n := 4) (Nat.le_of_ble_eq_true rfl)
  rw [lg_entry_eq]
  generalize (lg_sl ([.ref a0, .int v1, .int v2]) ++ List.replicate (4 - (lg_sl ([.ref a0, .int v1, .int v2])).length) Slot.unset).toArray = ls at hl ⊢
  have hl : lv_has ls 4 [(0, .ref a0), (1, .int v1), (2, .int v2)] := hl
  unfold wp_X8_turnRound at h
  refine lv_iload_n hx hb dX8_turnRound_0 rfl (lv_at hl 1 rfl) ?_
  refine cS_si (As := [.int v1]) (rest := []) (n := 1) CF hZ (c_X8_isDraft l v1 _ h) (va_cwS 1 hts gX8_turnRound_X8_isDraft rfl rfl rfl hdS_X8_isDraft ⟨Nat.le_of_ble_eq_true rfl, Nat.le_of_ble_eq_true rfl⟩) rfl hl.1 rfl (Nat.le_of_ble_eq_true rfl) dX8_turnRound_1 ⟨Nat.le_of_ble_eq_true rfl, Nat.le_of_ble_eq_true rfl⟩ (fun i1 h => ?_)
  refine lv_if_eq (tgt := 14) hx hb dX8_turnRound_4 (by decide) (fun c2 => ?_) (fun c2 => ?_)
  · have h := h.1 c2
    refine lv_iconst (v := (-1 : Int32)) hx hb dX8_turnRound_14 (by decide) ?_
    exact W.iret hx hb hr (fun t ht hW => ⟨⟨(-1 : Int32), S, rfl, h, hO.q ht⟩, hO.f ht⟩) hO.lc dX8_turnRound_15
  · have h := h.2 c2
    refine lv_iload_n hx hb dX8_turnRound_7 rfl (lv_at hl 2 rfl) ?_
    refine cS_si (As := [.int v2]) (rest := []) (n := 1) CF hZ (c_X8_isDraft l v2 _ h) (va_cwS 1 hts gX8_turnRound_X8_isDraft rfl rfl rfl hdS_X8_isDraft ⟨Nat.le_of_ble_eq_true rfl, Nat.le_of_ble_eq_true rfl⟩) rfl hl.1 rfl (Nat.le_of_ble_eq_true rfl) dX8_turnRound_8 ⟨Nat.le_of_ble_eq_true rfl, Nat.le_of_ble_eq_true rfl⟩ (fun i3 h => ?_)
    refine lv_if_ne (tgt := 16) hx hb dX8_turnRound_11 (by decide) (fun c4 => ?_) (fun c4 => ?_)
    · have h := h.2 c4
      refine lv_aload_n hx hb dX8_turnRound_16 rfl (lv_at hl 0 rfl) ?_
      refine lv_iconst (v := (nI 0)) hx hb dX8_turnRound_17 (by decide) ?_
      obtain ⟨fs5, e6, e6', h⟩ := h
      refine r_put C hO 6 9 rfl inX8 tyX8_ok nmX8 (Nat.le_of_ble_eq_true rfl) rfl rfl rfl e6 e6' (List.mem_of_getElem? (i := 1) (by decide +kernel)) dX8_turnRound_18 (fun H locs hO => ?_)
      obtain ⟨S7, eS7⟩ : ∃ Sx, Sx = va_up S a0 (.inl (6, fs5.set 9 (.int (nI 0)))) := ⟨_, rfl⟩
      rw [← eS7] at hO
      have h := h S7 eS7
      refine lv_aload_n hx hb dX8_turnRound_21 rfl (lv_at hl 0 rfl) ?_
      refine lv_iload_n hx hb dX8_turnRound_22 rfl (lv_at hl 2 rfl) ?_
      obtain ⟨fs10, e9, h⟩ := h
      refine cV_ri (As := [.int v2]) (rest := []) (n := 1) C hO (fun L => c_X8_lengthOf l D Y L S7 H.size a0 v2 _ h) 6 rfl e9 (cwV 1 hts gX8_turnRound_X8_lengthOf rfl rfl rfl ⟨rfl, hdS_X8_lengthOf⟩ ⟨Nat.le_of_ble_eq_true rfl, Nat.le_of_ble_eq_true rfl⟩) rfl hl.1 rfl (Nat.le_of_ble_eq_true rfl) dX8_turnRound_23 ⟨Nat.le_of_ble_eq_true rfl, Nat.le_of_ble_eq_true rfl⟩ (fun i8 h => ?_)
      refine lv_iconst (v := (nI 1)) hx hb dX8_turnRound_26 (by decide) ?_
      refine lv_isub hx hb dX8_turnRound_27 ?_
      refine lv_topi (fun i11 ei11 => ?_)
      have h := h i11 ei11
      refine lv_istore_n (lv' := [(3, .int i11), (0, .ref a0), (1, .int v1), (2, .int v2)]) hx hb dX8_turnRound_28 rfl hl (by decide) rfl (fun ls hl => ?_)
      obtain ⟨n39, h⟩ := h
      refine lp_W (nL := 4) (fun q => [(3, .int q.1), (0, .ref a0), (1, .int v1), (2, .int v2)]) (fun q => q.2) h (lv_sub hl [0, 1, 2, 3] rfl) hO (fun K29 ih29 q ls H locs h hl hO => ?_)
      obtain ⟨i12, S13⟩ := q
      have h : wpb_X8_turnRound_29 a0 v1 v2 Post K29 i12 S13 := h
      have hl : lv_has ls 4 [(3, .int i12), (0, .ref a0), (1, .int v1), (2, .int v2)] := hl
      have hO : HO D Y (fR L s.heap.size) s.heap S13 H locs := hO
      unfold wpb_X8_turnRound_29 at h
      refine lv_iload_n hx hb dX8_turnRound_29 rfl (lv_at hl 0 rfl) ?_
      refine lv_if_lt (tgt := 70) hx hb dX8_turnRound_30 (by decide) (fun c14 => ?_) (fun c14 => ?_)
      · have h := h.1 c14
        refine lv_aload_n hx hb dX8_turnRound_70 rfl (lv_at hl 1 rfl) ?_
        refine lv_iload_n hx hb dX8_turnRound_71 rfl (lv_at hl 2 rfl) ?_
        obtain ⟨fs18, e17, h⟩ := h
        refine cV_wi (As := [.int v1]) (rest := []) (n := 1) C hO (fun L => c_X8_make l D Y L S13 H.size a0 v1 _ h) 6 rfl e17 (cwV 1 hts gX8_turnRound_X8_make rfl rfl rfl ⟨rfl, hdS_X8_make⟩ ⟨Nat.le_of_ble_eq_true rfl, Nat.le_of_ble_eq_true rfl⟩) rfl hl.1 rfl (Nat.le_of_ble_eq_true rfl) dX8_turnRound_72 ⟨Nat.le_of_ble_eq_true rfl, Nat.le_of_ble_eq_true rfl⟩ (fun i15 S16 H locs h hO => ?_)
        exact W.iret hx hb hr (fun t ht hW => ⟨⟨i15, S16, rfl, h, hO.q ht⟩, hO.f ht⟩) hO.lc dX8_turnRound_75
      · have h := h.2 c14
        refine lv_aload_n hx hb dX8_turnRound_33 rfl (lv_at hl 1 rfl) ?_
        obtain ⟨fs19, a20, e21, e21', h⟩ := h
        refine r_get C hO 6 8 rfl inX8 (Nat.le_of_ble_eq_true rfl) e21 e21' (List.mem_of_getElem? (i := 2) (by decide +kernel)) dX8_turnRound_34 ?_
        refine lv_aload_n hx hb dX8_turnRound_37 rfl (lv_at hl 1 rfl) ?_
        obtain ⟨fs22, i23, e24, e24', h⟩ := h
        refine r_get C hO 6 9 rfl inX8 (Nat.le_of_ble_eq_true rfl) e24 e24' (List.mem_of_getElem? (i := 1) (by decide +kernel)) dX8_turnRound_38 ?_
        refine lv_aload_n hx hb dX8_turnRound_41 rfl (lv_at hl 1 rfl) ?_
        refine lv_iload_n hx hb dX8_turnRound_42 rfl (lv_at hl 3 rfl) ?_
        refine lv_iload_n hx hb dX8_turnRound_43 rfl (lv_at hl 0 rfl) ?_
        obtain ⟨fs27, e26, h⟩ := h
        refine cV_ri (As := [.int v2, .int i12]) (rest := [.int i23, .ref a20]) (n := 2) C hO (fun L => c_X8_pressOf l D Y L S13 H.size a0 v2 i12 _ h) 6 rfl e26 (cwV 2 hts gX8_turnRound_X8_pressOf rfl rfl rfl ⟨rfl, hdS_X8_pressOf⟩ ⟨Nat.le_of_ble_eq_true rfl, Nat.le_of_ble_eq_true rfl⟩) rfl hl.1 rfl (Nat.le_of_ble_eq_true rfl) dX8_turnRound_44 ⟨Nat.le_of_ble_eq_true rfl, Nat.le_of_ble_eq_true rfl⟩ (fun i25 h => ?_)
        refine lv_bipush (v := (nI 6)) hx hb dX8_turnRound_47 (by decide) ?_
        refine lv_iadd hx hb dX8_turnRound_49 ?_
        refine lv_bipush (v := (nI 12)) hx hb dX8_turnRound_50 (by decide) ?_
        refine lv_irem hx hb dX8_turnRound_52 (by decide) ?_
        obtain ⟨n28, f29, e30, e30', h⟩ := h
        refine r_iast C hO e30 e30' dX8_turnRound_53 (fun H locs hO => ?_)
        obtain ⟨S31, eS31⟩ : ∃ Sx, Sx = va_up S13 a20 (aI n28 (upd f29 (i23).toNatClampNeg ((i25 + (nI 6)) - (i25 + (nI 6)) / (nI 12) * (nI 12)))) := ⟨_, rfl⟩
        rw [← eS31] at hO
        have h := h S31 eS31
        refine lv_aload_n hx hb dX8_turnRound_54 rfl (lv_at hl 1 rfl) ?_
        refine lv_dup hx hb dX8_turnRound_55 rfl ?_
        obtain ⟨fs32, i33, e34, e34', h⟩ := h
        refine r_get C hO 6 9 rfl inX8 (Nat.le_of_ble_eq_true rfl) e34 e34' (List.mem_of_getElem? (i := 1) (by decide +kernel)) dX8_turnRound_56 ?_
        refine lv_iconst (v := (nI 1)) hx hb dX8_turnRound_59 (by decide) ?_
        refine lv_iadd hx hb dX8_turnRound_60 ?_
        obtain ⟨fs35, e36, e36', h⟩ := h
        refine r_put C hO 6 9 rfl inX8 tyX8_ok nmX8 (Nat.le_of_ble_eq_true rfl) rfl rfl rfl e36 e36' (List.mem_of_getElem? (i := 1) (by decide +kernel)) dX8_turnRound_61 (fun H locs hO => ?_)
        obtain ⟨S37, eS37⟩ : ∃ Sx, Sx = va_up S31 a0 (.inl (6, fs35.set 9 (.int (i33 + (nI 1))))) := ⟨_, rfl⟩
        rw [← eS37] at hO
        have h := h S37 eS37
        obtain ⟨i38, ei38⟩ : ∃ y : Int32, y = i12 + (-1 : Int32) := ⟨_, rfl⟩
        have h := h i38 ei38
        refine lv_iinc (v := i38) (lv' := [(3, .int i38), (0, .ref a0), (1, .int v1), (2, .int v2)]) hx hb dX8_turnRound_64 hl (k := 0) rfl (by rw [ei38]; rfl) (by decide) rfl (fun ls hl => ?_)
        refine lv_goto (tgt := 29) hx hb dX8_turnRound_67 (by decide) ?_
        exact ih29 (i38, S37) _ _ _ h (lv_sub hl [0, 1, 2, 3] rfl) hO
    · have h := h.1 c4
      refine lv_iconst (v := (-1 : Int32)) hx hb dX8_turnRound_14 (by decide) ?_
      exact W.iret hx hb hr (fun t ht hW => ⟨⟨(-1 : Int32), S, rfl, h, hO.q ht⟩, hO.f ht⟩) hO.lc dX8_turnRound_15
theorem hdS_X8_repeat : yX8_repeat.cls ≠ "java/lang/invoke/MethodHandle" ∧ yX8_repeat.cls ≠ "java/lang/invoke/VarHandle" ∧ (parseMethodDescriptor yX8_repeat.desc).map (fun d => d.parameters.length) = some 3 := by decide +kernel
set_option maxHeartbeats 4000000 in
set_option maxRecDepth 100000 in
theorem c_X8_repeat (l : Launch) (D : va_G) (Y : Nat → ClassId) (L : List Nat) (S : PS) (sz : Nat) (a0 : Nat) (v1 : Int32) (v2 : Int32) (v3 : Int32) (Post : Int32 → PS → Prop) (h : wp_X8_repeat S a0 v1 v2 v3 Post) : Met l yX8_repeat wsX8_repeat ({ frames := 2, cells := 0, slots := 0, locals := 44 }) (va_Pc [.ref a0, .int v1, .int v2, .int v3] (PrO D Y L S sz)) (va_Qi Post (QtO D Y (fR L sz)) (fR L sz)) 0 0 (fR L sz) := by
  refine Met.ofW (cc := cX8_repeat) (maxL := 5) (ret := (some .int)) (by decide) rfl ?_
  intro p e s m args below meth c s₁ B hml hv
  obtain ⟨rfl, hsz, hJ, hP, hK, hD0, hZ⟩ := hv
  have hx := B.exec
  have hb := B.bytes
  have hr := B.returns
  have hts := atoms_spec (ws := wsX8_repeat) B.pre
  have hown : s.vm.findClass RX8 = some m.cls := findClass_of_methodNamed B.named
  have hlocks := B.notSynchronized
  have CF : CallFix p m c cX8_repeat 5 s ([.ref a0, .int v1, .int v2, .int v3] : List Value).toArray wsX8_repeat RX8 := ⟨hx, hb, hml, hown, hts⟩
  have C : CX p m c cX8_repeat 5 s ([.ref a0, .int v1, .int v2, .int v3] : List Value).toArray wsX8_repeat RX8 D Y := ⟨CF, hK, hZ⟩
  have hO : HO D Y (fR L sz) s.heap S s.heap [] := HO.entry hsz hJ hP hD0
  subst hsz
  have inX8 : ∀ w ∈ wsX80, w ∈ wsX8_repeat := fun w h => List.mem_cons_of_mem _ (List.mem_append_right _ h)
  have hl := lv_entry ([.ref a0, .int v1, .int v2, .int v3]) (n := 5) (Nat.le_of_ble_eq_true rfl)
  rw [lg_entry_eq]
  generalize (lg_sl ([.ref a0, .int v1, .int v2, .int v3]) ++ List.replicate (5 - (lg_sl ([.ref a0, .int v1, .int v2, .int v3])).length) Slot.unset).toArray = ls at hl ⊢
  have hl : lv_has ls 5 [(0, .ref a0), (1, .int v1), (2, .int v2), (3, .int v3)] := hl
  unfold wp_X8_repeat at h
  refine lv_iload_n hx hb dX8_repeat_0 rfl (lv_at hl 1 rfl) ?_
  refine cS_si (As := [.int v1]) (rest := []) (n := 1) CF hZ (c_X8_isDraft l v1 _ h) (va_cwS 1 hts gX8_repeat_X8_isDraft rfl rfl rfl hdS_X8_isDraft ⟨Nat.le_of_ble_eq_true rfl, Nat.le_of_ble_eq_true rfl⟩) rfl hl.1 rfl (Nat.le_of_ble_eq_true rfl) dX8_repeat_1 ⟨Nat.le_of_ble_eq_true rfl, Nat.le_of_ble_eq_true rfl⟩ (fun i1 h => ?_)
  refine lv_if_eq (tgt := 14) hx hb dX8_repeat_4 (by decide) (fun c2 => ?_) (fun c2 => ?_)
  · have h := h.1 c2
    refine lv_iconst (v := (-1 : Int32)) hx hb dX8_repeat_14 (by decide) ?_
    exact W.iret hx hb hr (fun t ht hW => ⟨⟨(-1 : Int32), S, rfl, h, hO.q ht⟩, hO.f ht⟩) hO.lc dX8_repeat_15
  · have h := h.2 c2
    refine lv_iload_n hx hb dX8_repeat_7 rfl (lv_at hl 2 rfl) ?_
    refine cS_si (As := [.int v2]) (rest := []) (n := 1) CF hZ (c_X8_isDraft l v2 _ h) (va_cwS 1 hts gX8_repeat_X8_isDraft rfl rfl rfl hdS_X8_isDraft ⟨Nat.le_of_ble_eq_true rfl, Nat.le_of_ble_eq_true rfl⟩) rfl hl.1 rfl (Nat.le_of_ble_eq_true rfl) dX8_repeat_8 ⟨Nat.le_of_ble_eq_true rfl, Nat.le_of_ble_eq_true rfl⟩ (fun i3 h => ?_)
    refine lv_if_ne (tgt := 16) hx hb dX8_repeat_11 (by decide) (fun c4 => ?_) (fun c4 => ?_)
    · have h := h.2 c4
      refine lv_iload_n hx hb dX8_repeat_16 rfl (lv_at hl 3 rfl) ?_
      refine lv_iconst (v := (nI 0)) hx hb dX8_repeat_17 (by decide) ?_
      refine lv_bipush (v := (nI 24)) hx hb dX8_repeat_18 (by decide) ?_
      refine cS_si (As := [.int v3, .int (nI 0), .int (nI 24)]) (rest := []) (n := 3) CF hZ (c_X8_within l v3 (nI 0) (nI 24) _ h) (va_cwS 3 hts gX8_repeat_X8_within rfl rfl rfl hdS_X8_within ⟨Nat.le_of_ble_eq_true rfl, Nat.le_of_ble_eq_true rfl⟩) rfl hl.1 rfl (Nat.le_of_ble_eq_true rfl) dX8_repeat_20 ⟨Nat.le_of_ble_eq_true rfl, Nat.le_of_ble_eq_true rfl⟩ (fun i5 h => ?_)
      refine lv_if_ne (tgt := 29) hx hb dX8_repeat_23 (by decide) (fun c6 => ?_) (fun c6 => ?_)
      · have h := h.2 c6
        refine lv_iload_n hx hb dX8_repeat_29 rfl (lv_at hl 3 rfl) ?_
        refine lv_aload_n hx hb dX8_repeat_30 rfl (lv_at hl 0 rfl) ?_
        refine lv_iload_n hx hb dX8_repeat_31 rfl (lv_at hl 2 rfl) ?_
        obtain ⟨fs9, e8, h⟩ := h
        refine cV_ri (As := [.int v2]) (rest := [.int v3]) (n := 1) C hO (fun L => c_X8_lengthOf l D Y L S s.heap.size a0 v2 _ h) 6 rfl e8 (cwV 1 hts gX8_repeat_X8_lengthOf rfl rfl rfl ⟨rfl, hdS_X8_lengthOf⟩ ⟨Nat.le_of_ble_eq_true rfl, Nat.le_of_ble_eq_true rfl⟩) rfl hl.1 rfl (Nat.le_of_ble_eq_true rfl) dX8_repeat_32 ⟨Nat.le_of_ble_eq_true rfl, Nat.le_of_ble_eq_true rfl⟩ (fun i7 h => ?_)
        refine lv_imul hx hb dX8_repeat_35 ?_
        refine lv_bipush (v := (nI 24)) hx hb dX8_repeat_36 (by decide) ?_
        refine lv_icmp_le (tgt := 44) hx hb dX8_repeat_38 (by decide) (fun c10 => ?_) (fun c10 => ?_)
        · have h := h.1 c10
          refine lv_aload_n hx hb dX8_repeat_44 rfl (lv_at hl 0 rfl) ?_
          refine lv_iconst (v := (nI 0)) hx hb dX8_repeat_45 (by decide) ?_
          obtain ⟨fs11, e12, e12', h⟩ := h
          refine r_put C hO 6 9 rfl inX8 tyX8_ok nmX8 (Nat.le_of_ble_eq_true rfl) rfl rfl rfl e12 e12' (List.mem_of_getElem? (i := 1) (by decide +kernel)) dX8_repeat_46 (fun H locs hO => ?_)
          obtain ⟨S13, eS13⟩ : ∃ Sx, Sx = va_up S a0 (.inl (6, fs11.set 9 (.int (nI 0)))) := ⟨_, rfl⟩
          rw [← eS13] at hO
          have h := h S13 eS13
          refine lv_iconst (v := (nI 0)) hx hb dX8_repeat_49 (by decide) ?_
          refine lv_istore (lv' := [(4, .int (nI 0)), (0, .ref a0), (1, .int v1), (2, .int v2), (3, .int v3)]) hx hb dX8_repeat_50 hl (by decide) rfl (fun ls hl => ?_)
          obtain ⟨n25, h⟩ := h
          refine lp_W (nL := 5) (fun q => [(4, .int q.1), (0, .ref a0), (1, .int v1), (2, .int v2), (3, .int v3)]) (fun q => q.2) h (lv_sub hl [0, 1, 2, 3, 4] rfl) hO (fun K52 ih52 q ls H locs h hl hO => ?_)
          obtain ⟨i14, S15⟩ := q
          have h : wpb_X8_repeat_52 a0 v1 v2 v3 Post K52 i14 S15 := h
          have hl : lv_has ls 5 [(4, .int i14), (0, .ref a0), (1, .int v1), (2, .int v2), (3, .int v3)] := hl
          have hO : HO D Y (fR L s.heap.size) s.heap S15 H locs := hO
          unfold wpb_X8_repeat_52 at h
          refine lv_iload hx hb dX8_repeat_52 (lv_at hl 0 rfl) ?_
          refine lv_iload_n hx hb dX8_repeat_54 rfl (lv_at hl 4 rfl) ?_
          refine lv_icmp_ge (tgt := 69) hx hb dX8_repeat_55 (by decide) (fun c16 => ?_) (fun c16 => ?_)
          · have h := h.1 c16
            refine lv_aload_n hx hb dX8_repeat_69 rfl (lv_at hl 1 rfl) ?_
            refine lv_iload_n hx hb dX8_repeat_70 rfl (lv_at hl 2 rfl) ?_
            obtain ⟨fs20, e19, h⟩ := h
            refine cV_wi (As := [.int v1]) (rest := []) (n := 1) C hO (fun L => c_X8_make l D Y L S15 H.size a0 v1 _ h) 6 rfl e19 (cwV 1 hts gX8_repeat_X8_make rfl rfl rfl ⟨rfl, hdS_X8_make⟩ ⟨Nat.le_of_ble_eq_true rfl, Nat.le_of_ble_eq_true rfl⟩) rfl hl.1 rfl (Nat.le_of_ble_eq_true rfl) dX8_repeat_71 ⟨Nat.le_of_ble_eq_true rfl, Nat.le_of_ble_eq_true rfl⟩ (fun i17 S18 H locs h hO => ?_)
            exact W.iret hx hb hr (fun t ht hW => ⟨⟨i17, S18, rfl, h, hO.q ht⟩, hO.f ht⟩) hO.lc dX8_repeat_74
          · have h := h.2 c16
            refine lv_aload_n hx hb dX8_repeat_58 rfl (lv_at hl 1 rfl) ?_
            refine lv_iload_n hx hb dX8_repeat_59 rfl (lv_at hl 3 rfl) ?_
            obtain ⟨fs23, e22, h⟩ := h
            refine cV_wv (As := [.int v2]) (rest := []) (n := 1) C hO (fun L => c_X8_addRow l D Y L S15 H.size a0 v2 _ h) 6 rfl e22 (cwV 1 hts gX8_repeat_X8_addRow rfl rfl rfl ⟨rfl, hdS_X8_addRow⟩ ⟨Nat.le_of_ble_eq_true rfl, Nat.le_of_ble_eq_true rfl⟩) rfl hl.1 rfl (Nat.le_of_ble_eq_true rfl) dX8_repeat_60 ⟨Nat.le_of_ble_eq_true rfl, Nat.le_of_ble_eq_true rfl⟩ (fun S21 H locs h hO => ?_)
            obtain ⟨i24, ei24⟩ : ∃ y : Int32, y = i14 + (nI 1) := ⟨_, rfl⟩
            have h := h i24 ei24
            refine lv_iinc (v := i24) (lv' := [(4, .int i24), (0, .ref a0), (1, .int v1), (2, .int v2), (3, .int v3)]) hx hb dX8_repeat_63 hl (k := 0) rfl (by rw [ei24]; rfl) (by decide) rfl (fun ls hl => ?_)
            refine lv_goto (tgt := 52) hx hb dX8_repeat_66 (by decide) ?_
            exact ih52 (i24, S21) _ _ _ h (lv_sub hl [0, 1, 2, 3, 4] rfl) hO
        · have h := h.2 c10
          refine lv_bipush (v := (-4 : Int32)) hx hb dX8_repeat_41 (by decide) ?_
          exact W.iret hx hb hr (fun t ht hW => ⟨⟨(-4 : Int32), S, rfl, h, hO.q ht⟩, hO.f ht⟩) hO.lc dX8_repeat_43
      · have h := h.1 c6
        refine lv_bipush (v := (-2 : Int32)) hx hb dX8_repeat_26 (by decide) ?_
        exact W.iret hx hb hr (fun t ht hW => ⟨⟨(-2 : Int32), S, rfl, h, hO.q ht⟩, hO.f ht⟩) hO.lc dX8_repeat_28
    · have h := h.1 c4
      refine lv_iconst (v := (-1 : Int32)) hx hb dX8_repeat_14 (by decide) ?_
      exact W.iret hx hb hr (fun t ht hW => ⟨⟨(-1 : Int32), S, rfl, h, hO.q ht⟩, hO.f ht⟩) hO.lc dX8_repeat_15
