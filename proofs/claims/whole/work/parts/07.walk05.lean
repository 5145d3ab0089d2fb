theorem hdS_X7_fault : yX7_fault.cls ≠ "java/lang/invoke/MethodHandle" ∧ yX7_fault.cls ≠ "java/lang/invoke/VarHandle" ∧ (parseMethodDescriptor yX7_fault.desc).map (fun d => d.parameters.length) = some 0 := by decide +kernel
set_option maxHeartbeats 4000000 in
set_option maxRecDepth 100000 in
theorem c_X7_fault (l : Launch) (D : va_G) (Y : Nat → ClassId) (L : List Nat) (S : PS) (sz : Nat) (a0 : Nat) (Post : Int32 → PS → Prop) (h : wp_X7_fault S a0 Post) : Met l yX7_fault wsX7_fault ({ frames := 3, cells := 0, slots := 0, locals := 70 }) (va_Pc [.ref a0] (PrO D Y L S sz)) (va_Qi Post (QtO D Y (fR L sz)) (fR L sz)) 0 0 (fR L sz) := by
  refine Met.ofW (cc := cX7_fault) (maxL := 1) (ret := (some .int)) (by decide) rfl ?_
  intro p e s m args below meth c s₁ B hml hv
  obtain ⟨rfl, hsz, hJ, hP, hK, hD0, hZ⟩ := hv
  have hx := B.exec
  have hb := B.bytes
  have hr := B.returns
  have hts := atoms_spec (ws := wsX7_fault) B.pre
  have hown : s.vm.findClass RX7 = some m.cls := findClass_of_methodNamed B.named
  have hlocks := B.notSynchronized
  have CF : CallFix p m c cX7_fault 1 s ([.ref a0] : List Value).toArray wsX7_fault RX7 := ⟨hx, hb, hml, hown, hts⟩
  have C : CX p m c cX7_fault 1 s ([.ref a0] : List Value).toArray wsX7_fault RX7 D Y := ⟨CF, hK, hZ⟩
  have hO : HO D Y (fR L sz) s.heap S s.heap [] := HO.entry hsz hJ hP hD0
  subst hsz
  have inX7 : ∀ w ∈ wsX70, w ∈ wsX7_fault := fun w h => List.mem_cons_of_mem _ (List.mem_append_left _ (List.mem_append_left _ (List.mem_append_right _ h)))
  have hl := lv_entry ([.ref a0]) (n := 1) (Nat.le_of_ble_eq_true rfl)
  rw [lg_entry_eq]
  generalize (lg_sl ([.ref a0]) ++ List.replicate (1 - (lg_sl ([.ref a0])).length) Slot.unset).toArray = ls at hl ⊢
  have hl : lv_has ls 1 [(0, .ref a0)] := hl
  unfold wp_X7_fault at h
  refine lv_aload_n hx hb dX7_fault_0 rfl (lv_at hl 0 rfl) ?_
  obtain ⟨fs1, a2, e3, e3', h⟩ := h
  refine r_get C hO 5 3 rfl inX7 (Nat.le_of_ble_eq_true rfl) e3 e3' (List.mem_of_getElem? (i := 1) (by decide +kernel)) dX7_fault_1 ?_
  refine lv_aload_n hx hb dX7_fault_4 rfl (lv_at hl 0 rfl) ?_
  obtain ⟨fs4, a5, e6, e6', h⟩ := h
  refine r_get C hO 5 5 rfl inX7 (Nat.le_of_ble_eq_true rfl) e6 e6' (List.mem_of_getElem? (i := 2) (by decide +kernel)) dX7_fault_5 ?_
  obtain ⟨fs10, e9, h⟩ := h
  refine cV_wi (As := [.ref a5]) (rest := []) (n := 1) C hO (fun L => c_X2_layOut l D Y L S s.heap.size a2 a5 _ h) 2 rfl e9 (cwV 1 hts gX7_fault_X2_layOut rfl rfl rfl ⟨rfl, hdS_X2_layOut⟩ ⟨Nat.le_of_ble_eq_true rfl, Nat.le_of_ble_eq_true rfl⟩) rfl hl.1 rfl (Nat.le_of_ble_eq_true rfl) dX7_fault_8 ⟨Nat.le_of_ble_eq_true rfl, Nat.le_of_ble_eq_true rfl⟩ (fun i7 S8 H locs h hO => ?_)
  exact W.iret hx hb hr (fun t ht hW => ⟨⟨i7, S8, rfl, h, hO.q ht⟩, hO.f ht⟩) hO.lc dX7_fault_11
theorem hdS_X7_undo : yX7_undo.cls ≠ "java/lang/invoke/MethodHandle" ∧ yX7_undo.cls ≠ "java/lang/invoke/VarHandle" ∧ (parseMethodDescriptor yX7_undo.desc).map (fun d => d.parameters.length) = some 0 := by decide +kernel
set_option maxHeartbeats 4000000 in
set_option maxRecDepth 100000 in
theorem c_X7_undo (l : Launch) (D : va_G) (Y : Nat → ClassId) (L : List Nat) (S : PS) (sz : Nat) (a0 : Nat) (Post : Int32 → PS → Prop) (h : wp_X7_undo S a0 Post) : Met l yX7_undo wsX7_undo ({ frames := 4, cells := 0, slots := 0, locals := 85 }) (va_Pc [.ref a0] (PrO D Y L S sz)) (va_Qi Post (QtO D Y (fR L sz)) (fR L sz)) 0 0 (fR L sz) := by
  refine Met.ofW (cc := cX7_undo) (maxL := 1) (ret := (some .int)) (by decide) rfl ?_
  intro p e s m args below meth c s₁ B hml hv
  obtain ⟨rfl, hsz, hJ, hP, hK, hD0, hZ⟩ := hv
  have hx := B.exec
  have hb := B.bytes
  have hr := B.returns
  have hts := atoms_spec (ws := wsX7_undo) B.pre
  have hown : s.vm.findClass RX7 = some m.cls := findClass_of_methodNamed B.named
  have hlocks := B.notSynchronized
  have CF : CallFix p m c cX7_undo 1 s ([.ref a0] : List Value).toArray wsX7_undo RX7 := ⟨hx, hb, hml, hown, hts⟩
  have C : CX p m c cX7_undo 1 s ([.ref a0] : List Value).toArray wsX7_undo RX7 D Y := ⟨CF, hK, hZ⟩
  have hO : HO D Y (fR L sz) s.heap S s.heap [] := HO.entry hsz hJ hP hD0
  subst hsz
  have inX3 : ∀ w ∈ wsX30, w ∈ wsX7_undo := fun w h => List.mem_cons_of_mem _ (List.mem_append_left _ (List.mem_append_left _ (List.mem_append_right _ h)))
  have inX7 : ∀ w ∈ wsX70, w ∈ wsX7_undo := fun w h => List.mem_cons_of_mem _ (List.mem_append_left _ (List.mem_append_left _ (List.mem_append_left _ (List.mem_append_right _ h))))
  have hl := lv_entry ([.ref a0]) (n := 1) (Nat.le_of_ble_eq_true rfl)
  rw [lg_entry_eq]
  generalize (lg_sl ([.ref a0]) ++ List.replicate (1 - (lg_sl ([.ref a0])).length) Slot.unset).toArray = ls at hl ⊢
  have hl : lv_has ls 1 [(0, .ref a0)] := hl
  unfold wp_X7_undo at h
  refine lv_aload_n hx hb dX7_undo_0 rfl (lv_at hl 0 rfl) ?_
  obtain ⟨fs1, a2, e3, e3', h⟩ := h
  refine r_get C hO 5 1 rfl inX7 (Nat.le_of_ble_eq_true rfl) e3 e3' (List.mem_of_getElem? (i := 1) (by decide +kernel)) dX7_undo_1 ?_
  obtain ⟨fs4, i5, e6, e6', h⟩ := h
  refine r_get C hO 3 1 rfl inX3 (Nat.le_of_ble_eq_true rfl) e6 e6' (List.mem_of_getElem? (i := 2) (by decide +kernel)) dX7_undo_4 ?_
  refine lv_if_ne (tgt := 13) hx hb dX7_undo_7 (by decide) (fun c7 => ?_) (fun c7 => ?_)
  · have h := h.2 c7
    refine lv_aload_n hx hb dX7_undo_13 rfl (lv_at hl 0 rfl) ?_
    obtain ⟨fs8, a9, e10, e10', h⟩ := h
    refine r_get C hO 5 1 rfl inX7 (Nat.le_of_ble_eq_true rfl) e10 e10' (List.mem_of_getElem? (i := 1) (by decide +kernel)) dX7_undo_14 ?_
    refine lv_aload_n hx hb dX7_undo_17 rfl (lv_at hl 0 rfl) ?_
    obtain ⟨fs11, a12, e13, e13', h⟩ := h
    refine r_get C hO 5 0 rfl inX7 (Nat.le_of_ble_eq_true rfl) e13 e13' (List.mem_of_getElem? (i := 3) (by decide +kernel)) dX7_undo_18 ?_
    obtain ⟨fs16, e15, h⟩ := h
    refine cV_wv (As := [.ref a12]) (rest := []) (n := 1) C hO (fun L => c_X3_giveBack l D Y L S s.heap.size a9 a12 _ h) 3 rfl e15 (cwV 1 hts gX7_undo_X3_giveBack rfl rfl rfl ⟨rfl, hdS_X3_giveBack⟩ ⟨Nat.le_of_ble_eq_true rfl, Nat.le_of_ble_eq_true rfl⟩) rfl hl.1 rfl (Nat.le_of_ble_eq_true rfl) dX7_undo_21 ⟨Nat.le_of_ble_eq_true rfl, Nat.le_of_ble_eq_true rfl⟩ (fun S14 H locs h hO => ?_)
    refine lv_aload_n hx hb dX7_undo_24 rfl (lv_at hl 0 rfl) ?_
    obtain ⟨fs17, a18, e19, e19', h⟩ := h
    refine r_get C hO 5 1 rfl inX7 (Nat.le_of_ble_eq_true rfl) e19 e19' (List.mem_of_getElem? (i := 1) (by decide +kernel)) dX7_undo_25 ?_
    obtain ⟨fs20, i21, e22, e22', h⟩ := h
    refine r_get C hO 3 1 rfl inX3 (Nat.le_of_ble_eq_true rfl) e22 e22' (List.mem_of_getElem? (i := 2) (by decide +kernel)) dX7_undo_28 ?_
    exact W.iret hx hb hr (fun t ht hW => ⟨⟨i21, S14, rfl, h, hO.q ht⟩, hO.f ht⟩) hO.lc dX7_undo_31
  · have h := h.1 c7
    refine lv_bipush (v := (-5 : Int32)) hx hb dX7_undo_10 (by decide) ?_
    exact W.iret hx hb hr (fun t ht hW => ⟨⟨(-5 : Int32), S, rfl, h, hO.q ht⟩, hO.f ht⟩) hO.lc dX7_undo_12
theorem hdS_X7_save : yX7_save.cls ≠ "java/lang/invoke/MethodHandle" ∧ yX7_save.cls ≠ "java/lang/invoke/VarHandle" ∧ (parseMethodDescriptor yX7_save.desc).map (fun d => d.parameters.length) = some 1 := by decide +kernel
set_option maxHeartbeats 4000000 in
set_option maxRecDepth 100000 in
theorem c_X7_save (l : Launch) (D : va_G) (Y : Nat → ClassId) (L : List Nat) (S : PS) (sz : Nat) (a0 : Nat) (v1 : Int32) (Post : Int32 → PS → Prop) (h : wp_X7_save S a0 v1 Post) : Met l yX7_save wsX7_save ({ frames := 3, cells := 15, slots := 175, locals := 68 }) (va_Pc [.ref a0, .int v1] (PrO D Y L S sz)) (va_Qi Post (QtO D Y (fR L sz)) (fR L sz)) 15 175 (fR L sz) := by
  refine Met.ofW (cc := cX7_save) (maxL := 3) (ret := (some .int)) (by decide) rfl ?_
  intro p e s m args below meth c s₁ B hml hv
  obtain ⟨rfl, hsz, hJ, hP, hK, hD0, hZ⟩ := hv
  have hx := B.exec
  have hb := B.bytes
  have hr := B.returns
  have hts := atoms_spec (ws := wsX7_save) B.pre
  have hown : s.vm.findClass RX7 = some m.cls := findClass_of_methodNamed B.named
  have hlocks := B.notSynchronized
  have CF : CallFix p m c cX7_save 3 s ([.ref a0, .int v1] : List Value).toArray wsX7_save RX7 := ⟨hx, hb, hml, hown, hts⟩
  have C : CX p m c cX7_save 3 s ([.ref a0, .int v1] : List Value).toArray wsX7_save RX7 D Y := ⟨CF, hK, hZ⟩
  have hO : HO D Y (fR L sz) s.heap S s.heap [] := HO.entry hsz hJ hP hD0
  subst hsz
  have inX1 : ∀ w ∈ wsX10, w ∈ wsX7_save := fun w h => List.mem_cons_of_mem _ (List.mem_append_left _ (List.mem_append_right _ h))
  have inX7 : ∀ w ∈ wsX70, w ∈ wsX7_save := fun w h => List.mem_cons_of_mem _ (List.mem_append_left _ (List.mem_append_left _ (List.mem_append_right _ h)))
  have hl := lv_entry ([.ref a0, .int v1]) (n := 3) (Nat.le_of_ble_eq_true rfl)
  rw [lg_entry_eq]
  generalize (lg_sl ([.ref a0, .int v1]) ++ List.replicate (3 - (lg_sl ([.ref a0, .int v1])).length) Slot.unset).toArray = ls at hl ⊢
  have hl : lv_has ls 3 [(0, .ref a0), (1, .int v1)] := hl
  unfold wp_X7_save at h
  refine lv_iload_n hx hb dX7_save_0 rfl (lv_at hl 1 rfl) ?_
  refine lv_iconst (v := (nI 2)) hx hb dX7_save_1 (by decide) ?_
  refine cS_si (As := [.int v1, .int (nI 2)]) (rest := []) (n := 2) CF hZ (c_X7_isBelow l v1 (nI 2) _ h) (va_cwS 2 hts gX7_save_X7_isBelow rfl rfl rfl hdS_X7_isBelow ⟨Nat.le_of_ble_eq_true rfl, Nat.le_of_ble_eq_true rfl⟩) rfl hl.1 rfl (Nat.le_of_ble_eq_true rfl) dX7_save_2 ⟨Nat.le_of_ble_eq_true rfl, Nat.le_of_ble_eq_true rfl⟩ (fun i1 h => ?_)
  refine lv_if_ne (tgt := 11) hx hb dX7_save_5 (by decide) (fun c2 => ?_) (fun c2 => ?_)
  · have h := h.2 c2
    refine lv_aload_n hx hb dX7_save_11 rfl (lv_at hl 0 rfl) ?_
    obtain ⟨fs3, a4, e5, e5', h⟩ := h
    refine r_get C hO 5 2 rfl inX7 (Nat.le_of_ble_eq_true rfl) e5 e5' (List.mem_of_getElem? (i := 1) (by decide +kernel)) dX7_save_12 ?_
    refine lv_iload_n hx hb dX7_save_15 rfl (lv_at hl 1 rfl) ?_
    obtain ⟨n6, f7, e8, e8', h⟩ := h
    rcases hrq : f7 (v1).toNatClampNeg with _ | a9
    · have h := h.1 hrq
      refine r_aaldL C hO e8 e8' (congrArg va_rf hrq) dX7_save_16 ?_
      show W _ _ _ _ _ _ _ _ _ _ _ _ _ _ _ (F0 _ _ _ (.null :: _))
      refine lv_astore_nN (lv' := [(2, .null), (0, .ref a0), (1, .int v1)]) hx hb dX7_save_17 rfl hl (by decide) rfl (fun ls hl => ?_)
      refine lv_aload_nN hx hb dX7_save_18 rfl (lv_at hl 0 rfl) ?_
      refine lv_ifnonnullN hx hb dX7_save_19 ?_
      refine r_new C hO 1 [.long 0, .long 0, .long 0, .null, .null, .int 0, .int 0] rfl inX1 tyX1_ok (fun j hj => by have hj : j < 7 := hj; rcases (show j = 0 ∨ j = 1 ∨ j = 2 ∨ j = 3 ∨ j = 4 ∨ j = 5 ∨ j = 6 by omega) with rfl | rfl | rfl | rfl | rfl | rfl | rfl <;> rfl) (N := 7) rfl (List.mem_of_getElem? (i := 2) (by decide +kernel)) (List.mem_of_getElem? (i := 3) (by decide +kernel)) (List.mem_of_getElem? (i := 4) (by decide +kernel)) (Nat.le_of_ble_eq_true rfl) (Nat.le_of_ble_eq_true rfl) dX7_save_22 (fun a10 H hqa10 hO => ?_)
      obtain ⟨S11, eS11⟩ : ∃ Sx, Sx = va_up S a10 (.inl (1, [.long 0, .long 0, .long 0, .null, .null, .int 0, .int 0])) := ⟨_, rfl⟩
      rw [← eS11] at hO
      have h := h a10 hqa10 S11 eS11
      refine lv_dup hx hb dX7_save_25 rfl ?_
      obtain ⟨e13, h⟩ := h
      refine cI_wv (As := []) (rest := [.ref a10]) (n := 0) C hO (fun L => c_X1_init l D Y L S11 H.size a10 _ h) e13 (cwI 0 hts gX7_save_X1_init rfl rfl rfl (hts _ (List.mem_of_getElem? (i := 4) (by decide +kernel : wsX7_save[4]? = some (Cond.initialized RX1)))) (hts _ (List.mem_of_getElem? (i := 11) (by decide +kernel : wsX7_save[11]? = some (Cond.methodLink RX7 9 yX1_init)))) (hts _ (List.mem_of_getElem? (i := 12) (by decide +kernel : wsX7_save[12]? = some (Cond.instanceMethod yX1_init)))) rfl hdS_X1_init ⟨Nat.le_of_ble_eq_true rfl, Nat.le_of_ble_eq_true rfl⟩) rfl hl.1 rfl (Nat.le_of_ble_eq_true rfl) dX7_save_26 ⟨Nat.le_of_ble_eq_true rfl, Nat.le_of_ble_eq_true rfl⟩ (fun S12 H locs h hO => ?_)
      refine lv_astore_n (lv' := [(2, .ref a10), (0, .ref a0), (1, .int v1)]) hx hb dX7_save_29 rfl hl (by decide) rfl (fun ls hl => ?_)
      refine lv_aload_n hx hb dX7_save_30 rfl (lv_at hl 0 rfl) ?_
      refine lv_aload_n hx hb dX7_save_31 rfl (lv_at hl 1 rfl) ?_
      obtain ⟨fs14, a15, e16, e16', h⟩ := h
      refine r_get C hO 5 0 rfl inX7 (Nat.le_of_ble_eq_true rfl) e16 e16' (List.mem_of_getElem? (i := 5) (by decide +kernel)) dX7_save_32 ?_
      obtain ⟨fs19, e18, h⟩ := h
      refine cV_wv (As := [.ref a15]) (rest := []) (n := 1) C hO (fun L => c_X1_copyFrom l D Y L S12 H.size a10 a15 _ h) 1 rfl e18 (cwV 1 hts gX7_save_X1_copyFrom rfl rfl rfl ⟨rfl, hdS_X1_copyFrom⟩ ⟨Nat.le_of_ble_eq_true rfl, Nat.le_of_ble_eq_true rfl⟩) rfl hl.1 rfl (Nat.le_of_ble_eq_true rfl) dX7_save_35 ⟨Nat.le_of_ble_eq_true rfl, Nat.le_of_ble_eq_true rfl⟩ (fun S17 H locs h hO => ?_)
      refine lv_aload_n hx hb dX7_save_38 rfl (lv_at hl 1 rfl) ?_
      obtain ⟨fs20, a21, e22, e22', h⟩ := h
      refine r_get C hO 5 2 rfl inX7 (Nat.le_of_ble_eq_true rfl) e22 e22' (List.mem_of_getElem? (i := 1) (by decide +kernel)) dX7_save_39 ?_
      refine lv_iload_n hx hb dX7_save_42 rfl (lv_at hl 2 rfl) ?_
      refine lv_aload_n hx hb dX7_save_43 rfl (lv_at hl 0 rfl) ?_
      obtain ⟨n23, f24, vs25, e26, e26', e26v, h⟩ := h
      refine r_aastL C hO e26 e26' e26v dX7_save_44 (fun H locs hO => ?_)
      obtain ⟨S27, eS27⟩ : ∃ Sx, Sx = va_up S17 a21 (aL n23 (va_up f24 (v1).toNatClampNeg (some a10))) := ⟨_, rfl⟩
      rw [← eS27] at hO
      have h := h S27 eS27
      refine lv_aload_n hx hb dX7_save_45 rfl (lv_at hl 1 rfl) ?_
      obtain ⟨fs28, a29, e30, e30', h⟩ := h
      refine r_get C hO 5 0 rfl inX7 (Nat.le_of_ble_eq_true rfl) e30 e30' (List.mem_of_getElem? (i := 5) (by decide +kernel)) dX7_save_46 ?_
      obtain ⟨fs31, j32, e33, e33', h⟩ := h
      refine r_get C hO 1 1 rfl inX1 (Nat.le_of_ble_eq_true rfl) e33 e33' (List.mem_of_getElem? (i := 6) (by decide +kernel)) dX7_save_49 ?_
      refine cS_si (As := [.long j32]) (rest := []) (n := 1) CF hZ (c_X6_staying l j32 _ h) (va_cwS 1 hts gX7_save_X6_staying rfl rfl rfl hdS_X6_staying ⟨Nat.le_of_ble_eq_true rfl, Nat.le_of_ble_eq_true rfl⟩) rfl hl.1 rfl (Nat.le_of_ble_eq_true rfl) dX7_save_52 ⟨Nat.le_of_ble_eq_true rfl, Nat.le_of_ble_eq_true rfl⟩ (fun i34 h => ?_)
      exact W.iret hx hb hr (fun t ht hW => ⟨⟨i34, S27, rfl, h, hO.q ht⟩, hO.f ht⟩) hO.lc dX7_save_55
    · have h := h.2 a9 hrq
      refine r_aaldL C hO e8 e8' (congrArg va_rf hrq) dX7_save_16 ?_
      show W _ _ _ _ _ _ _ _ _ _ _ _ _ _ _ (F0 _ _ _ (.ref a9 :: _))
      refine lv_astore_n (lv' := [(2, .ref a9), (0, .ref a0), (1, .int v1)]) hx hb dX7_save_17 rfl hl (by decide) rfl (fun ls hl => ?_)
      refine lv_aload_n hx hb dX7_save_18 rfl (lv_at hl 0 rfl) ?_
      refine lv_ifnonnull (tgt := 30) hx hb dX7_save_19 (by decide) ?_
      refine lv_aload_n hx hb dX7_save_30 rfl (lv_at hl 0 rfl) ?_
      refine lv_aload_n hx hb dX7_save_31 rfl (lv_at hl 1 rfl) ?_
      obtain ⟨fs35, a36, e37, e37', h⟩ := h
      refine r_get C hO 5 0 rfl inX7 (Nat.le_of_ble_eq_true rfl) e37 e37' (List.mem_of_getElem? (i := 5) (by decide +kernel)) dX7_save_32 ?_
      obtain ⟨fs40, e39, h⟩ := h
      refine cV_wv (As := [.ref a36]) (rest := []) (n := 1) C hO (fun L => c_X1_copyFrom l D Y L S s.heap.size a9 a36 _ h) 1 rfl e39 (cwV 1 hts gX7_save_X1_copyFrom rfl rfl rfl ⟨rfl, hdS_X1_copyFrom⟩ ⟨Nat.le_of_ble_eq_true rfl, Nat.le_of_ble_eq_true rfl⟩) rfl hl.1 rfl (Nat.le_of_ble_eq_true rfl) dX7_save_35 ⟨Nat.le_of_ble_eq_true rfl, Nat.le_of_ble_eq_true rfl⟩ (fun S38 H locs h hO => ?_)
      refine lv_aload_n hx hb dX7_save_38 rfl (lv_at hl 1 rfl) ?_
      obtain ⟨fs41, a42, e43, e43', h⟩ := h
      refine r_get C hO 5 2 rfl inX7 (Nat.le_of_ble_eq_true rfl) e43 e43' (List.mem_of_getElem? (i := 1) (by decide +kernel)) dX7_save_39 ?_
      refine lv_iload_n hx hb dX7_save_42 rfl (lv_at hl 2 rfl) ?_
      refine lv_aload_n hx hb dX7_save_43 rfl (lv_at hl 0 rfl) ?_
      obtain ⟨n44, f45, vs46, e47, e47', e47v, h⟩ := h
      refine r_aastL C hO e47 e47' e47v dX7_save_44 (fun H locs hO => ?_)
      obtain ⟨S48, eS48⟩ : ∃ Sx, Sx = va_up S38 a42 (aL n44 (va_up f45 (v1).toNatClampNeg (some a9))) := ⟨_, rfl⟩
      rw [← eS48] at hO
      have h := h S48 eS48
      refine lv_aload_n hx hb dX7_save_45 rfl (lv_at hl 1 rfl) ?_
      obtain ⟨fs49, a50, e51, e51', h⟩ := h
      refine r_get C hO 5 0 rfl inX7 (Nat.le_of_ble_eq_true rfl) e51 e51' (List.mem_of_getElem? (i := 5) (by decide +kernel)) dX7_save_46 ?_
      obtain ⟨fs52, j53, e54, e54', h⟩ := h
      refine r_get C hO 1 1 rfl inX1 (Nat.le_of_ble_eq_true rfl) e54 e54' (List.mem_of_getElem? (i := 6) (by decide +kernel)) dX7_save_49 ?_
      refine cS_si (As := [.long j53]) (rest := []) (n := 1) CF hZ (c_X6_staying l j53 _ h) (va_cwS 1 hts gX7_save_X6_staying rfl rfl rfl hdS_X6_staying ⟨Nat.le_of_ble_eq_true rfl, Nat.le_of_ble_eq_true rfl⟩) rfl hl.1 rfl (Nat.le_of_ble_eq_true rfl) dX7_save_52 ⟨Nat.le_of_ble_eq_true rfl, Nat.le_of_ble_eq_true rfl⟩ (fun i55 h => ?_)
      refine W.widen (k := 15) (n := 175) (Nat.le_of_ble_eq_true rfl) (Nat.le_of_ble_eq_true rfl) ?_
      exact W.iret hx hb hr (fun t ht hW => ⟨⟨i55, S48, rfl, h, hO.q ht⟩, hO.f ht⟩) hO.lc dX7_save_55
  · have h := h.1 c2
    refine lv_bipush (v := (-2 : Int32)) hx hb dX7_save_8 (by decide) ?_
    refine W.widen (k := 15) (n := 175) (Nat.le_of_ble_eq_true rfl) (Nat.le_of_ble_eq_true rfl) ?_
    exact W.iret hx hb hr (fun t ht hW => ⟨⟨(-2 : Int32), S, rfl, h, hO.q ht⟩, hO.f ht⟩) hO.lc dX7_save_10
theorem hdS_X7_restore : yX7_restore.cls ≠ "java/lang/invoke/MethodHandle" ∧ yX7_restore.cls ≠ "java/lang/invoke/VarHandle" ∧ (parseMethodDescriptor yX7_restore.desc).map (fun d => d.parameters.length) = some 1 := by decide +kernel
set_option maxHeartbeats 4000000 in
set_option maxRecDepth 100000 in
theorem c_X7_restore (l : Launch) (D : va_G) (Y : Nat → ClassId) (L : List Nat) (S : PS) (sz : Nat) (a0 : Nat) (v1 : Int32) (Post : Int32 → PS → Prop) (h : wp_X7_restore S a0 v1 Post) : Met l yX7_restore wsX7_restore ({ frames := 4, cells := 15, slots := 175, locals := 85 }) (va_Pc [.ref a0, .int v1] (PrO D Y L S sz)) (va_Qi Post (QtO D Y (fR L sz)) (fR L sz)) 15 175 (fR L sz) := by
  refine Met.ofW (cc := cX7_restore) (maxL := 3) (ret := (some .int)) (by decide) rfl ?_
  intro p e s m args below meth c s₁ B hml hv
  obtain ⟨rfl, hsz, hJ, hP, hK, hD0, hZ⟩ := hv
  have hx := B.exec
  have hb := B.bytes
  have hr := B.returns
  have hts := atoms_spec (ws := wsX7_restore) B.pre
  have hown : s.vm.findClass RX7 = some m.cls := findClass_of_methodNamed B.named
  have hlocks := B.notSynchronized
  have CF : CallFix p m c cX7_restore 3 s ([.ref a0, .int v1] : List Value).toArray wsX7_restore RX7 := ⟨hx, hb, hml, hown, hts⟩
  have C : CX p m c cX7_restore 3 s ([.ref a0, .int v1] : List Value).toArray wsX7_restore RX7 D Y := ⟨CF, hK, hZ⟩
  have hO : HO D Y (fR L sz) s.heap S s.heap [] := HO.entry hsz hJ hP hD0
  subst hsz
  have inX1 : ∀ w ∈ wsX10, w ∈ wsX7_restore := fun w h => List.mem_cons_of_mem _ (List.mem_append_left _ (List.mem_append_left _ (List.mem_append_right _ h)))
  have inX7 : ∀ w ∈ wsX70, w ∈ wsX7_restore := fun w h => List.mem_cons_of_mem _ (List.mem_append_left _ (List.mem_append_left _ (List.mem_append_left _ (List.mem_append_right _ h))))
  have hl := lv_entry ([.ref a0, .int v1]) (n := 3) (Nat.le_of_ble_eq_true rfl)
  rw [lg_entry_eq]
  generalize (lg_sl ([.ref a0, .int v1]) ++ List.replicate (3 - (lg_sl ([.ref a0, .int v1])).length) Slot.unset).toArray = ls at hl ⊢
  have hl : lv_has ls 3 [(0, .ref a0), (1, .int v1)] := hl
  unfold wp_X7_restore at h
  refine lv_iload_n hx hb dX7_restore_0 rfl (lv_at hl 1 rfl) ?_
  refine lv_iconst (v := (nI 2)) hx hb dX7_restore_1 (by decide) ?_
  refine cS_si (As := [.int v1, .int (nI 2)]) (rest := []) (n := 2) CF hZ (c_X7_isBelow l v1 (nI 2) _ h) (va_cwS 2 hts gX7_restore_X7_isBelow rfl rfl rfl hdS_X7_isBelow ⟨Nat.le_of_ble_eq_true rfl, Nat.le_of_ble_eq_true rfl⟩) rfl hl.1 rfl (Nat.le_of_ble_eq_true rfl) dX7_restore_2 ⟨Nat.le_of_ble_eq_true rfl, Nat.le_of_ble_eq_true rfl⟩ (fun i1 h => ?_)
  refine lv_if_ne (tgt := 11) hx hb dX7_restore_5 (by decide) (fun c2 => ?_) (fun c2 => ?_)
  · have h := h.2 c2
    refine lv_aload_n hx hb dX7_restore_11 rfl (lv_at hl 0 rfl) ?_
    obtain ⟨fs3, a4, e5, e5', h⟩ := h
    refine r_get C hO 5 2 rfl inX7 (Nat.le_of_ble_eq_true rfl) e5 e5' (List.mem_of_getElem? (i := 1) (by decide +kernel)) dX7_restore_12 ?_
    refine lv_iload_n hx hb dX7_restore_15 rfl (lv_at hl 1 rfl) ?_
    obtain ⟨n6, f7, e8, e8', h⟩ := h
    rcases hrq : f7 (v1).toNatClampNeg with _ | a9
    · have h := h.1 hrq
      refine r_aaldL C hO e8 e8' (congrArg va_rf hrq) dX7_restore_16 ?_
      show W _ _ _ _ _ _ _ _ _ _ _ _ _ _ _ (F0 _ _ _ (.null :: _))
      refine lv_astore_nN (lv' := [(2, .null), (0, .ref a0), (1, .int v1)]) hx hb dX7_restore_17 rfl hl (by decide) rfl (fun ls hl => ?_)
      refine lv_aload_nN hx hb dX7_restore_18 rfl (lv_at hl 0 rfl) ?_
      refine lv_ifnonnullN hx hb dX7_restore_19 ?_
      refine lv_bipush (v := (-5 : Int32)) hx hb dX7_restore_22 (by decide) ?_
      refine W.widen (k := 15) (n := 175) (Nat.le_of_ble_eq_true rfl) (Nat.le_of_ble_eq_true rfl) ?_
      exact W.iret hx hb hr (fun t ht hW => ⟨⟨(-5 : Int32), S, rfl, h, hO.q ht⟩, hO.f ht⟩) hO.lc dX7_restore_24
    · have h := h.2 a9 hrq
      refine r_aaldL C hO e8 e8' (congrArg va_rf hrq) dX7_restore_16 ?_
      show W _ _ _ _ _ _ _ _ _ _ _ _ _ _ _ (F0 _ _ _ (.ref a9 :: _))
      refine lv_astore_n (lv' := [(2, .ref a9), (0, .ref a0), (1, .int v1)]) hx hb dX7_restore_17 rfl hl (by decide) rfl (fun ls hl => ?_)
      refine lv_aload_n hx hb dX7_restore_18 rfl (lv_at hl 0 rfl) ?_
      refine lv_ifnonnull (tgt := 25) hx hb dX7_restore_19 (by decide) ?_
      refine lv_aload_n hx hb dX7_restore_25 rfl (lv_at hl 1 rfl) ?_
      obtain ⟨fs10, a11, e12, e12', h⟩ := h
      refine r_get C hO 5 1 rfl inX7 (Nat.le_of_ble_eq_true rfl) e12 e12' (List.mem_of_getElem? (i := 2) (by decide +kernel)) dX7_restore_26 ?_
      refine lv_aload_n hx hb dX7_restore_29 rfl (lv_at hl 1 rfl) ?_
      obtain ⟨fs13, a14, e15, e15', h⟩ := h
      refine r_get C hO 5 0 rfl inX7 (Nat.le_of_ble_eq_true rfl) e15 e15' (List.mem_of_getElem? (i := 3) (by decide +kernel)) dX7_restore_30 ?_
      obtain ⟨fs18, e17, h⟩ := h
      refine cV_wv (As := [.ref a14]) (rest := []) (n := 1) C hO (fun L => c_X3_keep l D Y L S s.heap.size a11 a14 _ h) 3 rfl e17 (cwV 1 hts gX7_restore_X3_keep rfl rfl rfl ⟨rfl, hdS_X3_keep⟩ ⟨Nat.le_of_ble_eq_true rfl, Nat.le_of_ble_eq_true rfl⟩) rfl hl.1 rfl (Nat.le_of_ble_eq_true rfl) dX7_restore_33 ⟨Nat.le_of_ble_eq_true rfl, Nat.le_of_ble_eq_true rfl⟩ (fun S16 H locs h hO => ?_)
      refine lv_aload_n hx hb dX7_restore_36 rfl (lv_at hl 1 rfl) ?_
      obtain ⟨fs19, a20, e21, e21', h⟩ := h
      refine r_get C hO 5 0 rfl inX7 (Nat.le_of_ble_eq_true rfl) e21 e21' (List.mem_of_getElem? (i := 3) (by decide +kernel)) dX7_restore_37 ?_
      refine lv_aload_n hx hb dX7_restore_40 rfl (lv_at hl 0 rfl) ?_
      obtain ⟨fs24, e23, h⟩ := h
      refine cV_wv (As := [.ref a9]) (rest := []) (n := 1) C hO (fun L => c_X1_copyFrom l D Y L S16 H.size a20 a9 _ h) 1 rfl e23 (cwV 1 hts gX7_restore_X1_copyFrom rfl rfl rfl ⟨rfl, hdS_X1_copyFrom⟩ ⟨Nat.le_of_ble_eq_true rfl, Nat.le_of_ble_eq_true rfl⟩) rfl hl.1 rfl (Nat.le_of_ble_eq_true rfl) dX7_restore_41 ⟨Nat.le_of_ble_eq_true rfl, Nat.le_of_ble_eq_true rfl⟩ (fun S22 H locs h hO => ?_)
      refine lv_aload_n hx hb dX7_restore_44 rfl (lv_at hl 1 rfl) ?_
      obtain ⟨fs25, a26, e27, e27', h⟩ := h
      refine r_get C hO 5 0 rfl inX7 (Nat.le_of_ble_eq_true rfl) e27 e27' (List.mem_of_getElem? (i := 3) (by decide +kernel)) dX7_restore_45 ?_
      obtain ⟨fs28, j29, e30, e30', h⟩ := h
      refine r_get C hO 1 1 rfl inX1 (Nat.le_of_ble_eq_true rfl) e30 e30' (List.mem_of_getElem? (i := 4) (by decide +kernel)) dX7_restore_48 ?_
      refine cS_si (As := [.long j29]) (rest := []) (n := 1) CF hZ (c_X6_staying l j29 _ h) (va_cwS 1 hts gX7_restore_X6_staying rfl rfl rfl hdS_X6_staying ⟨Nat.le_of_ble_eq_true rfl, Nat.le_of_ble_eq_true rfl⟩) rfl hl.1 rfl (Nat.le_of_ble_eq_true rfl) dX7_restore_51 ⟨Nat.le_of_ble_eq_true rfl, Nat.le_of_ble_eq_true rfl⟩ (fun i31 h => ?_)
      exact W.iret hx hb hr (fun t ht hW => ⟨⟨i31, S22, rfl, h, hO.q ht⟩, hO.f ht⟩) hO.lc dX7_restore_54
  · have h := h.1 c2
    refine lv_bipush (v := (-2 : Int32)) hx hb dX7_restore_8 (by decide) ?_
    refine W.widen (k := 15) (n := 175) (Nat.le_of_ble_eq_true rfl) (Nat.le_of_ble_eq_true rfl) ?_
    exact W.iret hx hb hr (fun t ht hW => ⟨⟨(-2 : Int32), S, rfl, h, hO.q ht⟩, hO.f ht⟩) hO.lc dX7_restore_10
theorem hdS_X8_init : yX8_init.cls ≠ "java/lang/invoke/MethodHandle" ∧ yX8_init.cls ≠ "java/lang/invoke/VarHandle" ∧ (parseMethodDescriptor yX8_init.desc).map (fun d => d.parameters.length) = some 0 := by decide +kernel
set_option maxHeartbeats 4000000 in
set_option maxRecDepth 100000 in
theorem c_X8_init (l : Launch) (D : va_G) (Y : Nat → ClassId) (L : List Nat) (S : PS) (sz : Nat) (a0 : Nat) (Post : PS → Prop) (h : wp_X8_init S a0 Post) : Met l yX8_init wsX8_init ({ frames := 1, cells := 10, slots := 5508, locals := 12 }) (va_Pc [.ref a0] (PrO D Y L S sz)) (va_Qv Post (QtO D Y (fR L sz)) (fR L sz)) 10 5508 (fR L sz) := by
  refine Met.ofW (cc := cX8_init) (maxL := 2) (ret := none) (by decide) rfl ?_
  intro p e s m args below meth c s₁ B hml hv
  obtain ⟨rfl, hsz, hJ, hP, hK, hD0, hZ⟩ := hv
  have hx := B.exec
  have hb := B.bytes
  have hr := B.returns
  have hts := atoms_spec (ws := wsX8_init) B.pre
  have hown : s.vm.findClass RX8 = some m.cls := findClass_of_methodNamed B.named
  have hlocks := B.notSynchronized
  have hin : meth.name = "<init>" := (name_of_methodNamed B.named B.method).1
  have CF : CallFix p m c cX8_init 2 s ([.ref a0] : List Value).toArray wsX8_init RX8 := ⟨hx, hb, hml, hown, hts⟩
  have C : CX p m c cX8_init 2 s ([.ref a0] : List Value).toArray wsX8_init RX8 D Y := ⟨CF, hK, hZ⟩
  have hO : HO D Y (fR L sz) s.heap S s.heap [] := HO.entry hsz hJ hP hD0
  subst hsz
  have inX8 : ∀ w ∈ wsX80, w ∈ wsX8_init := fun w h => List.mem_cons_of_mem _ (List.mem_append_right _ h)
  have hl := lv_entry ([.ref a0]) (n := 2) (Nat.le_of_ble_eq_true rfl)
  rw [lg_entry_eq]
  generalize (lg_sl ([.ref a0]) ++ List.replicate (2 - (lg_sl ([.ref a0])).length) Slot.unset).toArray = ls at hl ⊢
  have hl : lv_has ls 2 [(0, .ref a0)] := hl
  unfold wp_X8_init at h
  refine lv_aload_n hx hb dX8_init_0 rfl (lv_at hl 0 rfl) ?_
  refine W.objInit hx hb hown (hts _ (List.mem_of_getElem? (i := 1) (by decide +kernel : wsX8_init[1]? = some (Cond.methodLink RX8 1 objectInit)))) (hts _ (List.mem_of_getElem? (i := 2) (by decide +kernel : wsX8_init[2]? = some (Cond.instanceMethod objectInit)))) (hts _ (List.mem_of_getElem? (i := 3) (by decide +kernel : wsX8_init[3]? = some (Cond.code objectInit ⟨#[0xb1]⟩ 1 none)))) rfl (by rw [hml]; exact hl.1) rfl dX8_init_1 (Nat.le_of_ble_eq_true rfl) (Nat.le_of_ble_eq_true rfl) ?_
  refine W.eq (g2 := F0 m 4 ls []) rfl ?_
  refine lv_aload_n hx hb dX8_init_4 rfl (lv_at hl 0 rfl) ?_
  refine lv_sipush (v := (nI 194)) hx hb dX8_init_5 (by decide) ?_
  refine r_newa (k := 1) (ty := .int) (N' := 194) C hO (by intro C h; cases h) rfl rfl (List.mem_of_getElem? (i := 4) (by decide +kernel)) (194, .inl (fun _ => 0)) (fun _ => rfl) (by decide) (by decide) (Nat.le_of_ble_eq_true rfl) (Nat.le_of_ble_eq_true rfl) (Nat.le_of_ble_eq_true rfl) dX8_init_8 (fun a1 H hqa1 hO => ?_)
  obtain ⟨S2, eS2⟩ : ∃ Sx, Sx = va_up S a1 (aI 194 (fun _ => 0)) := ⟨_, rfl⟩
  have hO := (show HO D Y (fR L s.heap.size) s.heap (va_up S a1 (aI 194 (fun _ => 0))) H _ from hO)
  rw [← eS2] at hO
  have h := h a1 hqa1 S2 eS2
  obtain ⟨fs3, e4, e4', h⟩ := h
  refine r_putF C hO 6 0 hin rfl inX8 tyX8_ok nmX8 (Nat.le_of_ble_eq_true rfl) rfl rfl rfl rfl e4 e4' (List.mem_of_getElem? (i := 5) (by decide +kernel)) dX8_init_10 (fun H locs hO => ?_)
  obtain ⟨S5, eS5⟩ : ∃ Sx, Sx = va_up S2 a0 (.inl (6, fs3.set 0 (.ref a1))) := ⟨_, rfl⟩
  rw [← eS5] at hO
  have h := h S5 eS5
  refine lv_aload_n hx hb dX8_init_13 rfl (lv_at hl 0 rfl) ?_
  refine lv_sipush (v := (nI 1164)) hx hb dX8_init_14 (by decide) ?_
  refine r_newa (k := 1) (ty := .int) (N' := 1164) C hO (by intro C h; cases h) rfl rfl (List.mem_of_getElem? (i := 4) (by decide +kernel)) (1164, .inl (fun _ => 0)) (fun _ => rfl) (by decide) (by decide) (Nat.le_of_ble_eq_true rfl) (Nat.le_of_ble_eq_true rfl) (Nat.le_of_ble_eq_true rfl) dX8_init_17 (fun a6 H hqa6 hO => ?_)
  obtain ⟨S7, eS7⟩ : ∃ Sx, Sx = va_up S5 a6 (aI 1164 (fun _ => 0)) := ⟨_, rfl⟩
  have hO := (show HO D Y (fR L s.heap.size) s.heap (va_up S5 a6 (aI 1164 (fun _ => 0))) H _ from hO)
  rw [← eS7] at hO
  have h := h a6 hqa6 S7 eS7
  obtain ⟨fs8, e9, e9', h⟩ := h
  refine r_putF C hO 6 1 hin rfl inX8 tyX8_ok nmX8 (Nat.le_of_ble_eq_true rfl) rfl rfl rfl rfl e9 e9' (List.mem_of_getElem? (i := 6) (by decide +kernel)) dX8_init_19 (fun H locs hO => ?_)
  obtain ⟨S10, eS10⟩ : ∃ Sx, Sx = va_up S7 a0 (.inl (6, fs8.set 1 (.ref a6))) := ⟨_, rfl⟩
  rw [← eS10] at hO
  have h := h S10 eS10
  refine lv_aload_n hx hb dX8_init_22 rfl (lv_at hl 0 rfl) ?_
  refine lv_sipush (v := (nI 388)) hx hb dX8_init_23 (by decide) ?_
  refine r_newa (k := 1) (ty := .int) (N' := 388) C hO (by intro C h; cases h) rfl rfl (List.mem_of_getElem? (i := 4) (by decide +kernel)) (388, .inl (fun _ => 0)) (fun _ => rfl) (by decide) (by decide) (Nat.le_of_ble_eq_true rfl) (Nat.le_of_ble_eq_true rfl) (Nat.le_of_ble_eq_true rfl) dX8_init_26 (fun a11 H hqa11 hO => ?_)
  obtain ⟨S12, eS12⟩ : ∃ Sx, Sx = va_up S10 a11 (aI 388 (fun _ => 0)) := ⟨_, rfl⟩
  have hO := (show HO D Y (fR L s.heap.size) s.heap (va_up S10 a11 (aI 388 (fun _ => 0))) H _ from hO)
  rw [← eS12] at hO
  have h := h a11 hqa11 S12 eS12
  obtain ⟨fs13, e14, e14', h⟩ := h
  refine r_putF C hO 6 3 hin rfl inX8 tyX8_ok nmX8 (Nat.le_of_ble_eq_true rfl) rfl rfl rfl rfl e14 e14' (List.mem_of_getElem? (i := 7) (by decide +kernel)) dX8_init_28 (fun H locs hO => ?_)
  obtain ⟨S15, eS15⟩ : ∃ Sx, Sx = va_up S12 a0 (.inl (6, fs13.set 3 (.ref a11))) := ⟨_, rfl⟩
  rw [← eS15] at hO
  have h := h S15 eS15
  refine lv_aload_n hx hb dX8_init_31 rfl (lv_at hl 0 rfl) ?_
  refine lv_iconst (v := (nI 2)) hx hb dX8_init_32 (by decide) ?_
  refine r_newa (k := 1) (ty := .int) (N' := 2) C hO (by intro C h; cases h) rfl rfl (List.mem_of_getElem? (i := 4) (by decide +kernel)) (2, .inl (fun _ => 0)) (fun _ => rfl) (by decide) (by decide) (Nat.le_of_ble_eq_true rfl) (Nat.le_of_ble_eq_true rfl) (Nat.le_of_ble_eq_true rfl) dX8_init_33 (fun a16 H hqa16 hO => ?_)
  obtain ⟨S17, eS17⟩ : ∃ Sx, Sx = va_up S15 a16 (aI 2 (fun _ => 0)) := ⟨_, rfl⟩
  have hO := (show HO D Y (fR L s.heap.size) s.heap (va_up S15 a16 (aI 2 (fun _ => 0))) H _ from hO)
  rw [← eS17] at hO
  have h := h a16 hqa16 S17 eS17
  obtain ⟨fs18, e19, e19', h⟩ := h
  refine r_putF C hO 6 4 hin rfl inX8 tyX8_ok nmX8 (Nat.le_of_ble_eq_true rfl) rfl rfl rfl rfl e19 e19' (List.mem_of_getElem? (i := 8) (by decide +kernel)) dX8_init_35 (fun H locs hO => ?_)
  obtain ⟨S20, eS20⟩ : ∃ Sx, Sx = va_up S17 a0 (.inl (6, fs18.set 4 (.ref a16))) := ⟨_, rfl⟩
  rw [← eS20] at hO
  have h := h S20 eS20
  refine lv_aload_n hx hb dX8_init_38 rfl (lv_at hl 0 rfl) ?_
  refine lv_bipush (v := (nI 40)) hx hb dX8_init_39 (by decide) ?_
  refine r_newa (k := 1) (ty := .int) (N' := 40) C hO (by intro C h; cases h) rfl rfl (List.mem_of_getElem? (i := 4) (by decide +kernel)) (40, .inl (fun _ => 0)) (fun _ => rfl) (by decide) (by decide) (Nat.le_of_ble_eq_true rfl) (Nat.le_of_ble_eq_true rfl) (Nat.le_of_ble_eq_true rfl) dX8_init_41 (fun a21 H hqa21 hO => ?_)
  obtain ⟨S22, eS22⟩ : ∃ Sx, Sx = va_up S20 a21 (aI 40 (fun _ => 0)) := ⟨_, rfl⟩
  have hO := (show HO D Y (fR L s.heap.size) s.heap (va_up S20 a21 (aI 40 (fun _ => 0))) H _ from hO)
  rw [← eS22] at hO
  have h := h a21 hqa21 S22 eS22
  obtain ⟨fs23, e24, e24', h⟩ := h
  refine r_putF C hO 6 5 hin rfl inX8 tyX8_ok nmX8 (Nat.le_of_ble_eq_true rfl) rfl rfl rfl rfl e24 e24' (List.mem_of_getElem? (i := 9) (by decide +kernel)) dX8_init_43 (fun H locs hO => ?_)
  obtain ⟨S25, eS25⟩ : ∃ Sx, Sx = va_up S22 a0 (.inl (6, fs23.set 5 (.ref a21))) := ⟨_, rfl⟩
  rw [← eS25] at hO
  have h := h S25 eS25
  refine lv_aload_n hx hb dX8_init_46 rfl (lv_at hl 0 rfl) ?_
  refine lv_bipush (v := (nI 24)) hx hb dX8_init_47 (by decide) ?_
  refine r_newa (k := 1) (ty := .int) (N' := 24) C hO (by intro C h; cases h) rfl rfl (List.mem_of_getElem? (i := 4) (by decide +kernel)) (24, .inl (fun _ => 0)) (fun _ => rfl) (by decide) (by decide) (Nat.le_of_ble_eq_true rfl) (Nat.le_of_ble_eq_true rfl) (Nat.le_of_ble_eq_true rfl) dX8_init_49 (fun a26 H hqa26 hO => ?_)
  obtain ⟨S27, eS27⟩ : ∃ Sx, Sx = va_up S25 a26 (aI 24 (fun _ => 0)) := ⟨_, rfl⟩
  have hO := (show HO D Y (fR L s.heap.size) s.heap (va_up S25 a26 (aI 24 (fun _ => 0))) H _ from hO)
  rw [← eS27] at hO
  have h := h a26 hqa26 S27 eS27
  obtain ⟨fs28, e29, e29', h⟩ := h
  refine r_putF C hO 6 8 hin rfl inX8 tyX8_ok nmX8 (Nat.le_of_ble_eq_true rfl) rfl rfl rfl rfl e29 e29' (List.mem_of_getElem? (i := 10) (by decide +kernel)) dX8_init_51 (fun H locs hO => ?_)
  obtain ⟨S30, eS30⟩ : ∃ Sx, Sx = va_up S27 a0 (.inl (6, fs28.set 8 (.ref a26))) := ⟨_, rfl⟩
  rw [← eS30] at hO
  have h := h S30 eS30
  refine lv_aload_n hx hb dX8_init_54 rfl (lv_at hl 0 rfl) ?_
  refine lv_bipush (v := (nI 72)) hx hb dX8_init_55 (by decide) ?_
  refine r_newa (k := 1) (ty := .int) (N' := 72) C hO (by intro C h; cases h) rfl rfl (List.mem_of_getElem? (i := 4) (by decide +kernel)) (72, .inl (fun _ => 0)) (fun _ => rfl) (by decide) (by decide) (Nat.le_of_ble_eq_true rfl) (Nat.le_of_ble_eq_true rfl) (Nat.le_of_ble_eq_true rfl) dX8_init_57 (fun a31 H hqa31 hO => ?_)
  obtain ⟨S32, eS32⟩ : ∃ Sx, Sx = va_up S30 a31 (aI 72 (fun _ => 0)) := ⟨_, rfl⟩
  have hO := (show HO D Y (fR L s.heap.size) s.heap (va_up S30 a31 (aI 72 (fun _ => 0))) H _ from hO)
  rw [← eS32] at hO
  have h := h a31 hqa31 S32 eS32
  obtain ⟨fs33, e34, e34', h⟩ := h
  refine r_putF C hO 6 10 hin rfl inX8 tyX8_ok nmX8 (Nat.le_of_ble_eq_true rfl) rfl rfl rfl rfl e34 e34' (List.mem_of_getElem? (i := 11) (by decide +kernel)) dX8_init_59 (fun H locs hO => ?_)
  obtain ⟨S35, eS35⟩ : ∃ Sx, Sx = va_up S32 a0 (.inl (6, fs33.set 10 (.ref a31))) := ⟨_, rfl⟩
  rw [← eS35] at hO
  have h := h S35 eS35
  refine lv_aload_n hx hb dX8_init_62 rfl (lv_at hl 0 rfl) ?_
  refine lv_bipush (v := (nI 12)) hx hb dX8_init_63 (by decide) ?_
  refine r_newa (k := 1) (ty := .int) (N' := 12) C hO (by intro C h; cases h) rfl rfl (List.mem_of_getElem? (i := 4) (by decide +kernel)) (12, .inl (fun _ => 0)) (fun _ => rfl) (by decide) (by decide) (Nat.le_of_ble_eq_true rfl) (Nat.le_of_ble_eq_true rfl) (Nat.le_of_ble_eq_true rfl) dX8_init_65 (fun a36 H hqa36 hO => ?_)
  obtain ⟨S37, eS37⟩ : ∃ Sx, Sx = va_up S35 a36 (aI 12 (fun _ => 0)) := ⟨_, rfl⟩
  have hO := (show HO D Y (fR L s.heap.size) s.heap (va_up S35 a36 (aI 12 (fun _ => 0))) H _ from hO)
  rw [← eS37] at hO
  have h := h a36 hqa36 S37 eS37
  obtain ⟨fs38, e39, e39', h⟩ := h
  refine r_putF C hO 6 11 hin rfl inX8 tyX8_ok nmX8 (Nat.le_of_ble_eq_true rfl) rfl rfl rfl rfl e39 e39' (List.mem_of_getElem? (i := 12) (by decide +kernel)) dX8_init_67 (fun H locs hO => ?_)
  obtain ⟨S40, eS40⟩ : ∃ Sx, Sx = va_up S37 a0 (.inl (6, fs38.set 11 (.ref a36))) := ⟨_, rfl⟩
  rw [← eS40] at hO
  have h := h S40 eS40
  refine lv_aload_n hx hb dX8_init_70 rfl (lv_at hl 0 rfl) ?_
  refine lv_bipush (v := (nI 12)) hx hb dX8_init_71 (by decide) ?_
  refine r_newa (k := 1) (ty := .int) (N' := 12) C hO (by intro C h; cases h) rfl rfl (List.mem_of_getElem? (i := 4) (by decide +kernel)) (12, .inl (fun _ => 0)) (fun _ => rfl) (by decide) (by decide) (Nat.le_of_ble_eq_true rfl) (Nat.le_of_ble_eq_true rfl) (Nat.le_of_ble_eq_true rfl) dX8_init_73 (fun a41 H hqa41 hO => ?_)
  obtain ⟨S42, eS42⟩ : ∃ Sx, Sx = va_up S40 a41 (aI 12 (fun _ => 0)) := ⟨_, rfl⟩
  have hO := (show HO D Y (fR L s.heap.size) s.heap (va_up S40 a41 (aI 12 (fun _ => 0))) H _ from hO)
  rw [← eS42] at hO
  have h := h a41 hqa41 S42 eS42
  obtain ⟨fs43, e44, e44', h⟩ := h
  refine r_putF C hO 6 12 hin rfl inX8 tyX8_ok nmX8 (Nat.le_of_ble_eq_true rfl) rfl rfl rfl rfl e44 e44' (List.mem_of_getElem? (i := 13) (by decide +kernel)) dX8_init_75 (fun H locs hO => ?_)
  obtain ⟨S45, eS45⟩ : ∃ Sx, Sx = va_up S42 a0 (.inl (6, fs43.set 12 (.ref a41))) := ⟨_, rfl⟩
  rw [← eS45] at hO
  have h := h S45 eS45
  refine lv_aload_n hx hb dX8_init_78 rfl (lv_at hl 0 rfl) ?_
  refine lv_sipush (v := (nI 3600)) hx hb dX8_init_79 (by decide) ?_
  refine r_newa (k := 1) (ty := .int) (N' := 3600) C hO (by intro C h; cases h) rfl rfl (List.mem_of_getElem? (i := 4) (by decide +kernel)) (3600, .inl (fun _ => 0)) (fun _ => rfl) (by decide) (by decide) (Nat.le_of_ble_eq_true rfl) (Nat.le_of_ble_eq_true rfl) (Nat.le_of_ble_eq_true rfl) dX8_init_82 (fun a46 H hqa46 hO => ?_)
  obtain ⟨S47, eS47⟩ : ∃ Sx, Sx = va_up S45 a46 (aI 3600 (fun _ => 0)) := ⟨_, rfl⟩
  have hO := (show HO D Y (fR L s.heap.size) s.heap (va_up S45 a46 (aI 3600 (fun _ => 0))) H _ from hO)
  rw [← eS47] at hO
  have h := h a46 hqa46 S47 eS47
  obtain ⟨fs48, e49, e49', h⟩ := h
  refine r_putF C hO 6 13 hin rfl inX8 tyX8_ok nmX8 (Nat.le_of_ble_eq_true rfl) rfl rfl rfl rfl e49 e49' (List.mem_of_getElem? (i := 14) (by decide +kernel)) dX8_init_84 (fun H locs hO => ?_)
  obtain ⟨S50, eS50⟩ : ∃ Sx, Sx = va_up S47 a0 (.inl (6, fs48.set 13 (.ref a46))) := ⟨_, rfl⟩
  rw [← eS50] at hO
  have h := h S50 eS50
  refine lv_iconst (v := (nI 0)) hx hb dX8_init_87 (by decide) ?_
  refine lv_istore_n (lv' := [(1, .int (nI 0)), (0, .ref a0)]) hx hb dX8_init_88 rfl hl (by decide) rfl (fun ls hl => ?_)
  obtain ⟨n81, h⟩ := h
  refine lp_W (nL := 2) (fun q => [(1, .int q.1), (0, .ref a0)]) (fun q => q.2) h (lv_sub hl [0, 1] rfl) hO (fun K89 ih89 q ls H locs h hl hO => ?_)
  obtain ⟨i51, S52⟩ := q
  have h : wpb_X8_init_89 a0 Post K89 i51 S52 := h
  have hl : lv_has ls 2 [(1, .int i51), (0, .ref a0)] := hl
  have hO : HO D Y (fR L s.heap.size) s.heap S52 H locs := hO
  unfold wpb_X8_init_89 at h
  refine lv_iload_n hx hb dX8_init_89 rfl (lv_at hl 0 rfl) ?_
  refine lv_bipush (v := (nI 12)) hx hb dX8_init_90 (by decide) ?_
  refine lv_icmp_ge (tgt := 123) hx hb dX8_init_92 (by decide) (fun c53 => ?_) (fun c53 => ?_)
  · have h := h.1 c53
    refine lv_iconst (v := (nI 0)) hx hb dX8_init_123 (by decide) ?_
    refine lv_istore_n (lv' := [(1, .int (nI 0)), (0, .ref a0)]) hx hb dX8_init_124 rfl hl (by decide) rfl (fun ls hl => ?_)
    obtain ⟨n65, h⟩ := h
    refine lp_W (nL := 2) (fun q => [(1, .int q.1), (0, .ref a0)]) (fun q => q.2) h (lv_sub hl [0, 1] rfl) hO (fun K125 ih125 q ls H locs h hl hO => ?_)
    obtain ⟨i54, S55⟩ := q
    have h : wpb_X8_init_125 a0 Post K125 i54 S55 := h
    have hl : lv_has ls 2 [(1, .int i54), (0, .ref a0)] := hl
    have hO : HO D Y (fR L s.heap.size) s.heap S55 H locs := hO
    unfold wpb_X8_init_125 at h
    refine lv_iload_n hx hb dX8_init_125 rfl (lv_at hl 0 rfl) ?_
    refine lv_bipush (v := (nI 6)) hx hb dX8_init_126 (by decide) ?_
    refine lv_icmp_ge (tgt := 149) hx hb dX8_init_128 (by decide) (fun c56 => ?_) (fun c56 => ?_)
    · have h := h.1 c56
      exact W.vret hx hb hr (fun t ht hW => ⟨⟨S55, rfl, h, hO.q ht⟩, hO.f ht⟩) hO.lc dX8_init_149
    · have h := h.2 c56
      refine lv_aload_n hx hb dX8_init_131 rfl (lv_at hl 1 rfl) ?_
      obtain ⟨fs57, a58, e59, e59', h⟩ := h
      refine r_get C hO 6 0 rfl inX8 (Nat.le_of_ble_eq_true rfl) e59 e59' (List.mem_of_getElem? (i := 5) (by decide +kernel)) dX8_init_132 ?_
      refine lv_bipush (v := (nI 12)) hx hb dX8_init_135 (by decide) ?_
      refine lv_iload_n hx hb dX8_init_137 rfl (lv_at hl 0 rfl) ?_
      refine lv_iadd hx hb dX8_init_138 ?_
      refine lv_iconst (v := (nI 1)) hx hb dX8_init_139 (by decide) ?_
      refine lv_iload_n hx hb dX8_init_140 rfl (lv_at hl 0 rfl) ?_
      refine lv_ishl hx hb dX8_init_141 ?_
      obtain ⟨n60, f61, e62, e62', h⟩ := h
      refine r_iast C hO e62 e62' dX8_init_142 (fun H locs hO => ?_)
      obtain ⟨S63, eS63⟩ : ∃ Sx, Sx = va_up S55 a58 (aI n60 (upd f61 (((nI 12) + i54)).toNatClampNeg ((nI 1) <<< (i54 &&& 31)))) := ⟨_, rfl⟩
      rw [← eS63] at hO
      have h := h S63 eS63
      obtain ⟨i64, ei64⟩ : ∃ y : Int32, y = i54 + (nI 1) := ⟨_, rfl⟩
      have h := h i64 ei64
      refine lv_iinc (v := i64) (lv' := [(1, .int i64), (0, .ref a0)]) hx hb dX8_init_143 hl (k := 0) rfl (by rw [ei64]; rfl) (by decide) rfl (fun ls hl => ?_)
      refine lv_goto (tgt := 125) hx hb dX8_init_146 (by decide) ?_
      exact ih125 (i64, S63) _ _ _ h (lv_sub hl [0, 1] rfl) hO
  · have h := h.2 c53
    refine lv_aload_n hx hb dX8_init_95 rfl (lv_at hl 1 rfl) ?_
    obtain ⟨fs66, a67, e68, e68', h⟩ := h
    refine r_get C hO 6 0 rfl inX8 (Nat.le_of_ble_eq_true rfl) e68 e68' (List.mem_of_getElem? (i := 5) (by decide +kernel)) dX8_init_96 ?_
    refine lv_iconst (v := (nI 0)) hx hb dX8_init_99 (by decide) ?_
    refine lv_iload_n hx hb dX8_init_100 rfl (lv_at hl 0 rfl) ?_
    refine lv_iadd hx hb dX8_init_101 ?_
    refine lv_iload_n hx hb dX8_init_102 rfl (lv_at hl 0 rfl) ?_
    refine lv_bipush (v := (nI 6)) hx hb dX8_init_103 (by decide) ?_
    refine lv_irem hx hb dX8_init_105 (by decide) ?_
    obtain ⟨n69, f70, e71, e71', h⟩ := h
    refine r_iast C hO e71 e71' dX8_init_106 (fun H locs hO => ?_)
    obtain ⟨S72, eS72⟩ : ∃ Sx, Sx = va_up S52 a67 (aI n69 (upd f70 (((nI 0) + i51)).toNatClampNeg (i51 - i51 / (nI 6) * (nI 6)))) := ⟨_, rfl⟩
    rw [← eS72] at hO
    have h := h S72 eS72
    refine lv_aload_n hx hb dX8_init_107 rfl (lv_at hl 1 rfl) ?_
    obtain ⟨fs73, a74, e75, e75', h⟩ := h
    refine r_get C hO 6 0 rfl inX8 (Nat.le_of_ble_eq_true rfl) e75 e75' (List.mem_of_getElem? (i := 5) (by decide +kernel)) dX8_init_108 ?_
    refine lv_bipush (v := (nI 18)) hx hb dX8_init_111 (by decide) ?_
    refine lv_iload_n hx hb dX8_init_113 rfl (lv_at hl 0 rfl) ?_
    refine lv_iadd hx hb dX8_init_114 ?_
    refine lv_iload_n hx hb dX8_init_115 rfl (lv_at hl 0 rfl) ?_
    obtain ⟨n76, f77, e78, e78', h⟩ := h
    refine r_iast C hO e78 e78' dX8_init_116 (fun H locs hO => ?_)
    obtain ⟨S79, eS79⟩ : ∃ Sx, Sx = va_up S72 a74 (aI n76 (upd f77 (((nI 18) + i51)).toNatClampNeg i51)) := ⟨_, rfl⟩
    rw [← eS79] at hO
    have h := h S79 eS79
    obtain ⟨i80, ei80⟩ : ∃ y : Int32, y = i51 + (nI 1) := ⟨_, rfl⟩
    have h := h i80 ei80
    refine lv_iinc (v := i80) (lv' := [(1, .int i80), (0, .ref a0)]) hx hb dX8_init_117 hl (k := 0) rfl (by rw [ei80]; rfl) (by decide) rfl (fun ls hl => ?_)
    refine lv_goto (tgt := 89) hx hb dX8_init_120 (by decide) ?_
    exact ih89 (i80, S79) _ _ _ h (lv_sub hl [0, 1] rfl) hO
theorem hdS_X8_within : yX8_within.cls ≠ "java/lang/invoke/MethodHandle" ∧ yX8_within.cls ≠ "java/lang/invoke/VarHandle" ∧ (parseMethodDescriptor yX8_within.desc).map (fun d => d.parameters.length) = some 3 := by decide +kernel
set_option maxHeartbeats 4000000 in
set_option maxRecDepth 100000 in
theorem c_X8_within (l : Launch) (v0 : Int32) (v1 : Int32) (v2 : Int32) (Post : Int32 → Prop) (h : wp_X8_within v0 v1 v2 Post) : Met l yX8_within wsX8_within ({ frames := 0, cells := 0, slots := 0, locals := 0 }) (va_Pc [.int v0, .int v1, .int v2] NZ) (vp_Si Post) 0 0 (fun _ => False) := by
  refine Met.ofW (cc := cX8_within) (maxL := 3) (ret := (some .boolean)) (by decide) rfl ?_
  intro p e s m args below meth c s₁ B hml hv
  obtain ⟨rfl, hZ⟩ := hv
  have hx := B.exec
  have hb := B.bytes
  have hr := B.returns
  have hts := atoms_spec (ws := wsX8_within) B.pre
  have hown : s.vm.findClass RX8 = some m.cls := findClass_of_methodNamed B.named
  have hlocks := B.notSynchronized
  have CF : CallFix p m c cX8_within 3 s ([.int v0, .int v1, .int v2] : List Value).toArray wsX8_within RX8 := ⟨hx, hb, hml, hown, hts⟩
  have hl := lv_entry ([.int v0, .int v1, .int v2]) (n := 3) (Nat.le_of_ble_eq_true rfl)
  rw [lg_entry_eq]
  generalize (lg_sl ([.int v0, .int v1, .int v2]) ++ List.replicate (3 - (lg_sl ([.int v0, .int v1, .int v2])).length) Slot.unset).toArray = ls at hl ⊢
  have hl : lv_has ls 3 [(0, .int v0), (1, .int v1), (2, .int v2)] := hl
  unfold wp_X8_within at h
  refine lv_iload_n hx hb dX8_within_0 rfl (lv_at hl 0 rfl) ?_
  refine lv_iload_n hx hb dX8_within_1 rfl (lv_at hl 1 rfl) ?_
  refine lv_icmp_lt (tgt := 14) hx hb dX8_within_2 (by decide) (fun c1 => ?_) (fun c1 => ?_)
  · have h := h.1 c1
    refine lv_iconst (v := (nI 0)) hx hb dX8_within_14 (by decide) ?_
    exact W.zret hx hb hr (by decide) (fun t ht hW => ⟨(nI 0), rfl, h, ht⟩) no_locs dX8_within_15
  · have h := h.2 c1
    refine lv_iload_n hx hb dX8_within_5 rfl (lv_at hl 0 rfl) ?_
    refine lv_iload_n hx hb dX8_within_6 rfl (lv_at hl 2 rfl) ?_
    refine lv_icmp_gt (tgt := 14) hx hb dX8_within_7 (by decide) (fun c2 => ?_) (fun c2 => ?_)
    · have h := h.1 c2
      refine lv_iconst (v := (nI 0)) hx hb dX8_within_14 (by decide) ?_
      exact W.zret hx hb hr (by decide) (fun t ht hW => ⟨(nI 0), rfl, h, ht⟩) no_locs dX8_within_15
    · have h := h.2 c2
      refine lv_iconst (v := (nI 1)) hx hb dX8_within_10 (by decide) ?_
      refine lv_goto (tgt := 15) hx hb dX8_within_11 (by decide) ?_
      exact W.zret hx hb hr (by decide) (fun t ht hW => ⟨(nI 1), rfl, h, ht⟩) no_locs dX8_within_15
theorem hdS_X8_isPlace : yX8_isPlace.cls ≠ "java/lang/invoke/MethodHandle" ∧ yX8_isPlace.cls ≠ "java/lang/invoke/VarHandle" ∧ (parseMethodDescriptor yX8_isPlace.desc).map (fun d => d.parameters.length) = some 1 := by decide +kernel
set_option maxHeartbeats 4000000 in
set_option maxRecDepth 100000 in
theorem c_X8_isPlace (l : Launch) (v0 : Int32) (Post : Int32 → Prop) (h : wp_X8_isPlace v0 Post) : Met l yX8_isPlace wsX8_isPlace ({ frames := 1, cells := 0, slots := 0, locals := 22 }) (va_Pc [.int v0] NZ) (vp_Si Post) 0 0 (fun _ => False) := by
  refine Met.ofW (cc := cX8_isPlace) (maxL := 1) (ret := (some .boolean)) (by decide) rfl ?_
  intro p e s m args below meth c s₁ B hml hv
  obtain ⟨rfl, hZ⟩ := hv
  have hx := B.exec
  have hb := B.bytes
  have hr := B.returns
  have hts := atoms_spec (ws := wsX8_isPlace) B.pre
  have hown : s.vm.findClass RX8 = some m.cls := findClass_of_methodNamed B.named
  have hlocks := B.notSynchronized
  have CF : CallFix p m c cX8_isPlace 1 s ([.int v0] : List Value).toArray wsX8_isPlace RX8 := ⟨hx, hb, hml, hown, hts⟩
  have hl := lv_entry ([.int v0]) (n := 1) (Nat.le_of_ble_eq_true rfl)
  rw [lg_entry_eq]
  generalize (lg_sl ([.int v0]) ++ List.replicate (1 - (lg_sl ([.int v0])).length) Slot.unset).toArray = ls at hl ⊢
  have hl : lv_has ls 1 [(0, .int v0)] := hl
  unfold wp_X8_isPlace at h
  refine lv_iload_n hx hb dX8_isPlace_0 rfl (lv_at hl 0 rfl) ?_
  refine lv_iconst (v := (nI 0)) hx hb dX8_isPlace_1 (by decide) ?_
  refine lv_bipush (v := (nI 11)) hx hb dX8_isPlace_2 (by decide) ?_
  refine cS_si (As := [.int v0, .int (nI 0), .int (nI 11)]) (rest := []) (n := 3) CF hZ (c_X8_within l v0 (nI 0) (nI 11) _ h) (va_cwS 3 hts gX8_isPlace_X8_within rfl rfl rfl hdS_X8_within ⟨Nat.le_of_ble_eq_true rfl, Nat.le_of_ble_eq_true rfl⟩) rfl hl.1 rfl (Nat.le_of_ble_eq_true rfl) dX8_isPlace_4 ⟨Nat.le_of_ble_eq_true rfl, Nat.le_of_ble_eq_true rfl⟩ (fun i1 h => ?_)
  obtain ⟨gz, h⟩ := h
  exact W.zret hx hb hr (congrArg Value.int gz) (fun t ht hW => ⟨i1, rfl, h, ht⟩) no_locs dX8_isPlace_7
theorem hdS_X8_isDraft : yX8_isDraft.cls ≠ "java/lang/invoke/MethodHandle" ∧ yX8_isDraft.cls ≠ "java/lang/invoke/VarHandle" ∧ (parseMethodDescriptor yX8_isDraft.desc).map (fun d => d.parameters.length) = some 1 := by decide +kernel
set_option maxHeartbeats 4000000 in
set_option maxRecDepth 100000 in
theorem c_X8_isDraft (l : Launch) (v0 : Int32) (Post : Int32 → Prop) (h : wp_X8_isDraft v0 Post) : Met l yX8_isDraft wsX8_isDraft ({ frames := 1, cells := 0, slots := 0, locals := 22 }) (va_Pc [.int v0] NZ) (vp_Si Post) 0 0 (fun _ => False) := by
  refine Met.ofW (cc := cX8_isDraft) (maxL := 1) (ret := (some .boolean)) (by decide) rfl ?_
  intro p e s m args below meth c s₁ B hml hv
  obtain ⟨rfl, hZ⟩ := hv
  have hx := B.exec
  have hb := B.bytes
  have hr := B.returns
  have hts := atoms_spec (ws := wsX8_isDraft) B.pre
  have hown : s.vm.findClass RX8 = some m.cls := findClass_of_methodNamed B.named
  have hlocks := B.notSynchronized
  have CF : CallFix p m c cX8_isDraft 1 s ([.int v0] : List Value).toArray wsX8_isDraft RX8 := ⟨hx, hb, hml, hown, hts⟩
  have hl := lv_entry ([.int v0]) (n := 1) (Nat.le_of_ble_eq_true rfl)
  rw [lg_entry_eq]
  generalize (lg_sl ([.int v0]) ++ List.replicate (1 - (lg_sl ([.int v0])).length) Slot.unset).toArray = ls at hl ⊢
  have hl : lv_has ls 1 [(0, .int v0)] := hl
  unfold wp_X8_isDraft at h
  refine lv_iload_n hx hb dX8_isDraft_0 rfl (lv_at hl 0 rfl) ?_
  refine lv_iconst (v := (nI 0)) hx hb dX8_isDraft_1 (by decide) ?_
  refine lv_iconst (v := (nI 5)) hx hb dX8_isDraft_2 (by decide) ?_
  refine cS_si (As := [.int v0, .int (nI 0), .int (nI 5)]) (rest := []) (n := 3) CF hZ (c_X8_within l v0 (nI 0) (nI 5) _ h) (va_cwS 3 hts gX8_isDraft_X8_within rfl rfl rfl hdS_X8_within ⟨Nat.le_of_ble_eq_true rfl, Nat.le_of_ble_eq_true rfl⟩) rfl hl.1 rfl (Nat.le_of_ble_eq_true rfl) dX8_isDraft_3 ⟨Nat.le_of_ble_eq_true rfl, Nat.le_of_ble_eq_true rfl⟩ (fun i1 h => ?_)
  obtain ⟨gz, h⟩ := h
  exact W.zret hx hb hr (congrArg Value.int gz) (fun t ht hW => ⟨i1, rfl, h, ht⟩) no_locs dX8_isDraft_6
theorem hdS_X8_areDrafts : yX8_areDrafts.cls ≠ "java/lang/invoke/MethodHandle" ∧ yX8_areDrafts.cls ≠ "java/lang/invoke/VarHandle" ∧ (parseMethodDescriptor yX8_areDrafts.desc).map (fun d => d.parameters.length) = some 1 := by decide +kernel
set_option maxHeartbeats 4000000 in
set_option maxRecDepth 100000 in
theorem c_X8_areDrafts (l : Launch) (v0 : Int32) (Post : Int32 → Prop) (h : wp_X8_areDrafts v0 Post) : Met l yX8_areDrafts wsX8_areDrafts ({ frames := 1, cells := 0, slots := 0, locals := 22 }) (va_Pc [.int v0] NZ) (vp_Si Post) 0 0 (fun _ => False) := by
  refine Met.ofW (cc := cX8_areDrafts) (maxL := 1) (ret := (some .boolean)) (by decide) rfl ?_
  intro p e s m args below meth c s₁ B hml hv
  obtain ⟨rfl, hZ⟩ := hv
  have hx := B.exec
  have hb := B.bytes
  have hr := B.returns
  have hts := atoms_spec (ws := wsX8_areDrafts) B.pre
  have hown : s.vm.findClass RX8 = some m.cls := findClass_of_methodNamed B.named
  have hlocks := B.notSynchronized
  have CF : CallFix p m c cX8_areDrafts 1 s ([.int v0] : List Value).toArray wsX8_areDrafts RX8 := ⟨hx, hb, hml, hown, hts⟩
  have hl := lv_entry ([.int v0]) (n := 1) (Nat.le_of_ble_eq_true rfl)
  rw [lg_entry_eq]
  generalize (lg_sl ([.int v0]) ++ List.replicate (1 - (lg_sl ([.int v0])).length) Slot.unset).toArray = ls at hl ⊢
  have hl : lv_has ls 1 [(0, .int v0)] := hl
  unfold wp_X8_areDrafts at h
  refine lv_iload_n hx hb dX8_areDrafts_0 rfl (lv_at hl 0 rfl) ?_
  refine lv_iconst (v := (nI 0)) hx hb dX8_areDrafts_1 (by decide) ?_
  refine lv_bipush (v := (nI 63)) hx hb dX8_areDrafts_2 (by decide) ?_
  refine cS_si (As := [.int v0, .int (nI 0), .int (nI 63)]) (rest := []) (n := 3) CF hZ (c_X8_within l v0 (nI 0) (nI 63) _ h) (va_cwS 3 hts gX8_areDrafts_X8_within rfl rfl rfl hdS_X8_within ⟨Nat.le_of_ble_eq_true rfl, Nat.le_of_ble_eq_true rfl⟩) rfl hl.1 rfl (Nat.le_of_ble_eq_true rfl) dX8_areDrafts_4 ⟨Nat.le_of_ble_eq_true rfl, Nat.le_of_ble_eq_true rfl⟩ (fun i1 h => ?_)
  obtain ⟨gz, h⟩ := h
  exact W.zret hx hb hr (congrArg Value.int gz) (fun t ht hW => ⟨i1, rfl, h, ht⟩) no_locs dX8_areDrafts_7
theorem hdS_X8_ones : yX8_ones.cls ≠ "java/lang/invoke/MethodHandle" ∧ yX8_ones.cls ≠ "java/lang/invoke/VarHandle" ∧ (parseMethodDescriptor yX8_ones.desc).map (fun d => d.parameters.length) = some 1 := by decide +kernel
set_option maxHeartbeats 4000000 in
set_option maxRecDepth 100000 in
theorem c_X8_ones (l : Launch) (v0 : Int32) (Post : Int32 → Prop) (h : wp_X8_ones v0 Post) : Met l yX8_ones wsX8_ones ({ frames := 0, cells := 0, slots := 0, locals := 0 }) (va_Pc [.int v0] NZ) (vp_Si Post) 0 0 (fun _ => False) := by
  refine Met.ofW (cc := cX8_ones) (maxL := 3) (ret := (some .int)) (by decide) rfl ?_
  intro p e s m args below meth c s₁ B hml hv
  obtain ⟨rfl, hZ⟩ := hv
  have hx := B.exec
  have hb := B.bytes
  have hr := B.returns
  have hts := atoms_spec (ws := wsX8_ones) B.pre
  have hown : s.vm.findClass RX8 = some m.cls := findClass_of_methodNamed B.named
  have hlocks := B.notSynchronized
  have CF : CallFix p m c cX8_ones 3 s ([.int v0] : List Value).toArray wsX8_ones RX8 := ⟨hx, hb, hml, hown, hts⟩
  have hl := lv_entry ([.int v0]) (n := 3) (Nat.le_of_ble_eq_true rfl)
  rw [lg_entry_eq]
  generalize (lg_sl ([.int v0]) ++ List.replicate (3 - (lg_sl ([.int v0])).length) Slot.unset).toArray = ls at hl ⊢
  have hl : lv_has ls 3 [(0, .int v0)] := hl
  unfold wp_X8_ones at h
  refine lv_iconst (v := (nI 0)) hx hb dX8_ones_0 (by decide) ?_
  refine lv_istore_n (lv' := [(1, .int (nI 0)), (0, .int v0)]) hx hb dX8_ones_1 rfl hl (by decide) rfl (fun ls hl => ?_)
  refine lv_iconst (v := (nI 0)) hx hb dX8_ones_2 (by decide) ?_
  refine lv_istore_n (lv' := [(2, .int (nI 0)), (1, .int (nI 0)), (0, .int v0)]) hx hb dX8_ones_3 rfl hl (by decide) rfl (fun ls hl => ?_)
  obtain ⟨n6, h⟩ := h
  refine lp_P (nL := 3) (fun q => [(2, .int q.1), (1, .int q.2), (0, .int v0)]) h (lv_sub hl [0, 1, 2] rfl) (fun K4 ih4 q ls h hl => ?_)
  obtain ⟨i1, i2⟩ := q
  have h : wpb_X8_ones_4 v0 Post K4 i1 i2 := h
  have hl : lv_has ls 3 [(2, .int i1), (1, .int i2), (0, .int v0)] := hl
  unfold wpb_X8_ones_4 at h
  refine lv_iload_n hx hb dX8_ones_4 rfl (lv_at hl 0 rfl) ?_
  refine lv_bipush (v := (nI 12)) hx hb dX8_ones_5 (by decide) ?_
  refine lv_icmp_ge (tgt := 24) hx hb dX8_ones_7 (by decide) (fun c3 => ?_) (fun c3 => ?_)
  · have h := h.1 c3
    refine lv_iload_n hx hb dX8_ones_24 rfl (lv_at hl 1 rfl) ?_
    exact W.iret hx hb hr (fun t ht hW => ⟨i2, rfl, h, ht⟩) no_locs dX8_ones_25
  · have h := h.2 c3
    refine lv_iload_n hx hb dX8_ones_10 rfl (lv_at hl 1 rfl) ?_
    refine lv_iload_n hx hb dX8_ones_11 rfl (lv_at hl 2 rfl) ?_
    refine lv_iload_n hx hb dX8_ones_12 rfl (lv_at hl 0 rfl) ?_
    refine lv_ishr hx hb dX8_ones_13 ?_
    refine lv_iconst (v := (nI 1)) hx hb dX8_ones_14 (by decide) ?_
    refine lv_iand hx hb dX8_ones_15 ?_
    refine lv_iadd hx hb dX8_ones_16 ?_
    refine lv_topi (fun i4 ei4 => ?_)
    have h := h i4 ei4
    refine lv_istore_n (lv' := [(1, .int i4), (2, .int i1), (0, .int v0)]) hx hb dX8_ones_17 rfl hl (by decide) rfl (fun ls hl => ?_)
    obtain ⟨i5, ei5⟩ : ∃ y : Int32, y = i1 + (nI 1) := ⟨_, rfl⟩
    have h := h i5 ei5
    refine lv_iinc (v := i5) (lv' := [(2, .int i5), (1, .int i4), (0, .int v0)]) hx hb dX8_ones_18 hl (k := 1) rfl (by rw [ei5]; rfl) (by decide) rfl (fun ls hl => ?_)
    refine lv_goto (tgt := 4) hx hb dX8_ones_21 (by decide) ?_
    exact ih4 (i5, i4) _ h (lv_sub hl [0, 1, 2] rfl)
theorem hdS_X8_record : yX8_record.cls ≠ "java/lang/invoke/MethodHandle" ∧ yX8_record.cls ≠ "java/lang/invoke/VarHandle" ∧ (parseMethodDescriptor yX8_record.desc).map (fun d => d.parameters.length) = some 0 := by decide +kernel
set_option maxHeartbeats 4000000 in
set_option maxRecDepth 100000 in
theorem c_X8_record (l : Launch) (D : va_G) (Y : Nat → ClassId) (L : List Nat) (S : PS) (sz : Nat) (a0 : Nat) (Post : PS → Prop) (h : wp_X8_record S a0 Post) : Met l yX8_record wsX8_record ({ frames := 0, cells := 0, slots := 0, locals := 0 }) (va_Pc [.ref a0] (PrO D Y L S sz)) (va_Qv Post (QtO D Y (fR L sz)) (fR L sz)) 0 0 (fR L sz) := by
  refine Met.ofW (cc := cX8_record) (maxL := 2) (ret := none) (by decide) rfl ?_
  intro p e s m args below meth c s₁ B hml hv
  obtain ⟨rfl, hsz, hJ, hP, hK, hD0, hZ⟩ := hv
  have hx := B.exec
  have hb := B.bytes
  have hr := B.returns
  have hts := atoms_spec (ws := wsX8_record) B.pre
  have hown : s.vm.findClass RX8 = some m.cls := findClass_of_methodNamed B.named
  have hlocks := B.notSynchronized
  have CF : CallFix p m c cX8_record 2 s ([.ref a0] : List Value).toArray wsX8_record RX8 := ⟨hx, hb, hml, hown, hts⟩
  have C : CX p m c cX8_record 2 s ([.ref a0] : List Value).toArray wsX8_record RX8 D Y := ⟨CF, hK, hZ⟩
  have hO : HO D Y (fR L sz) s.heap S s.heap [] := HO.entry hsz hJ hP hD0
  subst hsz
  have inX8 : ∀ w ∈ wsX80, w ∈ wsX8_record := fun w h => List.mem_cons_of_mem _ (List.mem_append_right _ h)
  have hl := lv_entry ([.ref a0]) (n := 2) (Nat.le_of_ble_eq_true rfl)
  rw [lg_entry_eq]
  generalize (lg_sl ([.ref a0]) ++ List.replicate (2 - (lg_sl ([.ref a0])).length) Slot.unset).toArray = ls at hl ⊢
  have hl : lv_has ls 2 [(0, .ref a0)] := hl
  unfold wp_X8_record at h
  refine lv_aload_n hx hb dX8_record_0 rfl (lv_at hl 0 rfl) ?_
  obtain ⟨fs1, i2, e3, e3', h⟩ := h
  refine r_get C hO 6 2 rfl inX8 (Nat.le_of_ble_eq_true rfl) e3 e3' (List.mem_of_getElem? (i := 1) (by decide +kernel)) dX8_record_1 ?_
  refine lv_bipush (v := (nI 6)) hx hb dX8_record_4 (by decide) ?_
  refine cut_W D Y (fR L s.heap.size) s.heap (nL := 2) (fun (q : PS) => wpk_X8_record_50 a0 Post q) (fun q => [(0, .ref a0)]) (fun q => q) 50 ?_ (fun kc50 => ?_)
  · intro q ls H locs h hl hO
    obtain ⟨S4, rfl⟩ : ∃ z, z = q := ⟨q, rfl⟩
    have h : wpk_X8_record_50 a0 Post S4 := h
    have hl : lv_has ls 2 [(0, .ref a0)] := hl
    have hO : HO D Y (fR L s.heap.size) s.heap S4 H locs := hO
    unfold wpk_X8_record_50 at h
    refine lv_iconst (v := (nI 0)) hx hb dX8_record_50 (by decide) ?_
    refine lv_istore_n (lv' := [(1, .int (nI 0)), (0, .ref a0)]) hx hb dX8_record_51 rfl hl (by decide) rfl (fun ls hl => ?_)
    obtain ⟨n32, h⟩ := h
    refine lp_W (nL := 2) (fun q => [(1, .int q.1), (0, .ref a0)]) (fun q => q.2) h (lv_sub hl [0, 1] rfl) hO (fun K52 ih52 q ls H locs h hl hO => ?_)
    obtain ⟨i5, S6⟩ := q
    have h : wpb_X8_record_52 a0 Post K52 i5 S6 := h
    have hl : lv_has ls 2 [(1, .int i5), (0, .ref a0)] := hl
    have hO : HO D Y (fR L s.heap.size) s.heap S6 H locs := hO
    unfold wpb_X8_record_52 at h
    refine lv_iload_n hx hb dX8_record_52 rfl (lv_at hl 0 rfl) ?_
    refine lv_sipush (v := (nI 194)) hx hb dX8_record_53 (by decide) ?_
    refine lv_icmp_ge (tgt := 86) hx hb dX8_record_56 (by decide) (fun c7 => ?_) (fun c7 => ?_)
    · have h := h.1 c7
      refine lv_aload_n hx hb dX8_record_86 rfl (lv_at hl 1 rfl) ?_
      refine lv_dup hx hb dX8_record_87 rfl ?_
      obtain ⟨fs8, i9, e10, e10', h⟩ := h
      refine r_get C hO 6 2 rfl inX8 (Nat.le_of_ble_eq_true rfl) e10 e10' (List.mem_of_getElem? (i := 1) (by decide +kernel)) dX8_record_88 ?_
      refine lv_iconst (v := (nI 1)) hx hb dX8_record_91 (by decide) ?_
      refine lv_iadd hx hb dX8_record_92 ?_
      obtain ⟨fs11, e12, e12', h⟩ := h
      refine r_put C hO 6 2 rfl inX8 tyX8_ok nmX8 (Nat.le_of_ble_eq_true rfl) rfl rfl rfl e12 e12' (List.mem_of_getElem? (i := 1) (by decide +kernel)) dX8_record_93 (fun H locs hO => ?_)
      obtain ⟨S13, eS13⟩ : ∃ Sx, Sx = va_up S6 a0 (.inl (6, fs11.set 2 (.int (i9 + (nI 1))))) := ⟨_, rfl⟩
      rw [← eS13] at hO
      have h := h S13 eS13
      exact W.vret hx hb hr (fun t ht hW => ⟨⟨S13, rfl, h, hO.q ht⟩, hO.f ht⟩) hO.lc dX8_record_96
    · have h := h.2 c7
      refine lv_aload_n hx hb dX8_record_59 rfl (lv_at hl 1 rfl) ?_
      obtain ⟨fs14, a15, e16, e16', h⟩ := h
      refine r_get C hO 6 1 rfl inX8 (Nat.le_of_ble_eq_true rfl) e16 e16' (List.mem_of_getElem? (i := 2) (by decide +kernel)) dX8_record_60 ?_
      refine lv_aload_n hx hb dX8_record_63 rfl (lv_at hl 1 rfl) ?_
      obtain ⟨fs17, i18, e19, e19', h⟩ := h
      refine r_get C hO 6 2 rfl inX8 (Nat.le_of_ble_eq_true rfl) e19 e19' (List.mem_of_getElem? (i := 1) (by decide +kernel)) dX8_record_64 ?_
      refine lv_sipush (v := (nI 194)) hx hb dX8_record_67 (by decide) ?_
      refine lv_imul hx hb dX8_record_70 ?_
      refine lv_iload_n hx hb dX8_record_71 rfl (lv_at hl 0 rfl) ?_
      refine lv_iadd hx hb dX8_record_72 ?_
      refine lv_aload_n hx hb dX8_record_73 rfl (lv_at hl 1 rfl) ?_
      obtain ⟨fs20, a21, e22, e22', h⟩ := h
      refine r_get C hO 6 0 rfl inX8 (Nat.le_of_ble_eq_true rfl) e22 e22' (List.mem_of_getElem? (i := 3) (by decide +kernel)) dX8_record_74 ?_
      refine lv_iload_n hx hb dX8_record_77 rfl (lv_at hl 0 rfl) ?_
      obtain ⟨n23, f24, i26, e25, e25', exi26, h⟩ := h
      refine r_iald C hO e25 e25' dX8_record_78 ?_
      rw [exi26]
      obtain ⟨n27, f28, e29, e29', h⟩ := h
      refine r_iast C hO e29 e29' dX8_record_79 (fun H locs hO => ?_)
      obtain ⟨S30, eS30⟩ : ∃ Sx, Sx = va_up S6 a15 (aI n27 (upd f28 (((i18 * (nI 194)) + i5)).toNatClampNeg i26)) := ⟨_, rfl⟩
      rw [← eS30] at hO
      have h := h S30 eS30
      obtain ⟨i31, ei31⟩ : ∃ y : Int32, y = i5 + (nI 1) := ⟨_, rfl⟩
      have h := h i31 ei31
      refine lv_iinc (v := i31) (lv' := [(1, .int i31), (0, .ref a0)]) hx hb dX8_record_80 hl (k := 0) rfl (by rw [ei31]; rfl) (by decide) rfl (fun ls hl => ?_)
      refine lv_goto (tgt := 52) hx hb dX8_record_83 (by decide) ?_
      exact ih52 (i31, S30) _ _ _ h (lv_sub hl [0, 1] rfl) hO
  refine lv_icmp_ne (tgt := 50) hx hb dX8_record_6 (by decide) (fun c33 => ?_) (fun c33 => ?_)
  · have h := h.2 c33
    exact kc50 S _ _ _ h (lv_sub hl [0] rfl) hO
  · have h := h.1 c33
    refine lv_iconst (v := (nI 0)) hx hb dX8_record_9 (by decide) ?_
    refine lv_istore_n (lv' := [(1, .int (nI 0)), (0, .ref a0)]) hx hb dX8_record_10 rfl hl (by decide) rfl (fun ls hl => ?_)
    obtain ⟨n58, h⟩ := h
    refine lp_W (nL := 2) (fun q => [(1, .int q.1), (0, .ref a0)]) (fun q => q.2) h (lv_sub hl [0, 1] rfl) hO (fun K11 ih11 q ls H locs h hl hO => ?_)
    obtain ⟨i34, S35⟩ := q
    have h : wpb_X8_record_11 a0 Post K11 i34 S35 := h
    have hl : lv_has ls 2 [(1, .int i34), (0, .ref a0)] := hl
    have hO : HO D Y (fR L s.heap.size) s.heap S35 H locs := hO
    unfold wpb_X8_record_11 at h
    refine lv_iload_n hx hb dX8_record_11 rfl (lv_at hl 0 rfl) ?_
    refine lv_sipush (v := (nI 970)) hx hb dX8_record_12 (by decide) ?_
    refine lv_icmp_ge (tgt := 40) hx hb dX8_record_15 (by decide) (fun c36 => ?_) (fun c36 => ?_)
    · have h := h.1 c36
      refine lv_aload_n hx hb dX8_record_40 rfl (lv_at hl 1 rfl) ?_
      refine lv_dup hx hb dX8_record_41 rfl ?_
      obtain ⟨fs37, i38, e39, e39', h⟩ := h
      refine r_get C hO 6 2 rfl inX8 (Nat.le_of_ble_eq_true rfl) e39 e39' (List.mem_of_getElem? (i := 1) (by decide +kernel)) dX8_record_42 ?_
      refine lv_iconst (v := (nI 1)) hx hb dX8_record_45 (by decide) ?_
      refine lv_isub hx hb dX8_record_46 ?_
      obtain ⟨fs40, e41, e41', h⟩ := h
      refine r_put C hO 6 2 rfl inX8 tyX8_ok nmX8 (Nat.le_of_ble_eq_true rfl) rfl rfl rfl e41 e41' (List.mem_of_getElem? (i := 1) (by decide +kernel)) dX8_record_47 (fun H locs hO => ?_)
      obtain ⟨S42, eS42⟩ : ∃ Sx, Sx = va_up S35 a0 (.inl (6, fs40.set 2 (.int (i38 - (nI 1))))) := ⟨_, rfl⟩
      rw [← eS42] at hO
      have h := h S42 eS42
      exact kc50 S42 _ _ _ h (lv_sub hl [1] rfl) hO
    · have h := h.2 c36
      refine lv_aload_n hx hb dX8_record_18 rfl (lv_at hl 1 rfl) ?_
      obtain ⟨fs43, a44, e45, e45', h⟩ := h
      refine r_get C hO 6 1 rfl inX8 (Nat.le_of_ble_eq_true rfl) e45 e45' (List.mem_of_getElem? (i := 2) (by decide +kernel)) dX8_record_19 ?_
      refine lv_iload_n hx hb dX8_record_22 rfl (lv_at hl 0 rfl) ?_
      refine lv_aload_n hx hb dX8_record_23 rfl (lv_at hl 1 rfl) ?_
      obtain ⟨fs46, a47, e48, e48', h⟩ := h
      refine r_get C hO 6 1 rfl inX8 (Nat.le_of_ble_eq_true rfl) e48 e48' (List.mem_of_getElem? (i := 2) (by decide +kernel)) dX8_record_24 ?_
      refine lv_iload_n hx hb dX8_record_27 rfl (lv_at hl 0 rfl) ?_
      refine lv_sipush (v := (nI 194)) hx hb dX8_record_28 (by decide) ?_
      refine lv_iadd hx hb dX8_record_31 ?_
      obtain ⟨n49, f50, i52, e51, e51', exi52, h⟩ := h
      refine r_iald C hO e51 e51' dX8_record_32 ?_
      rw [exi52]
      obtain ⟨n53, f54, e55, e55', h⟩ := h
      refine r_iast C hO e55 e55' dX8_record_33 (fun H locs hO => ?_)
      obtain ⟨S56, eS56⟩ : ∃ Sx, Sx = va_up S35 a44 (aI n53 (upd f54 (i34).toNatClampNeg i52)) := ⟨_, rfl⟩
      rw [← eS56] at hO
      have h := h S56 eS56
      obtain ⟨i57, ei57⟩ : ∃ y : Int32, y = i34 + (nI 1) := ⟨_, rfl⟩
      have h := h i57 ei57
      refine lv_iinc (v := i57) (lv' := [(1, .int i57), (0, .ref a0)]) hx hb dX8_record_34 hl (k := 0) rfl (by rw [ei57]; rfl) (by decide) rfl (fun ls hl => ?_)
      refine lv_goto (tgt := 11) hx hb dX8_record_37 (by decide) ?_
      exact ih11 (i57, S56) _ _ _ h (lv_sub hl [0, 1] rfl) hO
theorem hdS_X8_undo : yX8_undo.cls ≠ "java/lang/invoke/MethodHandle" ∧ yX8_undo.cls ≠ "java/lang/invoke/VarHandle" ∧ (parseMethodDescriptor yX8_undo.desc).map (fun d => d.parameters.length) = some 0 := by decide +kernel
set_option maxHeartbeats 4000000 in
set_option maxRecDepth 100000 in
theorem c_X8_undo (l : Launch) (D : va_G) (Y : Nat → ClassId) (L : List Nat) (S : PS) (sz : Nat) (a0 : Nat) (Post : Int32 → PS → Prop) (h : wp_X8_undo S a0 Post) : Met l yX8_undo wsX8_undo ({ frames := 0, cells := 0, slots := 0, locals := 0 }) (va_Pc [.ref a0] (PrO D Y L S sz)) (va_Qi Post (QtO D Y (fR L sz)) (fR L sz)) 0 0 (fR L sz) := by
  refine Met.ofW (cc := cX8_undo) (maxL := 2) (ret := (some .int)) (by decide) rfl ?_
  intro p e s m args below meth c s₁ B hml hv
  obtain ⟨rfl, hsz, hJ, hP, hK, hD0, hZ⟩ := hv
  have hx := B.exec
  have hb := B.bytes
  have hr := B.returns
  have hts := atoms_spec (ws := wsX8_undo) B.pre
  have hown : s.vm.findClass RX8 = some m.cls := findClass_of_methodNamed B.named
  have hlocks := B.notSynchronized
  have CF : CallFix p m c cX8_undo 2 s ([.ref a0] : List Value).toArray wsX8_undo RX8 := ⟨hx, hb, hml, hown, hts⟩
  have C : CX p m c cX8_undo 2 s ([.ref a0] : List Value).toArray wsX8_undo RX8 D Y := ⟨CF, hK, hZ⟩
  have hO : HO D Y (fR L sz) s.heap S s.heap [] := HO.entry hsz hJ hP hD0
  subst hsz
  have inX8 : ∀ w ∈ wsX80, w ∈ wsX8_undo := fun w h => List.mem_cons_of_mem _ (List.mem_append_right _ h)
  have hl := lv_entry ([.ref a0]) (n := 2) (Nat.le_of_ble_eq_true rfl)
  rw [lg_entry_eq]
  generalize (lg_sl ([.ref a0]) ++ List.replicate (2 - (lg_sl ([.ref a0])).length) Slot.unset).toArray = ls at hl ⊢
  have hl : lv_has ls 2 [(0, .ref a0)] := hl
  unfold wp_X8_undo at h
  refine lv_aload_n hx hb dX8_undo_0 rfl (lv_at hl 0 rfl) ?_
  obtain ⟨fs1, i2, e3, e3', h⟩ := h
  refine r_get C hO 6 2 rfl inX8 (Nat.le_of_ble_eq_true rfl) e3 e3' (List.mem_of_getElem? (i := 1) (by decide +kernel)) dX8_undo_1 ?_
  refine lv_if_ne (tgt := 10) hx hb dX8_undo_4 (by decide) (fun c4 => ?_) (fun c4 => ?_)
  · have h := h.2 c4
    refine lv_aload_n hx hb dX8_undo_10 rfl (lv_at hl 0 rfl) ?_
    refine lv_dup hx hb dX8_undo_11 rfl ?_
    obtain ⟨fs5, i6, e7, e7', h⟩ := h
    refine r_get C hO 6 2 rfl inX8 (Nat.le_of_ble_eq_true rfl) e7 e7' (List.mem_of_getElem? (i := 1) (by decide +kernel)) dX8_undo_12 ?_
    refine lv_iconst (v := (nI 1)) hx hb dX8_undo_15 (by decide) ?_
    refine lv_isub hx hb dX8_undo_16 ?_
    obtain ⟨fs8, e9, e9', h⟩ := h
    refine r_put C hO 6 2 rfl inX8 tyX8_ok nmX8 (Nat.le_of_ble_eq_true rfl) rfl rfl rfl e9 e9' (List.mem_of_getElem? (i := 1) (by decide +kernel)) dX8_undo_17 (fun H locs hO => ?_)
    obtain ⟨S10, eS10⟩ : ∃ Sx, Sx = va_up S a0 (.inl (6, fs8.set 2 (.int (i6 - (nI 1))))) := ⟨_, rfl⟩
    rw [← eS10] at hO
    have h := h S10 eS10
    refine lv_iconst (v := (nI 0)) hx hb dX8_undo_20 (by decide) ?_
    refine lv_istore_n (lv' := [(1, .int (nI 0)), (0, .ref a0)]) hx hb dX8_undo_21 rfl hl (by decide) rfl (fun ls hl => ?_)
    obtain ⟨n35, h⟩ := h
    refine lp_W (nL := 2) (fun q => [(1, .int q.1), (0, .ref a0)]) (fun q => q.2) h (lv_sub hl [0, 1] rfl) hO (fun K22 ih22 q ls H locs h hl hO => ?_)
    obtain ⟨i11, S12⟩ := q
    have h : wpb_X8_undo_22 a0 Post K22 i11 S12 := h
    have hl : lv_has ls 2 [(1, .int i11), (0, .ref a0)] := hl
    have hO : HO D Y (fR L s.heap.size) s.heap S12 H locs := hO
    unfold wpb_X8_undo_22 at h
    refine lv_iload_n hx hb dX8_undo_22 rfl (lv_at hl 0 rfl) ?_
    refine lv_sipush (v := (nI 194)) hx hb dX8_undo_23 (by decide) ?_
    refine lv_icmp_ge (tgt := 56) hx hb dX8_undo_26 (by decide) (fun c13 => ?_) (fun c13 => ?_)
    · have h := h.1 c13
      refine lv_aload_n hx hb dX8_undo_56 rfl (lv_at hl 1 rfl) ?_
      obtain ⟨fs14, i15, e16, e16', h⟩ := h
      refine r_get C hO 6 2 rfl inX8 (Nat.le_of_ble_eq_true rfl) e16 e16' (List.mem_of_getElem? (i := 1) (by decide +kernel)) dX8_undo_57 ?_
      exact W.iret hx hb hr (fun t ht hW => ⟨⟨i15, S12, rfl, h, hO.q ht⟩, hO.f ht⟩) hO.lc dX8_undo_60
    · have h := h.2 c13
      refine lv_aload_n hx hb dX8_undo_29 rfl (lv_at hl 1 rfl) ?_
      obtain ⟨fs17, a18, e19, e19', h⟩ := h
      refine r_get C hO 6 0 rfl inX8 (Nat.le_of_ble_eq_true rfl) e19 e19' (List.mem_of_getElem? (i := 2) (by decide +kernel)) dX8_undo_30 ?_
      refine lv_iload_n hx hb dX8_undo_33 rfl (lv_at hl 0 rfl) ?_
      refine lv_aload_n hx hb dX8_undo_34 rfl (lv_at hl 1 rfl) ?_
      obtain ⟨fs20, a21, e22, e22', h⟩ := h
      refine r_get C hO 6 1 rfl inX8 (Nat.le_of_ble_eq_true rfl) e22 e22' (List.mem_of_getElem? (i := 3) (by decide +kernel)) dX8_undo_35 ?_
      refine lv_aload_n hx hb dX8_undo_38 rfl (lv_at hl 1 rfl) ?_
      obtain ⟨fs23, i24, e25, e25', h⟩ := h
      refine r_get C hO 6 2 rfl inX8 (Nat.le_of_ble_eq_true rfl) e25 e25' (List.mem_of_getElem? (i := 1) (by decide +kernel)) dX8_undo_39 ?_
      refine lv_sipush (v := (nI 194)) hx hb dX8_undo_42 (by decide) ?_
      refine lv_imul hx hb dX8_undo_45 ?_
      refine lv_iload_n hx hb dX8_undo_46 rfl (lv_at hl 0 rfl) ?_
      refine lv_iadd hx hb dX8_undo_47 ?_
      obtain ⟨n26, f27, i29, e28, e28', exi29, h⟩ := h
      refine r_iald C hO e28 e28' dX8_undo_48 ?_
      rw [exi29]
      obtain ⟨n30, f31, e32, e32', h⟩ := h
      refine r_iast C hO e32 e32' dX8_undo_49 (fun H locs hO => ?_)
      obtain ⟨S33, eS33⟩ : ∃ Sx, Sx = va_up S12 a18 (aI n30 (upd f31 (i11).toNatClampNeg i29)) := ⟨_, rfl⟩
      rw [← eS33] at hO
      have h := h S33 eS33
      obtain ⟨i34, ei34⟩ : ∃ y : Int32, y = i11 + (nI 1) := ⟨_, rfl⟩
      have h := h i34 ei34
      refine lv_iinc (v := i34) (lv' := [(1, .int i34), (0, .ref a0)]) hx hb dX8_undo_50 hl (k := 0) rfl (by rw [ei34]; rfl) (by decide) rfl (fun ls hl => ?_)
      refine lv_goto (tgt := 22) hx hb dX8_undo_53 (by decide) ?_
      exact ih22 (i34, S33) _ _ _ h (lv_sub hl [0, 1] rfl) hO
  · have h := h.1 c4
    refine lv_bipush (v := (-5 : Int32)) hx hb dX8_undo_7 (by decide) ?_
    exact W.iret hx hb hr (fun t ht hW => ⟨⟨(-5 : Int32), S, rfl, h, hO.q ht⟩, hO.f ht⟩) hO.lc dX8_undo_9
theorem hdS_X8_atHome : yX8_atHome.cls ≠ "java/lang/invoke/MethodHandle" ∧ yX8_atHome.cls ≠ "java/lang/invoke/VarHandle" ∧ (parseMethodDescriptor yX8_atHome.desc).map (fun d => d.parameters.length) = some 0 := by decide +kernel
set_option maxHeartbeats 4000000 in
set_option maxRecDepth 100000 in
theorem c_X8_atHome (l : Launch) (D : va_G) (Y : Nat → ClassId) (L : List Nat) (S : PS) (sz : Nat) (a0 : Nat) (Post : Int32 → Prop) (h : wp_X8_atHome S a0 Post) : Met l yX8_atHome wsX8_atHome ({ frames := 0, cells := 0, slots := 0, locals := 0 }) (va_Pc [.ref a0] (PrO D Y L S sz)) (vp_Si Post) 0 0 (fun _ => False) := by
  refine Met.ofW (cc := cX8_atHome) (maxL := 3) (ret := (some .int)) (by decide) rfl ?_
  intro p e s m args below meth c s₁ B hml hv
  obtain ⟨rfl, hsz, hJ, hP, hK, hD0, hZ⟩ := hv
  have hx := B.exec
  have hb := B.bytes
  have hr := B.returns
  have hts := atoms_spec (ws := wsX8_atHome) B.pre
  have hown : s.vm.findClass RX8 = some m.cls := findClass_of_methodNamed B.named
  have hlocks := B.notSynchronized
  have CF : CallFix p m c cX8_atHome 3 s ([.ref a0] : List Value).toArray wsX8_atHome RX8 := ⟨hx, hb, hml, hown, hts⟩
  have C : CX p m c cX8_atHome 3 s ([.ref a0] : List Value).toArray wsX8_atHome RX8 D Y := ⟨CF, hK, hZ⟩
  have hO : HO D Y (fR L sz) s.heap S s.heap [] := HO.entry hsz hJ hP hD0
  subst hsz
  have inX8 : ∀ w ∈ wsX80, w ∈ wsX8_atHome := fun w h => List.mem_cons_of_mem _ (List.mem_append_right _ h)
  have hl := lv_entry ([.ref a0]) (n := 3) (Nat.le_of_ble_eq_true rfl)
  rw [lg_entry_eq]
  generalize (lg_sl ([.ref a0]) ++ List.replicate (3 - (lg_sl ([.ref a0])).length) Slot.unset).toArray = ls at hl ⊢
  have hl : lv_has ls 3 [(0, .ref a0)] := hl
  unfold wp_X8_atHome at h
  refine lv_iconst (v := (nI 0)) hx hb dX8_atHome_0 (by decide) ?_
  refine lv_istore_n (lv' := [(1, .int (nI 0)), (0, .ref a0)]) hx hb dX8_atHome_1 rfl hl (by decide) rfl (fun ls hl => ?_)
  refine lv_iconst (v := (nI 0)) hx hb dX8_atHome_2 (by decide) ?_
  refine lv_istore_n (lv' := [(2, .int (nI 0)), (1, .int (nI 0)), (0, .ref a0)]) hx hb dX8_atHome_3 rfl hl (by decide) rfl (fun ls hl => ?_)
  obtain ⟨n16, h⟩ := h
  refine lp_P (nL := 3) (fun q => [(2, .int q.1), (1, .int q.2), (0, .ref a0)]) h (lv_sub hl [0, 1, 2] rfl) (fun K4 ih4 q ls h hl => ?_)
  obtain ⟨i1, i2⟩ := q
  have h : wpb_X8_atHome_4 S a0 Post K4 i1 i2 := h
  have hl : lv_has ls 3 [(2, .int i1), (1, .int i2), (0, .ref a0)] := hl
  unfold wpb_X8_atHome_4 at h
  refine lv_iload_n hx hb dX8_atHome_4 rfl (lv_at hl 0 rfl) ?_
  refine lv_bipush (v := (nI 12)) hx hb dX8_atHome_5 (by decide) ?_
  refine lv_icmp_ge (tgt := 37) hx hb dX8_atHome_7 (by decide) (fun c3 => ?_) (fun c3 => ?_)
  · have h := h.1 c3
    refine lv_iload_n hx hb dX8_atHome_37 rfl (lv_at hl 1 rfl) ?_
    exact W.iret hx hb hr (fun t ht hW => ⟨i2, rfl, h, ht⟩) no_locs dX8_atHome_38
  · have h := h.2 c3
    refine lv_iload_n hx hb dX8_atHome_10 rfl (lv_at hl 1 rfl) ?_
    refine lv_aload_n hx hb dX8_atHome_11 rfl (lv_at hl 2 rfl) ?_
    obtain ⟨fs4, a5, e6, e6', h⟩ := h
    refine r_get C hO 6 0 rfl inX8 (Nat.le_of_ble_eq_true rfl) e6 e6' (List.mem_of_getElem? (i := 1) (by decide +kernel)) dX8_atHome_12 ?_
    refine lv_bipush (v := (nI 18)) hx hb dX8_atHome_15 (by decide) ?_
    refine lv_iload_n hx hb dX8_atHome_17 rfl (lv_at hl 0 rfl) ?_
    refine lv_iadd hx hb dX8_atHome_18 ?_
    obtain ⟨n7, f8, i10, e9, e9', exi10, h⟩ := h
    refine r_iald C hO e9 e9' dX8_atHome_19 ?_
    rw [exi10]
    refine lv_iload_n hx hb dX8_atHome_20 rfl (lv_at hl 0 rfl) ?_
    refine lv_icmp_ne (tgt := 28) hx hb dX8_atHome_21 (by decide) (fun c11 => ?_) (fun c11 => ?_)
    · have h := h.2 c11
      refine lv_iconst (v := (nI 0)) hx hb dX8_atHome_28 (by decide) ?_
      refine lv_iadd hx hb dX8_atHome_29 ?_
      refine lv_topi (fun i12 ei12 => ?_)
      have h := h i12 ei12
      refine lv_istore_n (lv' := [(1, .int i12), (2, .int i1), (0, .ref a0)]) hx hb dX8_atHome_30 rfl hl (by decide) rfl (fun ls hl => ?_)
      obtain ⟨i13, ei13⟩ : ∃ y : Int32, y = i1 + (nI 1) := ⟨_, rfl⟩
      have h := h i13 ei13
      refine lv_iinc (v := i13) (lv' := [(2, .int i13), (1, .int i12), (0, .ref a0)]) hx hb dX8_atHome_31 hl (k := 1) rfl (by rw [ei13]; rfl) (by decide) rfl (fun ls hl => ?_)
      refine lv_goto (tgt := 4) hx hb dX8_atHome_34 (by decide) ?_
      exact ih4 (i13, i12) _ h (lv_sub hl [0, 1, 2] rfl)
    · have h := h.1 c11
      refine lv_iconst (v := (nI 1)) hx hb dX8_atHome_24 (by decide) ?_
      refine lv_goto (tgt := 29) hx hb dX8_atHome_25 (by decide) ?_
      refine lv_iadd hx hb dX8_atHome_29 ?_
      refine lv_topi (fun i14 ei14 => ?_)
      have h := h i14 ei14
      refine lv_istore_n (lv' := [(1, .int i14), (2, .int i1), (0, .ref a0)]) hx hb dX8_atHome_30 rfl hl (by decide) rfl (fun ls hl => ?_)
      obtain ⟨i15, ei15⟩ : ∃ y : Int32, y = i1 + (nI 1) := ⟨_, rfl⟩
      have h := h i15 ei15
      refine lv_iinc (v := i15) (lv' := [(2, .int i15), (1, .int i14), (0, .ref a0)]) hx hb dX8_atHome_31 hl (k := 1) rfl (by rw [ei15]; rfl) (by decide) rfl (fun ls hl => ?_)
      refine lv_goto (tgt := 4) hx hb dX8_atHome_34 (by decide) ?_
      exact ih4 (i15, i14) _ h (lv_sub hl [0, 1, 2] rfl)
theorem hdS_X8_save : yX8_save.cls ≠ "java/lang/invoke/MethodHandle" ∧ yX8_save.cls ≠ "java/lang/invoke/VarHandle" ∧ (parseMethodDescriptor yX8_save.desc).map (fun d => d.parameters.length) = some 1 := by decide +kernel
set_option maxHeartbeats 4000000 in
set_option maxRecDepth 100000 in
theorem c_X8_save (l : Launch) (D : va_G) (Y : Nat → ClassId) (L : List Nat) (S : PS) (sz : Nat) (a0 : Nat) (v1 : Int32) (Post : Int32 → PS → Prop) (h : wp_X8_save S a0 v1 Post) : Met l yX8_save wsX8_save ({ frames := 1, cells := 0, slots := 0, locals := 22 }) (va_Pc [.ref a0, .int v1] (PrO D Y L S sz)) (va_Qi Post (QtO D Y (fR L sz)) (fR L sz)) 0 0 (fR L sz) := by
  refine Met.ofW (cc := cX8_save) (maxL := 3) (ret := (some .int)) (by decide) rfl ?_
  intro p e s m args below meth c s₁ B hml hv
  obtain ⟨rfl, hsz, hJ, hP, hK, hD0, hZ⟩ := hv
  have hx := B.exec
  have hb := B.bytes
  have hr := B.returns
  have hts := atoms_spec (ws := wsX8_save) B.pre
  have hown : s.vm.findClass RX8 = some m.cls := findClass_of_methodNamed B.named
  have hlocks := B.notSynchronized
  have CF : CallFix p m c cX8_save 3 s ([.ref a0, .int v1] : List Value).toArray wsX8_save RX8 := ⟨hx, hb, hml, hown, hts⟩
  have C : CX p m c cX8_save 3 s ([.ref a0, .int v1] : List Value).toArray wsX8_save RX8 D Y := ⟨CF, hK, hZ⟩
  have hO : HO D Y (fR L sz) s.heap S s.heap [] := HO.entry hsz hJ hP hD0
  subst hsz
  have inX8 : ∀ w ∈ wsX80, w ∈ wsX8_save := fun w h => List.mem_cons_of_mem _ (List.mem_append_right _ h)
  have hl := lv_entry ([.ref a0, .int v1]) (n := 3) (Nat.le_of_ble_eq_true rfl)
  rw [lg_entry_eq]
  generalize (lg_sl ([.ref a0, .int v1]) ++ List.replicate (3 - (lg_sl ([.ref a0, .int v1])).length) Slot.unset).toArray = ls at hl ⊢
  have hl : lv_has ls 3 [(0, .ref a0), (1, .int v1)] := hl
  unfold wp_X8_save at h
  refine lv_iload_n hx hb dX8_save_0 rfl (lv_at hl 1 rfl) ?_
  refine lv_iconst (v := (nI 0)) hx hb dX8_save_1 (by decide) ?_
  refine lv_iconst (v := (nI 1)) hx hb dX8_save_2 (by decide) ?_
  refine cS_si (As := [.int v1, .int (nI 0), .int (nI 1)]) (rest := []) (n := 3) CF hZ (c_X8_within l v1 (nI 0) (nI 1) _ h) (va_cwS 3 hts gX8_save_X8_within rfl rfl rfl hdS_X8_within ⟨Nat.le_of_ble_eq_true rfl, Nat.le_of_ble_eq_true rfl⟩) rfl hl.1 rfl (Nat.le_of_ble_eq_true rfl) dX8_save_3 ⟨Nat.le_of_ble_eq_true rfl, Nat.le_of_ble_eq_true rfl⟩ (fun i1 h => ?_)
  refine lv_if_ne (tgt := 12) hx hb dX8_save_6 (by decide) (fun c2 => ?_) (fun c2 => ?_)
  · have h := h.2 c2
    refine lv_iconst (v := (nI 0)) hx hb dX8_save_12 (by decide) ?_
    refine lv_istore_n (lv' := [(2, .int (nI 0)), (0, .ref a0), (1, .int v1)]) hx hb dX8_save_13 rfl hl (by decide) rfl (fun ls hl => ?_)
    obtain ⟨n31, h⟩ := h
    refine lp_W (nL := 3) (fun q => [(2, .int q.1), (0, .ref a0), (1, .int v1)]) (fun q => q.2) h (lv_sub hl [0, 1, 2] rfl) hO (fun K14 ih14 q ls H locs h hl hO => ?_)
    obtain ⟨i3, S4⟩ := q
    have h : wpb_X8_save_14 a0 v1 Post K14 i3 S4 := h
    have hl : lv_has ls 3 [(2, .int i3), (0, .ref a0), (1, .int v1)] := hl
    have hO : HO D Y (fR L s.heap.size) s.heap S4 H locs := hO
    unfold wpb_X8_save_14 at h
    refine lv_iload_n hx hb dX8_save_14 rfl (lv_at hl 0 rfl) ?_
    refine lv_sipush (v := (nI 194)) hx hb dX8_save_15 (by decide) ?_
    refine lv_icmp_ge (tgt := 45) hx hb dX8_save_18 (by decide) (fun c5 => ?_) (fun c5 => ?_)
    · have h := h.1 c5
      refine lv_aload_n hx hb dX8_save_45 rfl (lv_at hl 1 rfl) ?_
      obtain ⟨fs6, a7, e8, e8', h⟩ := h
      refine r_get C hO 6 4 rfl inX8 (Nat.le_of_ble_eq_true rfl) e8 e8' (List.mem_of_getElem? (i := 3) (by decide +kernel)) dX8_save_46 ?_
      refine lv_iload_n hx hb dX8_save_49 rfl (lv_at hl 2 rfl) ?_
      refine lv_iconst (v := (nI 1)) hx hb dX8_save_50 (by decide) ?_
      obtain ⟨n9, f10, e11, e11', h⟩ := h
      refine r_iast C hO e11 e11' dX8_save_51 (fun H locs hO => ?_)
      obtain ⟨S12, eS12⟩ : ∃ Sx, Sx = va_up S4 a7 (aI n9 (upd f10 (v1).toNatClampNeg (nI 1))) := ⟨_, rfl⟩
      rw [← eS12] at hO
      have h := h S12 eS12
      refine lv_aload_n hx hb dX8_save_52 rfl (lv_at hl 1 rfl) ?_
      obtain ⟨fs15, e14, h⟩ := h
      refine cV_ri (As := []) (rest := []) (n := 0) C hO (fun L => c_X8_atHome l D Y L S12 H.size a0 _ h) 6 rfl e14 (cwV 0 hts gX8_save_X8_atHome rfl rfl rfl ⟨rfl, hdS_X8_atHome⟩ ⟨Nat.le_of_ble_eq_true rfl, Nat.le_of_ble_eq_true rfl⟩) rfl hl.1 rfl (Nat.le_of_ble_eq_true rfl) dX8_save_53 ⟨Nat.le_of_ble_eq_true rfl, Nat.le_of_ble_eq_true rfl⟩ (fun i13 h => ?_)
      exact W.iret hx hb hr (fun t ht hW => ⟨⟨i13, S12, rfl, h, hO.q ht⟩, hO.f ht⟩) hO.lc dX8_save_56
    · have h := h.2 c5
      refine lv_aload_n hx hb dX8_save_21 rfl (lv_at hl 1 rfl) ?_
      obtain ⟨fs16, a17, e18, e18', h⟩ := h
      refine r_get C hO 6 3 rfl inX8 (Nat.le_of_ble_eq_true rfl) e18 e18' (List.mem_of_getElem? (i := 1) (by decide +kernel)) dX8_save_22 ?_
      refine lv_sipush (v := (nI 194)) hx hb dX8_save_25 (by decide) ?_
      refine lv_iload_n hx hb dX8_save_28 rfl (lv_at hl 2 rfl) ?_
      refine lv_imul hx hb dX8_save_29 ?_
      refine lv_iload_n hx hb dX8_save_30 rfl (lv_at hl 0 rfl) ?_
      refine lv_iadd hx hb dX8_save_31 ?_
      refine lv_aload_n hx hb dX8_save_32 rfl (lv_at hl 1 rfl) ?_
      obtain ⟨fs19, a20, e21, e21', h⟩ := h
      refine r_get C hO 6 0 rfl inX8 (Nat.le_of_ble_eq_true rfl) e21 e21' (List.mem_of_getElem? (i := 2) (by decide +kernel)) dX8_save_33 ?_
      refine lv_iload_n hx hb dX8_save_36 rfl (lv_at hl 0 rfl) ?_
      obtain ⟨n22, f23, i25, e24, e24', exi25, h⟩ := h
      refine r_iald C hO e24 e24' dX8_save_37 ?_
      rw [exi25]
      obtain ⟨n26, f27, e28, e28', h⟩ := h
      refine r_iast C hO e28 e28' dX8_save_38 (fun H locs hO => ?_)
      obtain ⟨S29, eS29⟩ : ∃ Sx, Sx = va_up S4 a17 (aI n26 (upd f27 ((((nI 194) * v1) + i3)).toNatClampNeg i25)) := ⟨_, rfl⟩
      rw [← eS29] at hO
      have h := h S29 eS29
      obtain ⟨i30, ei30⟩ : ∃ y : Int32, y = i3 + (nI 1) := ⟨_, rfl⟩
      have h := h i30 ei30
      refine lv_iinc (v := i30) (lv' := [(2, .int i30), (0, .ref a0), (1, .int v1)]) hx hb dX8_save_39 hl (k := 0) rfl (by rw [ei30]; rfl) (by decide) rfl (fun ls hl => ?_)
      refine lv_goto (tgt := 14) hx hb dX8_save_42 (by decide) ?_
      exact ih14 (i30, S29) _ _ _ h (lv_sub hl [0, 1, 2] rfl) hO
  · have h := h.1 c2
    refine lv_bipush (v := (-2 : Int32)) hx hb dX8_save_9 (by decide) ?_
    exact W.iret hx hb hr (fun t ht hW => ⟨⟨(-2 : Int32), S, rfl, h, hO.q ht⟩, hO.f ht⟩) hO.lc dX8_save_11
theorem hdS_X8_restore : yX8_restore.cls ≠ "java/lang/invoke/MethodHandle" ∧ yX8_restore.cls ≠ "java/lang/invoke/VarHandle" ∧ (parseMethodDescriptor yX8_restore.desc).map (fun d => d.parameters.length) = some 1 := by decide +kernel
set_option maxHeartbeats 4000000 in
set_option maxRecDepth 100000 in
theorem c_X8_restore (l : Launch) (D : va_G) (Y : Nat → ClassId) (L : List Nat) (S : PS) (sz : Nat) (a0 : Nat) (v1 : Int32) (Post : Int32 → PS → Prop) (h : wp_X8_restore S a0 v1 Post) : Met l yX8_restore wsX8_restore ({ frames := 1, cells := 0, slots := 0, locals := 22 }) (va_Pc [.ref a0, .int v1] (PrO D Y L S sz)) (va_Qi Post (QtO D Y (fR L sz)) (fR L sz)) 0 0 (fR L sz) := by
  refine Met.ofW (cc := cX8_restore) (maxL := 3) (ret := (some .int)) (by decide) rfl ?_
  intro p e s m args below meth c s₁ B hml hv
  obtain ⟨rfl, hsz, hJ, hP, hK, hD0, hZ⟩ := hv
  have hx := B.exec
  have hb := B.bytes
  have hr := B.returns
  have hts := atoms_spec (ws := wsX8_restore) B.pre
  have hown : s.vm.findClass RX8 = some m.cls := findClass_of_methodNamed B.named
  have hlocks := B.notSynchronized
  have CF : CallFix p m c cX8_restore 3 s ([.ref a0, .int v1] : List Value).toArray wsX8_restore RX8 := ⟨hx, hb, hml, hown, hts⟩
  have C : CX p m c cX8_restore 3 s ([.ref a0, .int v1] : List Value).toArray wsX8_restore RX8 D Y := ⟨CF, hK, hZ⟩
  have hO : HO D Y (fR L sz) s.heap S s.heap [] := HO.entry hsz hJ hP hD0
  subst hsz
  have inX8 : ∀ w ∈ wsX80, w ∈ wsX8_restore := fun w h => List.mem_cons_of_mem _ (List.mem_append_right _ h)
  have hl := lv_entry ([.ref a0, .int v1]) (n := 3) (Nat.le_of_ble_eq_true rfl)
  rw [lg_entry_eq]
  generalize (lg_sl ([.ref a0, .int v1]) ++ List.replicate (3 - (lg_sl ([.ref a0, .int v1])).length) Slot.unset).toArray = ls at hl ⊢
  have hl : lv_has ls 3 [(0, .ref a0), (1, .int v1)] := hl
  unfold wp_X8_restore at h
  refine lv_iload_n hx hb dX8_restore_0 rfl (lv_at hl 1 rfl) ?_
  refine lv_iconst (v := (nI 0)) hx hb dX8_restore_1 (by decide) ?_
  refine lv_iconst (v := (nI 1)) hx hb dX8_restore_2 (by decide) ?_
  refine cS_si (As := [.int v1, .int (nI 0), .int (nI 1)]) (rest := []) (n := 3) CF hZ (c_X8_within l v1 (nI 0) (nI 1) _ h) (va_cwS 3 hts gX8_restore_X8_within rfl rfl rfl hdS_X8_within ⟨Nat.le_of_ble_eq_true rfl, Nat.le_of_ble_eq_true rfl⟩) rfl hl.1 rfl (Nat.le_of_ble_eq_true rfl) dX8_restore_3 ⟨Nat.le_of_ble_eq_true rfl, Nat.le_of_ble_eq_true rfl⟩ (fun i1 h => ?_)
  refine lv_if_ne (tgt := 12) hx hb dX8_restore_6 (by decide) (fun c2 => ?_) (fun c2 => ?_)
  · have h := h.2 c2
    refine lv_aload_n hx hb dX8_restore_12 rfl (lv_at hl 0 rfl) ?_
    obtain ⟨fs3, a4, e5, e5', h⟩ := h
    refine r_get C hO 6 4 rfl inX8 (Nat.le_of_ble_eq_true rfl) e5 e5' (List.mem_of_getElem? (i := 1) (by decide +kernel)) dX8_restore_13 ?_
    refine lv_iload_n hx hb dX8_restore_16 rfl (lv_at hl 1 rfl) ?_
    obtain ⟨n6, f7, i9, e8, e8', exi9, h⟩ := h
    refine r_iald C hO e8 e8' dX8_restore_17 ?_
    rw [exi9]
    refine lv_if_ne (tgt := 24) hx hb dX8_restore_18 (by decide) (fun c10 => ?_) (fun c10 => ?_)
    · have h := h.2 c10
      refine lv_aload_n hx hb dX8_restore_24 rfl (lv_at hl 0 rfl) ?_
      obtain ⟨fs13, e12, h⟩ := h
      refine cV_wv (As := []) (rest := []) (n := 0) C hO (fun L => c_X8_record l D Y L S s.heap.size a0 _ h) 6 rfl e12 (cwV 0 hts gX8_restore_X8_record rfl rfl rfl ⟨rfl, hdS_X8_record⟩ ⟨Nat.le_of_ble_eq_true rfl, Nat.le_of_ble_eq_true rfl⟩) rfl hl.1 rfl (Nat.le_of_ble_eq_true rfl) dX8_restore_25 ⟨Nat.le_of_ble_eq_true rfl, Nat.le_of_ble_eq_true rfl⟩ (fun S11 H locs h hO => ?_)
      refine lv_iconst (v := (nI 0)) hx hb dX8_restore_28 (by decide) ?_
      refine lv_istore_n (lv' := [(2, .int (nI 0)), (0, .ref a0), (1, .int v1)]) hx hb dX8_restore_29 rfl hl (by decide) rfl (fun ls hl => ?_)
      obtain ⟨n35, h⟩ := h
      refine lp_W (nL := 3) (fun q => [(2, .int q.1), (0, .ref a0), (1, .int v1)]) (fun q => q.2) h (lv_sub hl [0, 1, 2] rfl) hO (fun K30 ih30 q ls H locs h hl hO => ?_)
      obtain ⟨i14, S15⟩ := q
      have h : wpb_X8_restore_30 a0 v1 Post K30 i14 S15 := h
      have hl : lv_has ls 3 [(2, .int i14), (0, .ref a0), (1, .int v1)] := hl
      have hO : HO D Y (fR L s.heap.size) s.heap S15 H locs := hO
      unfold wpb_X8_restore_30 at h
      refine lv_iload_n hx hb dX8_restore_30 rfl (lv_at hl 0 rfl) ?_
      refine lv_sipush (v := (nI 194)) hx hb dX8_restore_31 (by decide) ?_
      refine lv_icmp_ge (tgt := 61) hx hb dX8_restore_34 (by decide) (fun c16 => ?_) (fun c16 => ?_)
      · have h := h.1 c16
        refine lv_aload_n hx hb dX8_restore_61 rfl (lv_at hl 1 rfl) ?_
        obtain ⟨fs19, e18, h⟩ := h
        refine cV_ri (As := []) (rest := []) (n := 0) C hO (fun L => c_X8_atHome l D Y L S15 H.size a0 _ h) 6 rfl e18 (cwV 0 hts gX8_restore_X8_atHome rfl rfl rfl ⟨rfl, hdS_X8_atHome⟩ ⟨Nat.le_of_ble_eq_true rfl, Nat.le_of_ble_eq_true rfl⟩) rfl hl.1 rfl (Nat.le_of_ble_eq_true rfl) dX8_restore_62 ⟨Nat.le_of_ble_eq_true rfl, Nat.le_of_ble_eq_true rfl⟩ (fun i17 h => ?_)
        exact W.iret hx hb hr (fun t ht hW => ⟨⟨i17, S15, rfl, h, hO.q ht⟩, hO.f ht⟩) hO.lc dX8_restore_65
      · have h := h.2 c16
        refine lv_aload_n hx hb dX8_restore_37 rfl (lv_at hl 1 rfl) ?_
        obtain ⟨fs20, a21, e22, e22', h⟩ := h
        refine r_get C hO 6 0 rfl inX8 (Nat.le_of_ble_eq_true rfl) e22 e22' (List.mem_of_getElem? (i := 2) (by decide +kernel)) dX8_restore_38 ?_
        refine lv_iload_n hx hb dX8_restore_41 rfl (lv_at hl 0 rfl) ?_
        refine lv_aload_n hx hb dX8_restore_42 rfl (lv_at hl 1 rfl) ?_
        obtain ⟨fs23, a24, e25, e25', h⟩ := h
        refine r_get C hO 6 3 rfl inX8 (Nat.le_of_ble_eq_true rfl) e25 e25' (List.mem_of_getElem? (i := 3) (by decide +kernel)) dX8_restore_43 ?_
        refine lv_sipush (v := (nI 194)) hx hb dX8_restore_46 (by decide) ?_
        refine lv_iload_n hx hb dX8_restore_49 rfl (lv_at hl 2 rfl) ?_
        refine lv_imul hx hb dX8_restore_50 ?_
        refine lv_iload_n hx hb dX8_restore_51 rfl (lv_at hl 0 rfl) ?_
        refine lv_iadd hx hb dX8_restore_52 ?_
        obtain ⟨n26, f27, i29, e28, e28', exi29, h⟩ := h
        refine r_iald C hO e28 e28' dX8_restore_53 ?_
        rw [exi29]
        obtain ⟨n30, f31, e32, e32', h⟩ := h
        refine r_iast C hO e32 e32' dX8_restore_54 (fun H locs hO => ?_)
        obtain ⟨S33, eS33⟩ : ∃ Sx, Sx = va_up S15 a21 (aI n30 (upd f31 (i14).toNatClampNeg i29)) := ⟨_, rfl⟩
        rw [← eS33] at hO
        have h := h S33 eS33
        obtain ⟨i34, ei34⟩ : ∃ y : Int32, y = i14 + (nI 1) := ⟨_, rfl⟩
        have h := h i34 ei34
        refine lv_iinc (v := i34) (lv' := [(2, .int i34), (0, .ref a0), (1, .int v1)]) hx hb dX8_restore_55 hl (k := 0) rfl (by rw [ei34]; rfl) (by decide) rfl (fun ls hl => ?_)
        refine lv_goto (tgt := 30) hx hb dX8_restore_58 (by decide) ?_
        exact ih30 (i34, S33) _ _ _ h (lv_sub hl [0, 1, 2] rfl) hO
    · have h := h.1 c10
      refine lv_bipush (v := (-5 : Int32)) hx hb dX8_restore_21 (by decide) ?_
      exact W.iret hx hb hr (fun t ht hW => ⟨⟨(-5 : Int32), S, rfl, h, hO.q ht⟩, hO.f ht⟩) hO.lc dX8_restore_23
  · have h := h.1 c2
    refine lv_bipush (v := (-2 : Int32)) hx hb dX8_restore_9 (by decide) ?_
    exact W.iret hx hb hr (fun t ht hW => ⟨⟨(-2 : Int32), S, rfl, h, hO.q ht⟩, hO.f ht⟩) hO.lc dX8_restore_11
