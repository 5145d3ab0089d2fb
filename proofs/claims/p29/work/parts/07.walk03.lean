theorem hdS_X7_put : yX7_put.cls ≠ "java/lang/invoke/MethodHandle" ∧ yX7_put.cls ≠ "java/lang/invoke/VarHandle" ∧ (parseMethodDescriptor yX7_put.desc).map (fun d => d.parameters.length) = some 2 := by decide +kernel
set_option maxHeartbeats 4000000 in
set_option maxRecDepth 100000 in
theorem c_X7_put (l : Launch) (D : va_G) (Y : Nat → ClassId) (L : List Nat) (S : PS) (sz : Nat) (a0 : Nat) (v1 : Int32) (v2 : Int32) (Post : Int32 → PS → Prop) (h : wp_X7_put S a0 v1 v2 Post) : Met l yX7_put wsX7_put ({ frames := 4, cells := 15, slots := 175, locals := 85 }) (va_Pc [.ref a0, .int v1, .int v2] (PrO D Y L S sz)) (va_Qi Post (QtO D Y (fR L sz)) (fR L sz)) 15 175 (fR L sz) := by
  refine Met.ofW (cc := cX7_put) (maxL := 4) (ret := (some .int)) (by decide) rfl ?_
  intro p e s m args below meth c s₁ B hml hv
  obtain ⟨rfl, hsz, hJ, hP, hK, hD0, hZ⟩ := hv
  have hx := B.exec
  have hb := B.bytes
  have hr := B.returns
  have hts := atoms_spec (ws := wsX7_put) B.pre
  have hown : s.vm.findClass RX7 = some m.cls := findClass_of_methodNamed B.named
  have hlocks := B.notSynchronized
  have CF : CallFix p m c cX7_put 4 s ([.ref a0, .int v1, .int v2] : List Value).toArray wsX7_put RX7 := ⟨hx, hb, hml, hown, hts⟩
  have C : CX p m c cX7_put 4 s ([.ref a0, .int v1, .int v2] : List Value).toArray wsX7_put RX7 D Y := ⟨CF, hK, hZ⟩
  have hO : HO D Y (fR L sz) s.heap S s.heap [] := HO.entry hsz hJ hP hD0
  subst hsz
  have inX1 : ∀ w ∈ wsX10, w ∈ wsX7_put := fun w h => List.mem_cons_of_mem _ (List.mem_append_left _ (List.mem_append_left _ (List.mem_append_right _ h)))
  have inX7 : ∀ w ∈ wsX70, w ∈ wsX7_put := fun w h => List.mem_cons_of_mem _ (List.mem_append_left _ (List.mem_append_left _ (List.mem_append_left _ (List.mem_append_right _ h))))
  have hl := lv_entry ([.ref a0, .int v1, .int v2]) (n := 4) (Nat.le_of_ble_eq_true rfl)
  rw [lg_entry_eq]
  generalize (lg_sl ([.ref a0, .int v1, .int v2]) ++ List.replicate (4 - (lg_sl ([.ref a0, .int v1, .int v2])).length) Slot.unset).toArray = ls at hl ⊢
  have hl : lv_has ls 4 [(0, .ref a0), (1, .int v1), (2, .int v2)] := hl
  unfold wp_X7_put at h
  refine lv_iload_n hx hb dX7_put_0 rfl (lv_at hl 1 rfl) ?_
  refine lv_bipush (v := (nI 12)) hx hb dX7_put_1 (by decide) ?_
  refine cS_si (As := [.int v1, .int (nI 12)]) (rest := []) (n := 2) CF hZ (c_X7_isBelow l v1 (nI 12) _ h) (va_cwS 2 hts gX7_put_X7_isBelow rfl rfl rfl hdS_X7_isBelow ⟨Nat.le_of_ble_eq_true rfl, Nat.le_of_ble_eq_true rfl⟩) rfl hl.1 rfl (Nat.le_of_ble_eq_true rfl) dX7_put_3 ⟨(Nat.le_of_ble_eq_true rfl), (Nat.le_of_ble_eq_true rfl)⟩ (fun i1 h => ?_)
  refine lv_if_eq (tgt := 18) hx hb dX7_put_6 (by decide) (fun c2 => ?_) (fun c2 => ?_)
  · have h := h.1 c2
    refine lv_iconst (v := (-1 : Int32)) hx hb dX7_put_18 (by decide) ?_
    refine W.widen (k := 15) (n := 175) (Nat.le_of_ble_eq_true rfl) (Nat.le_of_ble_eq_true rfl) ?_
    exact W.iret hx hb hr (fun t ht hW => ⟨⟨(-1 : Int32), S, rfl, h, hO.q ht⟩, hO.f ht⟩) hO.lc dX7_put_19
  · have h := h.2 c2
    refine lv_iload_n hx hb dX7_put_9 rfl (lv_at hl 2 rfl) ?_
    refine lv_bipush (v := (nI 6)) hx hb dX7_put_10 (by decide) ?_
    refine cS_si (As := [.int v2, .int (nI 6)]) (rest := []) (n := 2) CF hZ (c_X7_isBelow l v2 (nI 6) _ h) (va_cwS 2 hts gX7_put_X7_isBelow rfl rfl rfl hdS_X7_isBelow ⟨Nat.le_of_ble_eq_true rfl, Nat.le_of_ble_eq_true rfl⟩) rfl hl.1 rfl (Nat.le_of_ble_eq_true rfl) dX7_put_12 ⟨(Nat.le_of_ble_eq_true rfl), (Nat.le_of_ble_eq_true rfl)⟩ (fun i3 h => ?_)
    refine lv_if_ne (tgt := 20) hx hb dX7_put_15 (by decide) (fun c4 => ?_) (fun c4 => ?_)
    · have h := h.2 c4
      refine lv_aload_n hx hb dX7_put_20 rfl (lv_at hl 0 rfl) ?_
      obtain ⟨fs5, a6, e7, e7', h⟩ := h
      refine r_get C hO 5 1 rfl inX7 (Nat.le_of_ble_eq_true rfl) e7 e7' (List.mem_of_getElem? (i := 1) (by decide +kernel)) dX7_put_21 ?_
      refine lv_aload_n hx hb dX7_put_24 rfl (lv_at hl 0 rfl) ?_
      obtain ⟨fs8, a9, e10, e10', h⟩ := h
      refine r_get C hO 5 0 rfl inX7 (Nat.le_of_ble_eq_true rfl) e10 e10' (List.mem_of_getElem? (i := 2) (by decide +kernel)) dX7_put_25 ?_
      obtain ⟨fs13, e12, h⟩ := h
      refine cV_wv (As := [.ref a9]) (rest := []) (n := 1) C hO (fun L => c_X3_keep l D Y L S s.heap.size a6 a9 _ h) 3 rfl e12 (cwV 1 hts gX7_put_X3_keep rfl rfl rfl ⟨rfl, hdS_X3_keep⟩ ⟨Nat.le_of_ble_eq_true rfl, Nat.le_of_ble_eq_true rfl⟩) rfl hl.1 rfl (Nat.le_of_ble_eq_true rfl) dX7_put_28 ⟨(Nat.le_of_ble_eq_true rfl), (Nat.le_of_ble_eq_true rfl)⟩ (fun S11 H locs h hO => ?_)
      refine lv_aload_n hx hb dX7_put_31 rfl (lv_at hl 0 rfl) ?_
      obtain ⟨fs14, a15, e16, e16', h⟩ := h
      refine r_get C hO 5 0 rfl inX7 (Nat.le_of_ble_eq_true rfl) e16 e16' (List.mem_of_getElem? (i := 2) (by decide +kernel)) dX7_put_32 ?_
      obtain ⟨fs17, j18, e19, e19', h⟩ := h
      refine r_get C hO 1 0 rfl inX1 (Nat.le_of_ble_eq_true rfl) e19 e19' (List.mem_of_getElem? (i := 3) (by decide +kernel)) dX7_put_35 ?_
      refine lv_iload_n hx hb dX7_put_38 rfl (lv_at hl 1 rfl) ?_
      refine cS_si (As := [.long j18, .int v1]) (rest := []) (n := 2) CF hZ (c_X4_at l j18 v1 _ h) (va_cwS 2 hts gX7_put_X4_at rfl rfl rfl hdS_X4_at ⟨Nat.le_of_ble_eq_true rfl, Nat.le_of_ble_eq_true rfl⟩) rfl hl.1 rfl (Nat.le_of_ble_eq_true rfl) dX7_put_39 ⟨(Nat.le_of_ble_eq_true rfl), (Nat.le_of_ble_eq_true rfl)⟩ (fun i20 h => ?_)
      refine lv_istore_n (lv' := [(3, .int i20), (0, .ref a0), (1, .int v1), (2, .int v2)]) hx hb dX7_put_42 rfl hl (by decide) rfl (fun ls hl => ?_)
      refine lv_aload_n hx hb dX7_put_43 rfl (lv_at hl 1 rfl) ?_
      obtain ⟨fs21, a22, e23, e23', h⟩ := h
      refine r_get C hO 5 0 rfl inX7 (Nat.le_of_ble_eq_true rfl) e23 e23' (List.mem_of_getElem? (i := 2) (by decide +kernel)) dX7_put_44 ?_
      refine lv_aload_n hx hb dX7_put_47 rfl (lv_at hl 1 rfl) ?_
      obtain ⟨fs24, a25, e26, e26', h⟩ := h
      refine r_get C hO 5 0 rfl inX7 (Nat.le_of_ble_eq_true rfl) e26 e26' (List.mem_of_getElem? (i := 2) (by decide +kernel)) dX7_put_48 ?_
      obtain ⟨fs27, j28, e29, e29', h⟩ := h
      refine r_get C hO 1 0 rfl inX1 (Nat.le_of_ble_eq_true rfl) e29 e29' (List.mem_of_getElem? (i := 3) (by decide +kernel)) dX7_put_51 ?_
      refine lv_iload_n hx hb dX7_put_54 rfl (lv_at hl 2 rfl) ?_
      refine lv_iload_n hx hb dX7_put_55 rfl (lv_at hl 3 rfl) ?_
      refine cS_sl (As := [.long j28, .int v1, .int v2]) (rest := [.ref a22]) (n := 3) CF hZ (c_X4_with l j28 v1 v2 _ h) (va_cwS 3 hts gX7_put_X4_with rfl rfl rfl hdS_X4_with ⟨Nat.le_of_ble_eq_true rfl, Nat.le_of_ble_eq_true rfl⟩) rfl hl.1 rfl (Nat.le_of_ble_eq_true rfl) dX7_put_56 ⟨(Nat.le_of_ble_eq_true rfl), (Nat.le_of_ble_eq_true rfl)⟩ (fun j30 h => ?_)
      obtain ⟨fs31, e32, e32', h⟩ := h
      refine r_put C hO 1 0 rfl inX1 tyX1_ok nmX1 (Nat.le_of_ble_eq_true rfl) rfl rfl rfl e32 e32' (List.mem_of_getElem? (i := 3) (by decide +kernel)) dX7_put_59 (fun H locs hO => ?_)
      obtain ⟨S33, eS33⟩ : ∃ Sx, Sx = va_up S11 a22 (.inl (1, fs31.set 0 (.long j30))) := ⟨_, rfl⟩
      rw [← eS33] at hO
      have h := h S33 eS33
      refine lv_iload_n hx hb dX7_put_62 rfl (lv_at hl 0 rfl) ?_
      exact W.iret hx hb hr (fun t ht hW => ⟨⟨i20, S33, rfl, h, hO.q ht⟩, hO.f ht⟩) hO.lc dX7_put_63
    · have h := h.1 c4
      refine lv_iconst (v := (-1 : Int32)) hx hb dX7_put_18 (by decide) ?_
      refine W.widen (k := 15) (n := 175) (Nat.le_of_ble_eq_true rfl) (Nat.le_of_ble_eq_true rfl) ?_
      exact W.iret hx hb hr (fun t ht hW => ⟨⟨(-1 : Int32), S, rfl, h, hO.q ht⟩, hO.f ht⟩) hO.lc dX7_put_19
theorem hdS_X7_tie : yX7_tie.cls ≠ "java/lang/invoke/MethodHandle" ∧ yX7_tie.cls ≠ "java/lang/invoke/VarHandle" ∧ (parseMethodDescriptor yX7_tie.desc).map (fun d => d.parameters.length) = some 2 := by decide +kernel
set_option maxHeartbeats 4000000 in
set_option maxRecDepth 100000 in
theorem c_X7_tie (l : Launch) (D : va_G) (Y : Nat → ClassId) (L : List Nat) (S : PS) (sz : Nat) (a0 : Nat) (v1 : Int32) (v2 : Int32) (Post : Int32 → PS → Prop) (h : wp_X7_tie S a0 v1 v2 Post) : Met l yX7_tie wsX7_tie ({ frames := 4, cells := 15, slots := 175, locals := 85 }) (va_Pc [.ref a0, .int v1, .int v2] (PrO D Y L S sz)) (va_Qi Post (QtO D Y (fR L sz)) (fR L sz)) 15 175 (fR L sz) := by
  refine Met.ofW (cc := cX7_tie) (maxL := 3) (ret := (some .int)) (by decide) rfl ?_
  intro p e s m args below meth c s₁ B hml hv
  obtain ⟨rfl, hsz, hJ, hP, hK, hD0, hZ⟩ := hv
  have hx := B.exec
  have hb := B.bytes
  have hr := B.returns
  have hts := atoms_spec (ws := wsX7_tie) B.pre
  have hown : s.vm.findClass RX7 = some m.cls := findClass_of_methodNamed B.named
  have hlocks := B.notSynchronized
  have CF : CallFix p m c cX7_tie 3 s ([.ref a0, .int v1, .int v2] : List Value).toArray wsX7_tie RX7 := ⟨hx, hb, hml, hown, hts⟩
  have C : CX p m c cX7_tie 3 s ([.ref a0, .int v1, .int v2] : List Value).toArray wsX7_tie RX7 D Y := ⟨CF, hK, hZ⟩
  have hO : HO D Y (fR L sz) s.heap S s.heap [] := HO.entry hsz hJ hP hD0
  subst hsz
  have inX1 : ∀ w ∈ wsX10, w ∈ wsX7_tie := fun w h => List.mem_cons_of_mem _ (List.mem_append_left _ (List.mem_append_left _ (List.mem_append_right _ h)))
  have inX7 : ∀ w ∈ wsX70, w ∈ wsX7_tie := fun w h => List.mem_cons_of_mem _ (List.mem_append_left _ (List.mem_append_left _ (List.mem_append_left _ (List.mem_append_right _ h))))
  have hl := lv_entry ([.ref a0, .int v1, .int v2]) (n := 3) (Nat.le_of_ble_eq_true rfl)
  rw [lg_entry_eq]
  generalize (lg_sl ([.ref a0, .int v1, .int v2]) ++ List.replicate (3 - (lg_sl ([.ref a0, .int v1, .int v2])).length) Slot.unset).toArray = ls at hl ⊢
  have hl : lv_has ls 3 [(0, .ref a0), (1, .int v1), (2, .int v2)] := hl
  unfold wp_X7_tie at h
  refine lv_iload_n hx hb dX7_tie_0 rfl (lv_at hl 1 rfl) ?_
  refine lv_bipush (v := (nI 6)) hx hb dX7_tie_1 (by decide) ?_
  refine cS_si (As := [.int v1, .int (nI 6)]) (rest := []) (n := 2) CF hZ (c_X7_isBelow l v1 (nI 6) _ h) (va_cwS 2 hts gX7_tie_X7_isBelow rfl rfl rfl hdS_X7_isBelow ⟨Nat.le_of_ble_eq_true rfl, Nat.le_of_ble_eq_true rfl⟩) rfl hl.1 rfl (Nat.le_of_ble_eq_true rfl) dX7_tie_3 ⟨(Nat.le_of_ble_eq_true rfl), (Nat.le_of_ble_eq_true rfl)⟩ (fun i1 h => ?_)
  refine lv_if_ne (tgt := 11) hx hb dX7_tie_6 (by decide) (fun c2 => ?_) (fun c2 => ?_)
  · have h := h.2 c2
    refine lv_iload_n hx hb dX7_tie_11 rfl (lv_at hl 2 rfl) ?_
    refine lv_bipush (v := (nI 64)) hx hb dX7_tie_12 (by decide) ?_
    refine cS_si (As := [.int v2, .int (nI 64)]) (rest := []) (n := 2) CF hZ (c_X7_isBelow l v2 (nI 64) _ h) (va_cwS 2 hts gX7_tie_X7_isBelow rfl rfl rfl hdS_X7_isBelow ⟨Nat.le_of_ble_eq_true rfl, Nat.le_of_ble_eq_true rfl⟩) rfl hl.1 rfl (Nat.le_of_ble_eq_true rfl) dX7_tie_14 ⟨(Nat.le_of_ble_eq_true rfl), (Nat.le_of_ble_eq_true rfl)⟩ (fun i3 h => ?_)
    refine lv_if_ne (tgt := 23) hx hb dX7_tie_17 (by decide) (fun c4 => ?_) (fun c4 => ?_)
    · have h := h.2 c4
      refine lv_aload_n hx hb dX7_tie_23 rfl (lv_at hl 0 rfl) ?_
      obtain ⟨fs5, a6, e7, e7', h⟩ := h
      refine r_get C hO 5 1 rfl inX7 (Nat.le_of_ble_eq_true rfl) e7 e7' (List.mem_of_getElem? (i := 1) (by decide +kernel)) dX7_tie_24 ?_
      refine lv_aload_n hx hb dX7_tie_27 rfl (lv_at hl 0 rfl) ?_
      obtain ⟨fs8, a9, e10, e10', h⟩ := h
      refine r_get C hO 5 0 rfl inX7 (Nat.le_of_ble_eq_true rfl) e10 e10' (List.mem_of_getElem? (i := 2) (by decide +kernel)) dX7_tie_28 ?_
      obtain ⟨fs13, e12, h⟩ := h
      refine cV_wv (As := [.ref a9]) (rest := []) (n := 1) C hO (fun L => c_X3_keep l D Y L S s.heap.size a6 a9 _ h) 3 rfl e12 (cwV 1 hts gX7_tie_X3_keep rfl rfl rfl ⟨rfl, hdS_X3_keep⟩ ⟨Nat.le_of_ble_eq_true rfl, Nat.le_of_ble_eq_true rfl⟩) rfl hl.1 rfl (Nat.le_of_ble_eq_true rfl) dX7_tie_31 ⟨(Nat.le_of_ble_eq_true rfl), (Nat.le_of_ble_eq_true rfl)⟩ (fun S11 H locs h hO => ?_)
      refine lv_aload_n hx hb dX7_tie_34 rfl (lv_at hl 0 rfl) ?_
      obtain ⟨fs14, a15, e16, e16', h⟩ := h
      refine r_get C hO 5 0 rfl inX7 (Nat.le_of_ble_eq_true rfl) e16 e16' (List.mem_of_getElem? (i := 2) (by decide +kernel)) dX7_tie_35 ?_
      obtain ⟨fs17, a18, e19, e19', h⟩ := h
      refine r_get C hO 1 3 rfl inX1 (Nat.le_of_ble_eq_true rfl) e19 e19' (List.mem_of_getElem? (i := 3) (by decide +kernel)) dX7_tie_38 ?_
      refine lv_iload_n hx hb dX7_tie_41 rfl (lv_at hl 1 rfl) ?_
      refine lv_iload_n hx hb dX7_tie_42 rfl (lv_at hl 2 rfl) ?_
      obtain ⟨n20, f21, e22, e22', h⟩ := h
      refine r_iast C hO e22 e22' dX7_tie_43 (fun H locs hO => ?_)
      obtain ⟨S23, eS23⟩ : ∃ Sx, Sx = va_up S11 a18 (aI n20 (upd f21 (v1).toNatClampNeg v2)) := ⟨_, rfl⟩
      rw [← eS23] at hO
      have h := h S23 eS23
      refine lv_aload_n hx hb dX7_tie_44 rfl (lv_at hl 0 rfl) ?_
      obtain ⟨fs24, a25, e26, e26', h⟩ := h
      refine r_get C hO 5 0 rfl inX7 (Nat.le_of_ble_eq_true rfl) e26 e26' (List.mem_of_getElem? (i := 2) (by decide +kernel)) dX7_tie_45 ?_
      refine lv_iload_n hx hb dX7_tie_48 rfl (lv_at hl 1 rfl) ?_
      obtain ⟨fs29, e28, h⟩ := h
      refine cV_ri (As := [.int v1]) (rest := []) (n := 1) C hO (fun L => c_X1_raisedBy l D Y L S23 H.size a25 v1 _ h) 1 rfl e28 (cwV 1 hts gX7_tie_X1_raisedBy rfl rfl rfl ⟨rfl, hdS_X1_raisedBy⟩ ⟨Nat.le_of_ble_eq_true rfl, Nat.le_of_ble_eq_true rfl⟩) rfl hl.1 rfl (Nat.le_of_ble_eq_true rfl) dX7_tie_49 ⟨(Nat.le_of_ble_eq_true rfl), (Nat.le_of_ble_eq_true rfl)⟩ (fun i27 h => ?_)
      refine cS_si (As := [.int i27]) (rest := []) (n := 1) CF hZ (c_J6_bitCount_0f7a4 l i27 _ h) (va_cwS 1 hts gX7_tie_J6_bitCount_0f7a4 rfl rfl rfl hdS_J6_bitCount_0f7a4 ⟨Nat.le_of_ble_eq_true rfl, Nat.le_of_ble_eq_true rfl⟩) rfl hl.1 rfl (Nat.le_of_ble_eq_true rfl) dX7_tie_52 ⟨(Nat.le_of_ble_eq_true rfl), (Nat.le_of_ble_eq_true rfl)⟩ (fun i30 h => ?_)
      exact W.iret hx hb hr (fun t ht hW => ⟨⟨i30, S23, rfl, h, hO.q ht⟩, hO.f ht⟩) hO.lc dX7_tie_55
    · have h := h.1 c4
      refine lv_bipush (v := (-2 : Int32)) hx hb dX7_tie_20 (by decide) ?_
      refine W.widen (k := 15) (n := 175) (Nat.le_of_ble_eq_true rfl) (Nat.le_of_ble_eq_true rfl) ?_
      exact W.iret hx hb hr (fun t ht hW => ⟨⟨(-2 : Int32), S, rfl, h, hO.q ht⟩, hO.f ht⟩) hO.lc dX7_tie_22
  · have h := h.1 c2
    refine lv_iconst (v := (-1 : Int32)) hx hb dX7_tie_9 (by decide) ?_
    refine W.widen (k := 15) (n := 175) (Nat.le_of_ble_eq_true rfl) (Nat.le_of_ble_eq_true rfl) ?_
    exact W.iret hx hb hr (fun t ht hW => ⟨⟨(-1 : Int32), S, rfl, h, hO.q ht⟩, hO.f ht⟩) hO.lc dX7_tie_10
theorem hdS_X7_read : yX7_read.cls ≠ "java/lang/invoke/MethodHandle" ∧ yX7_read.cls ≠ "java/lang/invoke/VarHandle" ∧ (parseMethodDescriptor yX7_read.desc).map (fun d => d.parameters.length) = some 1 := by decide +kernel
set_option maxHeartbeats 4000000 in
set_option maxRecDepth 100000 in
theorem c_X7_read (l : Launch) (D : va_G) (Y : Nat → ClassId) (L : List Nat) (S : PS) (sz : Nat) (a0 : Nat) (v1 : Int32) (Post : Int32 → PS → Prop) (h : wp_X7_read S a0 v1 Post) : Met l yX7_read wsX7_read ({ frames := 4, cells := 15, slots := 175, locals := 85 }) (va_Pc [.ref a0, .int v1] (PrO D Y L S sz)) (va_Qi Post (QtO D Y (fR L sz)) (fR L sz)) 15 175 (fR L sz) := by
  refine Met.ofW (cc := cX7_read) (maxL := 3) (ret := (some .int)) (by decide) rfl ?_
  intro p e s m args below meth c s₁ B hml hv
  obtain ⟨rfl, hsz, hJ, hP, hK, hD0, hZ⟩ := hv
  have hx := B.exec
  have hb := B.bytes
  have hr := B.returns
  have hts := atoms_spec (ws := wsX7_read) B.pre
  have hown : s.vm.findClass RX7 = some m.cls := findClass_of_methodNamed B.named
  have hlocks := B.notSynchronized
  have CF : CallFix p m c cX7_read 3 s ([.ref a0, .int v1] : List Value).toArray wsX7_read RX7 := ⟨hx, hb, hml, hown, hts⟩
  have C : CX p m c cX7_read 3 s ([.ref a0, .int v1] : List Value).toArray wsX7_read RX7 D Y := ⟨CF, hK, hZ⟩
  have hO : HO D Y (fR L sz) s.heap S s.heap [] := HO.entry hsz hJ hP hD0
  subst hsz
  have inX0 : ∀ w ∈ wsX00, w ∈ wsX7_read := fun w h => List.mem_cons_of_mem _ (List.mem_append_left _ (List.mem_append_left _ (List.mem_append_right _ h)))
  have inX2 : ∀ w ∈ wsX20, w ∈ wsX7_read := fun w h => List.mem_cons_of_mem _ (List.mem_append_left _ (List.mem_append_left _ (List.mem_append_left _ (List.mem_append_right _ h))))
  have inX7 : ∀ w ∈ wsX70, w ∈ wsX7_read := fun w h => List.mem_cons_of_mem _ (List.mem_append_left _ (List.mem_append_left _ (List.mem_append_left _ (List.mem_append_left _ (List.mem_append_right _ h)))))
  have hl := lv_entry ([.ref a0, .int v1]) (n := 3) (Nat.le_of_ble_eq_true rfl)
  rw [lg_entry_eq]
  generalize (lg_sl ([.ref a0, .int v1]) ++ List.replicate (3 - (lg_sl ([.ref a0, .int v1])).length) Slot.unset).toArray = ls at hl ⊢
  have hl : lv_has ls 3 [(0, .ref a0), (1, .int v1)] := hl
  unfold wp_X7_read at h
  refine lv_aload_n hx hb dX7_read_0 rfl (lv_at hl 0 rfl) ?_
  obtain ⟨fs1, a2, e3, e3', h⟩ := h
  refine r_get C hO 5 0 rfl inX7 (Nat.le_of_ble_eq_true rfl) e3 e3' (List.mem_of_getElem? (i := 1) (by decide +kernel)) dX7_read_1 ?_
  refine lv_iload_n hx hb dX7_read_4 rfl (lv_at hl 1 rfl) ?_
  obtain ⟨fs5, e4, h⟩ := h
  refine cV_rq (As := [.int v1]) (rest := []) (n := 1) C hO (fun L => c_X1_draftAt l D Y L S s.heap.size a2 v1 _ h) 1 rfl e4 (cwV 1 hts gX7_read_X1_draftAt rfl rfl rfl ⟨rfl, hdS_X1_draftAt⟩ ⟨Nat.le_of_ble_eq_true rfl, Nat.le_of_ble_eq_true rfl⟩) rfl hl.1 rfl (Nat.le_of_ble_eq_true rfl) dX7_read_5 ⟨(Nat.le_of_ble_eq_true rfl), (Nat.le_of_ble_eq_true rfl)⟩ (fun rq h => ?_)
  rcases rq with _ | a6
  · have h := h.1 rfl
    show W _ _ _ _ _ _ _ _ _ _ _ _ _ _ _ (F0 _ _ _ (.null :: _))
    refine lv_astore_nN (lv' := [(2, .null), (0, .ref a0), (1, .int v1)]) hx hb dX7_read_8 rfl hl (by decide) rfl (fun ls hl => ?_)
    refine lv_aload_nN hx hb dX7_read_9 rfl (lv_at hl 0 rfl) ?_
    refine lv_ifnonnullN hx hb dX7_read_10 ?_
    refine lv_iconst (v := (-1 : Int32)) hx hb dX7_read_13 (by decide) ?_
    refine W.widen (k := 15) (n := 175) (Nat.le_of_ble_eq_true rfl) (Nat.le_of_ble_eq_true rfl) ?_
    exact W.iret hx hb hr (fun t ht hW => ⟨⟨(-1 : Int32), S, rfl, h, hO.q ht⟩, hO.f ht⟩) hO.lc dX7_read_14
  · have h := h.2 a6 rfl
    show W _ _ _ _ _ _ _ _ _ _ _ _ _ _ _ (F0 _ _ _ (.ref a6 :: _))
    refine lv_astore_n (lv' := [(2, .ref a6), (0, .ref a0), (1, .int v1)]) hx hb dX7_read_8 rfl hl (by decide) rfl (fun ls hl => ?_)
    refine lv_aload_n hx hb dX7_read_9 rfl (lv_at hl 0 rfl) ?_
    refine lv_ifnonnull (tgt := 15) hx hb dX7_read_10 (by decide) ?_
    refine lv_aload_n hx hb dX7_read_15 rfl (lv_at hl 1 rfl) ?_
    obtain ⟨fs7, a8, e9, e9', h⟩ := h
    refine r_get C hO 5 3 rfl inX7 (Nat.le_of_ble_eq_true rfl) e9 e9' (List.mem_of_getElem? (i := 2) (by decide +kernel)) dX7_read_16 ?_
    refine lv_aload_n hx hb dX7_read_19 rfl (lv_at hl 1 rfl) ?_
    obtain ⟨fs10, a11, e12, e12', h⟩ := h
    refine r_get C hO 5 5 rfl inX7 (Nat.le_of_ble_eq_true rfl) e12 e12' (List.mem_of_getElem? (i := 3) (by decide +kernel)) dX7_read_20 ?_
    obtain ⟨fs16, e15, h⟩ := h
    refine cV_wi (As := [.ref a11]) (rest := []) (n := 1) C hO (fun L => c_X2_layOut l D Y L S s.heap.size a8 a11 _ h) 2 rfl e15 (cwV 1 hts gX7_read_X2_layOut rfl rfl rfl ⟨rfl, hdS_X2_layOut⟩ ⟨Nat.le_of_ble_eq_true rfl, Nat.le_of_ble_eq_true rfl⟩) rfl hl.1 rfl (Nat.le_of_ble_eq_true rfl) dX7_read_23 ⟨(Nat.le_of_ble_eq_true rfl), (Nat.le_of_ble_eq_true rfl)⟩ (fun i13 S14 H locs h hO => ?_)
    refine lv_bipush (v := (-6 : Int32)) hx hb dX7_read_26 (by decide) ?_
    refine lv_icmp_eq (tgt := 34) hx hb dX7_read_28 (by decide) (fun c17 => ?_) (fun c17 => ?_)
    · have h := h.1 c17
      refine lv_aload_n hx hb dX7_read_34 rfl (lv_at hl 1 rfl) ?_
      obtain ⟨fs18, a19, e20, e20', h⟩ := h
      refine r_get C hO 5 1 rfl inX7 (Nat.le_of_ble_eq_true rfl) e20 e20' (List.mem_of_getElem? (i := 4) (by decide +kernel)) dX7_read_35 ?_
      refine lv_aload_n hx hb dX7_read_38 rfl (lv_at hl 1 rfl) ?_
      obtain ⟨fs21, a22, e23, e23', h⟩ := h
      refine r_get C hO 5 0 rfl inX7 (Nat.le_of_ble_eq_true rfl) e23 e23' (List.mem_of_getElem? (i := 1) (by decide +kernel)) dX7_read_39 ?_
      obtain ⟨fs26, e25, h⟩ := h
      refine cV_wv (As := [.ref a22]) (rest := []) (n := 1) C hO (fun L => c_X3_keep l D Y L S14 H.size a19 a22 _ h) 3 rfl e25 (cwV 1 hts gX7_read_X3_keep rfl rfl rfl ⟨rfl, hdS_X3_keep⟩ ⟨Nat.le_of_ble_eq_true rfl, Nat.le_of_ble_eq_true rfl⟩) rfl hl.1 rfl (Nat.le_of_ble_eq_true rfl) dX7_read_42 ⟨(Nat.le_of_ble_eq_true rfl), (Nat.le_of_ble_eq_true rfl)⟩ (fun S24 H locs h hO => ?_)
      refine lv_aload_n hx hb dX7_read_45 rfl (lv_at hl 0 rfl) ?_
      refine lv_aload_n hx hb dX7_read_46 rfl (lv_at hl 1 rfl) ?_
      obtain ⟨fs27, a28, e29, e29', h⟩ := h
      refine r_get C hO 5 5 rfl inX7 (Nat.le_of_ble_eq_true rfl) e29 e29' (List.mem_of_getElem? (i := 3) (by decide +kernel)) dX7_read_47 ?_
      obtain ⟨fs32, e31, h⟩ := h
      refine cV_wv (As := [.ref a28]) (rest := []) (n := 1) C hO (fun L => c_X0_copyFrom l D Y L S24 H.size a6 a28 _ h) 0 rfl e31 (cwV 1 hts gX7_read_X0_copyFrom rfl rfl rfl ⟨rfl, hdS_X0_copyFrom⟩ ⟨Nat.le_of_ble_eq_true rfl, Nat.le_of_ble_eq_true rfl⟩) rfl hl.1 rfl (Nat.le_of_ble_eq_true rfl) dX7_read_50 ⟨(Nat.le_of_ble_eq_true rfl), (Nat.le_of_ble_eq_true rfl)⟩ (fun S30 H locs h hO => ?_)
      refine lv_aload_n hx hb dX7_read_53 rfl (lv_at hl 1 rfl) ?_
      obtain ⟨fs33, a34, e35, e35', h⟩ := h
      refine r_get C hO 5 3 rfl inX7 (Nat.le_of_ble_eq_true rfl) e35 e35' (List.mem_of_getElem? (i := 2) (by decide +kernel)) dX7_read_54 ?_
      refine lv_iconst (v := (nI 0)) hx hb dX7_read_57 (by decide) ?_
      obtain ⟨fs36, e37, e37', h⟩ := h
      refine r_put C hO 2 1 rfl inX2 tyX2_ok nmX2 (Nat.le_of_ble_eq_true rfl) rfl rfl rfl e37 e37' (List.mem_of_getElem? (i := 5) (by decide +kernel)) dX7_read_58 (fun H locs hO => ?_)
      obtain ⟨S38, eS38⟩ : ∃ Sx, Sx = va_up S30 a34 (.inl (2, fs36.set 1 (.int (nI 0)))) := ⟨_, rfl⟩
      rw [← eS38] at hO
      have h := h S38 eS38
      refine lv_aload_n hx hb dX7_read_61 rfl (lv_at hl 0 rfl) ?_
      obtain ⟨fs39, i40, e41, e41', h⟩ := h
      refine r_get C hO 0 1 rfl inX0 (Nat.le_of_ble_eq_true rfl) e41 e41' (List.mem_of_getElem? (i := 6) (by decide +kernel)) dX7_read_62 ?_
      exact W.iret hx hb hr (fun t ht hW => ⟨⟨i40, S38, rfl, h, hO.q ht⟩, hO.f ht⟩) hO.lc dX7_read_65
    · have h := h.2 c17
      refine lv_bipush (v := (-3 : Int32)) hx hb dX7_read_31 (by decide) ?_
      refine W.widen (k := 15) (n := 175) (Nat.le_of_ble_eq_true rfl) (Nat.le_of_ble_eq_true rfl) ?_
      exact W.iret hx hb hr (fun t ht hW => ⟨⟨(-3 : Int32), S14, rfl, h, hO.q ht⟩, hO.f ht⟩) hO.lc dX7_read_33
theorem hdS_X7_compose : yX7_compose.cls ≠ "java/lang/invoke/MethodHandle" ∧ yX7_compose.cls ≠ "java/lang/invoke/VarHandle" ∧ (parseMethodDescriptor yX7_compose.desc).map (fun d => d.parameters.length) = some 3 := by decide +kernel
set_option maxHeartbeats 4000000 in
set_option maxRecDepth 100000 in
theorem c_X7_compose (l : Launch) (D : va_G) (Y : Nat → ClassId) (L : List Nat) (S : PS) (sz : Nat) (a0 : Nat) (v1 : Int32) (v2 : Int32) (v3 : Int32) (Post : Int32 → PS → Prop) (h : wp_X7_compose S a0 v1 v2 v3 Post) : Met l yX7_compose wsX7_compose ({ frames := 4, cells := 15, slots := 175, locals := 85 }) (va_Pc [.ref a0, .int v1, .int v2, .int v3] (PrO D Y L S sz)) (va_Qi Post (QtO D Y (fR L sz)) (fR L sz)) 15 175 (fR L sz) := by
  refine Met.ofW (cc := cX7_compose) (maxL := 7) (ret := (some .int)) (by decide) rfl ?_
  intro p e s m args below meth c s₁ B hml hv
  obtain ⟨rfl, hsz, hJ, hP, hK, hD0, hZ⟩ := hv
  have hx := B.exec
  have hb := B.bytes
  have hr := B.returns
  have hts := atoms_spec (ws := wsX7_compose) B.pre
  have hown : s.vm.findClass RX7 = some m.cls := findClass_of_methodNamed B.named
  have hlocks := B.notSynchronized
  have CF : CallFix p m c cX7_compose 7 s ([.ref a0, .int v1, .int v2, .int v3] : List Value).toArray wsX7_compose RX7 := ⟨hx, hb, hml, hown, hts⟩
  have C : CX p m c cX7_compose 7 s ([.ref a0, .int v1, .int v2, .int v3] : List Value).toArray wsX7_compose RX7 D Y := ⟨CF, hK, hZ⟩
  have hO : HO D Y (fR L sz) s.heap S s.heap [] := HO.entry hsz hJ hP hD0
  subst hsz
  have inX0 : ∀ w ∈ wsX00, w ∈ wsX7_compose := fun w h => List.mem_cons_of_mem _ (List.mem_append_left _ (List.mem_append_left _ (List.mem_append_right _ h)))
  have inX7 : ∀ w ∈ wsX70, w ∈ wsX7_compose := fun w h => List.mem_cons_of_mem _ (List.mem_append_left _ (List.mem_append_left _ (List.mem_append_left _ (List.mem_append_right _ h))))
  have hl := lv_entry ([.ref a0, .int v1, .int v2, .int v3]) (n := 7) (Nat.le_of_ble_eq_true rfl)
  rw [lg_entry_eq]
  generalize (lg_sl ([.ref a0, .int v1, .int v2, .int v3]) ++ List.replicate (7 - (lg_sl ([.ref a0, .int v1, .int v2, .int v3])).length) Slot.unset).toArray = ls at hl ⊢
  have hl : lv_has ls 7 [(0, .ref a0), (1, .int v1), (2, .int v2), (3, .int v3)] := hl
  unfold wp_X7_compose at h
  refine lv_aload_n hx hb dX7_compose_0 rfl (lv_at hl 0 rfl) ?_
  obtain ⟨fs1, a2, e3, e3', h⟩ := h
  refine r_get C hO 5 0 rfl inX7 (Nat.le_of_ble_eq_true rfl) e3 e3' (List.mem_of_getElem? (i := 1) (by decide +kernel)) dX7_compose_1 ?_
  refine lv_iload_n hx hb dX7_compose_4 rfl (lv_at hl 1 rfl) ?_
  obtain ⟨fs5, e4, h⟩ := h
  refine cV_rq (As := [.int v1]) (rest := []) (n := 1) C hO (fun L => c_X1_draftAt l D Y L S s.heap.size a2 v1 _ h) 1 rfl e4 (cwV 1 hts gX7_compose_X1_draftAt rfl rfl rfl ⟨rfl, hdS_X1_draftAt⟩ ⟨Nat.le_of_ble_eq_true rfl, Nat.le_of_ble_eq_true rfl⟩) rfl hl.1 rfl (Nat.le_of_ble_eq_true rfl) dX7_compose_5 ⟨(Nat.le_of_ble_eq_true rfl), (Nat.le_of_ble_eq_true rfl)⟩ (fun rq h => ?_)
  rcases rq with _ | a6
  · have h := h.1 rfl
    show W _ _ _ _ _ _ _ _ _ _ _ _ _ _ _ (F0 _ _ _ (.null :: _))
    refine lv_astoreN (lv' := [(4, .null), (0, .ref a0), (1, .int v1), (2, .int v2), (3, .int v3)]) hx hb dX7_compose_8 hl (by decide) rfl (fun ls hl => ?_)
    refine lv_aload_n hx hb dX7_compose_10 rfl (lv_at hl 1 rfl) ?_
    obtain ⟨fs7, a8, e9, e9', h⟩ := h
    refine r_get C hO 5 0 rfl inX7 (Nat.le_of_ble_eq_true rfl) e9 e9' (List.mem_of_getElem? (i := 1) (by decide +kernel)) dX7_compose_11 ?_
    refine lv_iload_n hx hb dX7_compose_14 rfl (lv_at hl 3 rfl) ?_
    obtain ⟨fs11, e10, h⟩ := h
    refine cV_rq (As := [.int v2]) (rest := []) (n := 1) C hO (fun L => c_X1_draftAt l D Y L S s.heap.size a8 v2 _ h) 1 rfl e10 (cwV 1 hts gX7_compose_X1_draftAt rfl rfl rfl ⟨rfl, hdS_X1_draftAt⟩ ⟨Nat.le_of_ble_eq_true rfl, Nat.le_of_ble_eq_true rfl⟩) rfl hl.1 rfl (Nat.le_of_ble_eq_true rfl) dX7_compose_15 ⟨(Nat.le_of_ble_eq_true rfl), (Nat.le_of_ble_eq_true rfl)⟩ (fun rq h => ?_)
    rcases rq with _ | a12
    · have h := h.1 rfl
      show W _ _ _ _ _ _ _ _ _ _ _ _ _ _ _ (F0 _ _ _ (.null :: _))
      refine lv_astoreN (lv' := [(5, .null), (4, .null), (0, .ref a0), (1, .int v1), (2, .int v2), (3, .int v3)]) hx hb dX7_compose_18 hl (by decide) rfl (fun ls hl => ?_)
      refine lv_aload_n hx hb dX7_compose_20 rfl (lv_at hl 2 rfl) ?_
      obtain ⟨fs13, a14, e15, e15', h⟩ := h
      refine r_get C hO 5 0 rfl inX7 (Nat.le_of_ble_eq_true rfl) e15 e15' (List.mem_of_getElem? (i := 1) (by decide +kernel)) dX7_compose_21 ?_
      refine lv_iload_n hx hb dX7_compose_24 rfl (lv_at hl 5 rfl) ?_
      obtain ⟨fs17, e16, h⟩ := h
      refine cV_rq (As := [.int v3]) (rest := []) (n := 1) C hO (fun L => c_X1_draftAt l D Y L S s.heap.size a14 v3 _ h) 1 rfl e16 (cwV 1 hts gX7_compose_X1_draftAt rfl rfl rfl ⟨rfl, hdS_X1_draftAt⟩ ⟨Nat.le_of_ble_eq_true rfl, Nat.le_of_ble_eq_true rfl⟩) rfl hl.1 rfl (Nat.le_of_ble_eq_true rfl) dX7_compose_25 ⟨(Nat.le_of_ble_eq_true rfl), (Nat.le_of_ble_eq_true rfl)⟩ (fun rq h => ?_)
      rcases rq with _ | a18
      · have h := h.1 rfl
        show W _ _ _ _ _ _ _ _ _ _ _ _ _ _ _ (F0 _ _ _ (.null :: _))
        refine lv_astoreN (lv' := [(6, .null), (5, .null), (4, .null), (0, .ref a0), (1, .int v1), (2, .int v2), (3, .int v3)]) hx hb dX7_compose_28 hl (by decide) rfl (fun ls hl => ?_)
        refine lv_aloadN hx hb dX7_compose_30 (lv_at hl 2 rfl) ?_
        refine lv_ifnullN (tgt := 45) hx hb dX7_compose_32 (by decide) ?_
        refine lv_iconst (v := (-1 : Int32)) hx hb dX7_compose_45 (by decide) ?_
        refine W.widen (k := 15) (n := 175) (Nat.le_of_ble_eq_true rfl) (Nat.le_of_ble_eq_true rfl) ?_
        exact W.iret hx hb hr (fun t ht hW => ⟨⟨(-1 : Int32), S, rfl, h, hO.q ht⟩, hO.f ht⟩) hO.lc dX7_compose_46
      · have h := h.2 a18 rfl
        show W _ _ _ _ _ _ _ _ _ _ _ _ _ _ _ (F0 _ _ _ (.ref a18 :: _))
        refine lv_astore (lv' := [(6, .ref a18), (5, .null), (4, .null), (0, .ref a0), (1, .int v1), (2, .int v2), (3, .int v3)]) hx hb dX7_compose_28 hl (by decide) rfl (fun ls hl => ?_)
        refine lv_aloadN hx hb dX7_compose_30 (lv_at hl 2 rfl) ?_
        refine lv_ifnullN (tgt := 45) hx hb dX7_compose_32 (by decide) ?_
        refine lv_iconst (v := (-1 : Int32)) hx hb dX7_compose_45 (by decide) ?_
        refine W.widen (k := 15) (n := 175) (Nat.le_of_ble_eq_true rfl) (Nat.le_of_ble_eq_true rfl) ?_
        exact W.iret hx hb hr (fun t ht hW => ⟨⟨(-1 : Int32), S, rfl, h, hO.q ht⟩, hO.f ht⟩) hO.lc dX7_compose_46
    · have h := h.2 a12 rfl
      show W _ _ _ _ _ _ _ _ _ _ _ _ _ _ _ (F0 _ _ _ (.ref a12 :: _))
      refine lv_astore (lv' := [(5, .ref a12), (4, .null), (0, .ref a0), (1, .int v1), (2, .int v2), (3, .int v3)]) hx hb dX7_compose_18 hl (by decide) rfl (fun ls hl => ?_)
      refine lv_aload_n hx hb dX7_compose_20 rfl (lv_at hl 2 rfl) ?_
      obtain ⟨fs19, a20, e21, e21', h⟩ := h
      refine r_get C hO 5 0 rfl inX7 (Nat.le_of_ble_eq_true rfl) e21 e21' (List.mem_of_getElem? (i := 1) (by decide +kernel)) dX7_compose_21 ?_
      refine lv_iload_n hx hb dX7_compose_24 rfl (lv_at hl 5 rfl) ?_
      obtain ⟨fs23, e22, h⟩ := h
      refine cV_rq (As := [.int v3]) (rest := []) (n := 1) C hO (fun L => c_X1_draftAt l D Y L S s.heap.size a20 v3 _ h) 1 rfl e22 (cwV 1 hts gX7_compose_X1_draftAt rfl rfl rfl ⟨rfl, hdS_X1_draftAt⟩ ⟨Nat.le_of_ble_eq_true rfl, Nat.le_of_ble_eq_true rfl⟩) rfl hl.1 rfl (Nat.le_of_ble_eq_true rfl) dX7_compose_25 ⟨(Nat.le_of_ble_eq_true rfl), (Nat.le_of_ble_eq_true rfl)⟩ (fun rq h => ?_)
      rcases rq with _ | a24
      · have h := h.1 rfl
        show W _ _ _ _ _ _ _ _ _ _ _ _ _ _ _ (F0 _ _ _ (.null :: _))
        refine lv_astoreN (lv' := [(6, .null), (5, .ref a12), (4, .null), (0, .ref a0), (1, .int v1), (2, .int v2), (3, .int v3)]) hx hb dX7_compose_28 hl (by decide) rfl (fun ls hl => ?_)
        refine lv_aloadN hx hb dX7_compose_30 (lv_at hl 2 rfl) ?_
        refine lv_ifnullN (tgt := 45) hx hb dX7_compose_32 (by decide) ?_
        refine lv_iconst (v := (-1 : Int32)) hx hb dX7_compose_45 (by decide) ?_
        refine W.widen (k := 15) (n := 175) (Nat.le_of_ble_eq_true rfl) (Nat.le_of_ble_eq_true rfl) ?_
        exact W.iret hx hb hr (fun t ht hW => ⟨⟨(-1 : Int32), S, rfl, h, hO.q ht⟩, hO.f ht⟩) hO.lc dX7_compose_46
      · have h := h.2 a24 rfl
        show W _ _ _ _ _ _ _ _ _ _ _ _ _ _ _ (F0 _ _ _ (.ref a24 :: _))
        refine lv_astore (lv' := [(6, .ref a24), (5, .ref a12), (4, .null), (0, .ref a0), (1, .int v1), (2, .int v2), (3, .int v3)]) hx hb dX7_compose_28 hl (by decide) rfl (fun ls hl => ?_)
        refine lv_aloadN hx hb dX7_compose_30 (lv_at hl 2 rfl) ?_
        refine lv_ifnullN (tgt := 45) hx hb dX7_compose_32 (by decide) ?_
        refine lv_iconst (v := (-1 : Int32)) hx hb dX7_compose_45 (by decide) ?_
        refine W.widen (k := 15) (n := 175) (Nat.le_of_ble_eq_true rfl) (Nat.le_of_ble_eq_true rfl) ?_
        exact W.iret hx hb hr (fun t ht hW => ⟨⟨(-1 : Int32), S, rfl, h, hO.q ht⟩, hO.f ht⟩) hO.lc dX7_compose_46
  · have h := h.2 a6 rfl
    show W _ _ _ _ _ _ _ _ _ _ _ _ _ _ _ (F0 _ _ _ (.ref a6 :: _))
    refine lv_astore (lv' := [(4, .ref a6), (0, .ref a0), (1, .int v1), (2, .int v2), (3, .int v3)]) hx hb dX7_compose_8 hl (by decide) rfl (fun ls hl => ?_)
    refine lv_aload_n hx hb dX7_compose_10 rfl (lv_at hl 1 rfl) ?_
    obtain ⟨fs25, a26, e27, e27', h⟩ := h
    refine r_get C hO 5 0 rfl inX7 (Nat.le_of_ble_eq_true rfl) e27 e27' (List.mem_of_getElem? (i := 1) (by decide +kernel)) dX7_compose_11 ?_
    refine lv_iload_n hx hb dX7_compose_14 rfl (lv_at hl 3 rfl) ?_
    obtain ⟨fs29, e28, h⟩ := h
    refine cV_rq (As := [.int v2]) (rest := []) (n := 1) C hO (fun L => c_X1_draftAt l D Y L S s.heap.size a26 v2 _ h) 1 rfl e28 (cwV 1 hts gX7_compose_X1_draftAt rfl rfl rfl ⟨rfl, hdS_X1_draftAt⟩ ⟨Nat.le_of_ble_eq_true rfl, Nat.le_of_ble_eq_true rfl⟩) rfl hl.1 rfl (Nat.le_of_ble_eq_true rfl) dX7_compose_15 ⟨(Nat.le_of_ble_eq_true rfl), (Nat.le_of_ble_eq_true rfl)⟩ (fun rq h => ?_)
    rcases rq with _ | a30
    · have h := h.1 rfl
      show W _ _ _ _ _ _ _ _ _ _ _ _ _ _ _ (F0 _ _ _ (.null :: _))
      refine lv_astoreN (lv' := [(5, .null), (4, .ref a6), (0, .ref a0), (1, .int v1), (2, .int v2), (3, .int v3)]) hx hb dX7_compose_18 hl (by decide) rfl (fun ls hl => ?_)
      refine lv_aload_n hx hb dX7_compose_20 rfl (lv_at hl 2 rfl) ?_
      obtain ⟨fs31, a32, e33, e33', h⟩ := h
      refine r_get C hO 5 0 rfl inX7 (Nat.le_of_ble_eq_true rfl) e33 e33' (List.mem_of_getElem? (i := 1) (by decide +kernel)) dX7_compose_21 ?_
      refine lv_iload_n hx hb dX7_compose_24 rfl (lv_at hl 5 rfl) ?_
      obtain ⟨fs35, e34, h⟩ := h
      refine cV_rq (As := [.int v3]) (rest := []) (n := 1) C hO (fun L => c_X1_draftAt l D Y L S s.heap.size a32 v3 _ h) 1 rfl e34 (cwV 1 hts gX7_compose_X1_draftAt rfl rfl rfl ⟨rfl, hdS_X1_draftAt⟩ ⟨Nat.le_of_ble_eq_true rfl, Nat.le_of_ble_eq_true rfl⟩) rfl hl.1 rfl (Nat.le_of_ble_eq_true rfl) dX7_compose_25 ⟨(Nat.le_of_ble_eq_true rfl), (Nat.le_of_ble_eq_true rfl)⟩ (fun rq h => ?_)
      rcases rq with _ | a36
      · have h := h.1 rfl
        show W _ _ _ _ _ _ _ _ _ _ _ _ _ _ _ (F0 _ _ _ (.null :: _))
        refine lv_astoreN (lv' := [(6, .null), (5, .null), (4, .ref a6), (0, .ref a0), (1, .int v1), (2, .int v2), (3, .int v3)]) hx hb dX7_compose_28 hl (by decide) rfl (fun ls hl => ?_)
        refine lv_aload hx hb dX7_compose_30 (lv_at hl 2 rfl) ?_
        refine lv_ifnull hx hb dX7_compose_32 ?_
        refine lv_aloadN hx hb dX7_compose_35 (lv_at hl 1 rfl) ?_
        refine lv_ifnullN (tgt := 45) hx hb dX7_compose_37 (by decide) ?_
        refine lv_iconst (v := (-1 : Int32)) hx hb dX7_compose_45 (by decide) ?_
        refine W.widen (k := 15) (n := 175) (Nat.le_of_ble_eq_true rfl) (Nat.le_of_ble_eq_true rfl) ?_
        exact W.iret hx hb hr (fun t ht hW => ⟨⟨(-1 : Int32), S, rfl, h, hO.q ht⟩, hO.f ht⟩) hO.lc dX7_compose_46
      · have h := h.2 a36 rfl
        show W _ _ _ _ _ _ _ _ _ _ _ _ _ _ _ (F0 _ _ _ (.ref a36 :: _))
        refine lv_astore (lv' := [(6, .ref a36), (5, .null), (4, .ref a6), (0, .ref a0), (1, .int v1), (2, .int v2), (3, .int v3)]) hx hb dX7_compose_28 hl (by decide) rfl (fun ls hl => ?_)
        refine lv_aload hx hb dX7_compose_30 (lv_at hl 2 rfl) ?_
        refine lv_ifnull hx hb dX7_compose_32 ?_
        refine lv_aloadN hx hb dX7_compose_35 (lv_at hl 1 rfl) ?_
        refine lv_ifnullN (tgt := 45) hx hb dX7_compose_37 (by decide) ?_
        refine lv_iconst (v := (-1 : Int32)) hx hb dX7_compose_45 (by decide) ?_
        refine W.widen (k := 15) (n := 175) (Nat.le_of_ble_eq_true rfl) (Nat.le_of_ble_eq_true rfl) ?_
        exact W.iret hx hb hr (fun t ht hW => ⟨⟨(-1 : Int32), S, rfl, h, hO.q ht⟩, hO.f ht⟩) hO.lc dX7_compose_46
    · have h := h.2 a30 rfl
      show W _ _ _ _ _ _ _ _ _ _ _ _ _ _ _ (F0 _ _ _ (.ref a30 :: _))
      refine lv_astore (lv' := [(5, .ref a30), (4, .ref a6), (0, .ref a0), (1, .int v1), (2, .int v2), (3, .int v3)]) hx hb dX7_compose_18 hl (by decide) rfl (fun ls hl => ?_)
      refine lv_aload_n hx hb dX7_compose_20 rfl (lv_at hl 2 rfl) ?_
      obtain ⟨fs37, a38, e39, e39', h⟩ := h
      refine r_get C hO 5 0 rfl inX7 (Nat.le_of_ble_eq_true rfl) e39 e39' (List.mem_of_getElem? (i := 1) (by decide +kernel)) dX7_compose_21 ?_
      refine lv_iload_n hx hb dX7_compose_24 rfl (lv_at hl 5 rfl) ?_
      obtain ⟨fs41, e40, h⟩ := h
      refine cV_rq (As := [.int v3]) (rest := []) (n := 1) C hO (fun L => c_X1_draftAt l D Y L S s.heap.size a38 v3 _ h) 1 rfl e40 (cwV 1 hts gX7_compose_X1_draftAt rfl rfl rfl ⟨rfl, hdS_X1_draftAt⟩ ⟨Nat.le_of_ble_eq_true rfl, Nat.le_of_ble_eq_true rfl⟩) rfl hl.1 rfl (Nat.le_of_ble_eq_true rfl) dX7_compose_25 ⟨(Nat.le_of_ble_eq_true rfl), (Nat.le_of_ble_eq_true rfl)⟩ (fun rq h => ?_)
      rcases rq with _ | a42
      · have h := h.1 rfl
        show W _ _ _ _ _ _ _ _ _ _ _ _ _ _ _ (F0 _ _ _ (.null :: _))
        refine lv_astoreN (lv' := [(6, .null), (5, .ref a30), (4, .ref a6), (0, .ref a0), (1, .int v1), (2, .int v2), (3, .int v3)]) hx hb dX7_compose_28 hl (by decide) rfl (fun ls hl => ?_)
        refine lv_aload hx hb dX7_compose_30 (lv_at hl 2 rfl) ?_
        refine lv_ifnull hx hb dX7_compose_32 ?_
        refine lv_aload hx hb dX7_compose_35 (lv_at hl 1 rfl) ?_
        refine lv_ifnull hx hb dX7_compose_37 ?_
        refine lv_aloadN hx hb dX7_compose_40 (lv_at hl 0 rfl) ?_
        refine lv_ifnonnullN hx hb dX7_compose_42 ?_
        refine lv_iconst (v := (-1 : Int32)) hx hb dX7_compose_45 (by decide) ?_
        refine W.widen (k := 15) (n := 175) (Nat.le_of_ble_eq_true rfl) (Nat.le_of_ble_eq_true rfl) ?_
        exact W.iret hx hb hr (fun t ht hW => ⟨⟨(-1 : Int32), S, rfl, h, hO.q ht⟩, hO.f ht⟩) hO.lc dX7_compose_46
      · have h := h.2 a42 rfl
        show W _ _ _ _ _ _ _ _ _ _ _ _ _ _ _ (F0 _ _ _ (.ref a42 :: _))
        refine lv_astore (lv' := [(6, .ref a42), (5, .ref a30), (4, .ref a6), (0, .ref a0), (1, .int v1), (2, .int v2), (3, .int v3)]) hx hb dX7_compose_28 hl (by decide) rfl (fun ls hl => ?_)
        refine lv_aload hx hb dX7_compose_30 (lv_at hl 2 rfl) ?_
        refine lv_ifnull hx hb dX7_compose_32 ?_
        refine lv_aload hx hb dX7_compose_35 (lv_at hl 1 rfl) ?_
        refine lv_ifnull hx hb dX7_compose_37 ?_
        refine lv_aload hx hb dX7_compose_40 (lv_at hl 0 rfl) ?_
        refine lv_ifnonnull (tgt := 47) hx hb dX7_compose_42 (by decide) ?_
        refine lv_aload hx hb dX7_compose_47 (lv_at hl 1 rfl) ?_
        obtain ⟨fs43, i44, e45, e45', h⟩ := h
        refine r_get C hO 0 1 rfl inX0 (Nat.le_of_ble_eq_true rfl) e45 e45' (List.mem_of_getElem? (i := 2) (by decide +kernel)) dX7_compose_49 ?_
        refine lv_aload hx hb dX7_compose_52 (lv_at hl 0 rfl) ?_
        obtain ⟨fs46, i47, e48, e48', h⟩ := h
        refine r_get C hO 0 1 rfl inX0 (Nat.le_of_ble_eq_true rfl) e48 e48' (List.mem_of_getElem? (i := 2) (by decide +kernel)) dX7_compose_54 ?_
        refine lv_iadd hx hb dX7_compose_57 ?_
        refine lv_bipush (v := (nI 24)) hx hb dX7_compose_58 (by decide) ?_
        refine lv_icmp_le (tgt := 66) hx hb dX7_compose_60 (by decide) (fun c49 => ?_) (fun c49 => ?_)
        · have h := h.1 c49
          refine lv_aload_n hx hb dX7_compose_66 rfl (lv_at hl 3 rfl) ?_
          obtain ⟨fs50, a51, e52, e52', h⟩ := h
          refine r_get C hO 5 1 rfl inX7 (Nat.le_of_ble_eq_true rfl) e52 e52' (List.mem_of_getElem? (i := 3) (by decide +kernel)) dX7_compose_67 ?_
          refine lv_aload_n hx hb dX7_compose_70 rfl (lv_at hl 3 rfl) ?_
          obtain ⟨fs53, a54, e55, e55', h⟩ := h
          refine r_get C hO 5 0 rfl inX7 (Nat.le_of_ble_eq_true rfl) e55 e55' (List.mem_of_getElem? (i := 1) (by decide +kernel)) dX7_compose_71 ?_
          obtain ⟨fs58, e57, h⟩ := h
          refine cV_wv (As := [.ref a54]) (rest := []) (n := 1) C hO (fun L => c_X3_keep l D Y L S s.heap.size a51 a54 _ h) 3 rfl e57 (cwV 1 hts gX7_compose_X3_keep rfl rfl rfl ⟨rfl, hdS_X3_keep⟩ ⟨Nat.le_of_ble_eq_true rfl, Nat.le_of_ble_eq_true rfl⟩) rfl hl.1 rfl (Nat.le_of_ble_eq_true rfl) dX7_compose_74 ⟨(Nat.le_of_ble_eq_true rfl), (Nat.le_of_ble_eq_true rfl)⟩ (fun S56 H locs h hO => ?_)
          refine lv_aload_n hx hb dX7_compose_77 rfl (lv_at hl 3 rfl) ?_
          obtain ⟨fs59, a60, e61, e61', h⟩ := h
          refine r_get C hO 5 5 rfl inX7 (Nat.le_of_ble_eq_true rfl) e61 e61' (List.mem_of_getElem? (i := 4) (by decide +kernel)) dX7_compose_78 ?_
          refine lv_iconst (v := (nI 0)) hx hb dX7_compose_81 (by decide) ?_
          obtain ⟨fs62, e63, e63', h⟩ := h
          refine r_put C hO 0 1 rfl inX0 tyX0_ok nmX0 (Nat.le_of_ble_eq_true rfl) rfl rfl rfl e63 e63' (List.mem_of_getElem? (i := 2) (by decide +kernel)) dX7_compose_82 (fun H locs hO => ?_)
          obtain ⟨S64, eS64⟩ : ∃ Sx, Sx = va_up S56 a60 (.inl (0, fs62.set 1 (.int (nI 0)))) := ⟨_, rfl⟩
          rw [← eS64] at hO
          have h := h S64 eS64
          refine lv_aload_n hx hb dX7_compose_85 rfl (lv_at hl 3 rfl) ?_
          obtain ⟨fs65, a66, e67, e67', h⟩ := h
          refine r_get C hO 5 5 rfl inX7 (Nat.le_of_ble_eq_true rfl) e67 e67' (List.mem_of_getElem? (i := 4) (by decide +kernel)) dX7_compose_86 ?_
          refine lv_aload hx hb dX7_compose_89 (lv_at hl 1 rfl) ?_
          obtain ⟨fs70, e69, h⟩ := h
          refine cV_wv (As := [.ref a30]) (rest := []) (n := 1) C hO (fun L => c_X0_append l D Y L S64 H.size a66 a30 _ h) 0 rfl e69 (cwV 1 hts gX7_compose_X0_append rfl rfl rfl ⟨rfl, hdS_X0_append⟩ ⟨Nat.le_of_ble_eq_true rfl, Nat.le_of_ble_eq_true rfl⟩) rfl hl.1 rfl (Nat.le_of_ble_eq_true rfl) dX7_compose_91 ⟨(Nat.le_of_ble_eq_true rfl), (Nat.le_of_ble_eq_true rfl)⟩ (fun S68 H locs h hO => ?_)
          refine lv_aload_n hx hb dX7_compose_94 rfl (lv_at hl 3 rfl) ?_
          obtain ⟨fs71, a72, e73, e73', h⟩ := h
          refine r_get C hO 5 5 rfl inX7 (Nat.le_of_ble_eq_true rfl) e73 e73' (List.mem_of_getElem? (i := 4) (by decide +kernel)) dX7_compose_95 ?_
          refine lv_aload hx hb dX7_compose_98 (lv_at hl 0 rfl) ?_
          obtain ⟨fs76, e75, h⟩ := h
          refine cV_wv (As := [.ref a42]) (rest := []) (n := 1) C hO (fun L => c_X0_append l D Y L S68 H.size a72 a42 _ h) 0 rfl e75 (cwV 1 hts gX7_compose_X0_append rfl rfl rfl ⟨rfl, hdS_X0_append⟩ ⟨Nat.le_of_ble_eq_true rfl, Nat.le_of_ble_eq_true rfl⟩) rfl hl.1 rfl (Nat.le_of_ble_eq_true rfl) dX7_compose_100 ⟨(Nat.le_of_ble_eq_true rfl), (Nat.le_of_ble_eq_true rfl)⟩ (fun S74 H locs h hO => ?_)
          refine lv_aload hx hb dX7_compose_103 (lv_at hl 2 rfl) ?_
          refine lv_aload_n hx hb dX7_compose_105 rfl (lv_at hl 3 rfl) ?_
          obtain ⟨fs77, a78, e79, e79', h⟩ := h
          refine r_get C hO 5 5 rfl inX7 (Nat.le_of_ble_eq_true rfl) e79 e79' (List.mem_of_getElem? (i := 4) (by decide +kernel)) dX7_compose_106 ?_
          obtain ⟨fs82, e81, h⟩ := h
          refine cV_wv (As := [.ref a78]) (rest := []) (n := 1) C hO (fun L => c_X0_copyFrom l D Y L S74 H.size a6 a78 _ h) 0 rfl e81 (cwV 1 hts gX7_compose_X0_copyFrom rfl rfl rfl ⟨rfl, hdS_X0_copyFrom⟩ ⟨Nat.le_of_ble_eq_true rfl, Nat.le_of_ble_eq_true rfl⟩) rfl hl.1 rfl (Nat.le_of_ble_eq_true rfl) dX7_compose_109 ⟨(Nat.le_of_ble_eq_true rfl), (Nat.le_of_ble_eq_true rfl)⟩ (fun S80 H locs h hO => ?_)
          refine lv_aload hx hb dX7_compose_112 (lv_at hl 2 rfl) ?_
          obtain ⟨fs83, i84, e85, e85', h⟩ := h
          refine r_get C hO 0 1 rfl inX0 (Nat.le_of_ble_eq_true rfl) e85 e85' (List.mem_of_getElem? (i := 2) (by decide +kernel)) dX7_compose_114 ?_
          exact W.iret hx hb hr (fun t ht hW => ⟨⟨i84, S80, rfl, h, hO.q ht⟩, hO.f ht⟩) hO.lc dX7_compose_117
        · have h := h.2 c49
          refine lv_bipush (v := (-4 : Int32)) hx hb dX7_compose_63 (by decide) ?_
          refine W.widen (k := 15) (n := 175) (Nat.le_of_ble_eq_true rfl) (Nat.le_of_ble_eq_true rfl) ?_
          exact W.iret hx hb hr (fun t ht hW => ⟨⟨(-4 : Int32), S, rfl, h, hO.q ht⟩, hO.f ht⟩) hO.lc dX7_compose_65
theorem hdS_X7_turnRound : yX7_turnRound.cls ≠ "java/lang/invoke/MethodHandle" ∧ yX7_turnRound.cls ≠ "java/lang/invoke/VarHandle" ∧ (parseMethodDescriptor yX7_turnRound.desc).map (fun d => d.parameters.length) = some 2 := by decide +kernel
set_option maxHeartbeats 4000000 in
set_option maxRecDepth 100000 in
theorem c_X7_turnRound (l : Launch) (D : va_G) (Y : Nat → ClassId) (L : List Nat) (S : PS) (sz : Nat) (a0 : Nat) (v1 : Int32) (v2 : Int32) (Post : Int32 → PS → Prop) (h : wp_X7_turnRound S a0 v1 v2 Post) : Met l yX7_turnRound wsX7_turnRound ({ frames := 4, cells := 15, slots := 175, locals := 85 }) (va_Pc [.ref a0, .int v1, .int v2] (PrO D Y L S sz)) (va_Qi Post (QtO D Y (fR L sz)) (fR L sz)) 15 175 (fR L sz) := by
  refine Met.ofW (cc := cX7_turnRound) (maxL := 5) (ret := (some .int)) (by decide) rfl ?_
  intro p e s m args below meth c s₁ B hml hv
  obtain ⟨rfl, hsz, hJ, hP, hK, hD0, hZ⟩ := hv
  have hx := B.exec
  have hb := B.bytes
  have hr := B.returns
  have hts := atoms_spec (ws := wsX7_turnRound) B.pre
  have hown : s.vm.findClass RX7 = some m.cls := findClass_of_methodNamed B.named
  have hlocks := B.notSynchronized
  have CF : CallFix p m c cX7_turnRound 5 s ([.ref a0, .int v1, .int v2] : List Value).toArray wsX7_turnRound RX7 := ⟨hx, hb, hml, hown, hts⟩
  have C : CX p m c cX7_turnRound 5 s ([.ref a0, .int v1, .int v2] : List Value).toArray wsX7_turnRound RX7 D Y := ⟨CF, hK, hZ⟩
  have hO : HO D Y (fR L sz) s.heap S s.heap [] := HO.entry hsz hJ hP hD0
  subst hsz
  have inX0 : ∀ w ∈ wsX00, w ∈ wsX7_turnRound := fun w h => List.mem_cons_of_mem _ (List.mem_append_left _ (List.mem_append_left _ (List.mem_append_right _ h)))
  have inX7 : ∀ w ∈ wsX70, w ∈ wsX7_turnRound := fun w h => List.mem_cons_of_mem _ (List.mem_append_left _ (List.mem_append_left _ (List.mem_append_left _ (List.mem_append_right _ h))))
  have hl := lv_entry ([.ref a0, .int v1, .int v2]) (n := 5) (Nat.le_of_ble_eq_true rfl)
  rw [lg_entry_eq]
  generalize (lg_sl ([.ref a0, .int v1, .int v2]) ++ List.replicate (5 - (lg_sl ([.ref a0, .int v1, .int v2])).length) Slot.unset).toArray = ls at hl ⊢
  have hl : lv_has ls 5 [(0, .ref a0), (1, .int v1), (2, .int v2)] := hl
  unfold wp_X7_turnRound at h
  refine lv_aload_n hx hb dX7_turnRound_0 rfl (lv_at hl 0 rfl) ?_
  obtain ⟨fs1, a2, e3, e3', h⟩ := h
  refine r_get C hO 5 0 rfl inX7 (Nat.le_of_ble_eq_true rfl) e3 e3' (List.mem_of_getElem? (i := 1) (by decide +kernel)) dX7_turnRound_1 ?_
  refine lv_iload_n hx hb dX7_turnRound_4 rfl (lv_at hl 1 rfl) ?_
  obtain ⟨fs5, e4, h⟩ := h
  refine cV_rq (As := [.int v1]) (rest := []) (n := 1) C hO (fun L => c_X1_draftAt l D Y L S s.heap.size a2 v1 _ h) 1 rfl e4 (cwV 1 hts gX7_turnRound_X1_draftAt rfl rfl rfl ⟨rfl, hdS_X1_draftAt⟩ ⟨Nat.le_of_ble_eq_true rfl, Nat.le_of_ble_eq_true rfl⟩) rfl hl.1 rfl (Nat.le_of_ble_eq_true rfl) dX7_turnRound_5 ⟨(Nat.le_of_ble_eq_true rfl), (Nat.le_of_ble_eq_true rfl)⟩ (fun rq h => ?_)
  rcases rq with _ | a6
  · have h := h.1 rfl
    show W _ _ _ _ _ _ _ _ _ _ _ _ _ _ _ (F0 _ _ _ (.null :: _))
    refine lv_astore_nN (lv' := [(3, .null), (0, .ref a0), (1, .int v1), (2, .int v2)]) hx hb dX7_turnRound_8 rfl hl (by decide) rfl (fun ls hl => ?_)
    refine lv_aload_n hx hb dX7_turnRound_9 rfl (lv_at hl 1 rfl) ?_
    obtain ⟨fs7, a8, e9, e9', h⟩ := h
    refine r_get C hO 5 0 rfl inX7 (Nat.le_of_ble_eq_true rfl) e9 e9' (List.mem_of_getElem? (i := 1) (by decide +kernel)) dX7_turnRound_10 ?_
    refine lv_iload_n hx hb dX7_turnRound_13 rfl (lv_at hl 3 rfl) ?_
    obtain ⟨fs11, e10, h⟩ := h
    refine cV_rq (As := [.int v2]) (rest := []) (n := 1) C hO (fun L => c_X1_draftAt l D Y L S s.heap.size a8 v2 _ h) 1 rfl e10 (cwV 1 hts gX7_turnRound_X1_draftAt rfl rfl rfl ⟨rfl, hdS_X1_draftAt⟩ ⟨Nat.le_of_ble_eq_true rfl, Nat.le_of_ble_eq_true rfl⟩) rfl hl.1 rfl (Nat.le_of_ble_eq_true rfl) dX7_turnRound_14 ⟨(Nat.le_of_ble_eq_true rfl), (Nat.le_of_ble_eq_true rfl)⟩ (fun rq h => ?_)
    rcases rq with _ | a12
    · have h := h.1 rfl
      show W _ _ _ _ _ _ _ _ _ _ _ _ _ _ _ (F0 _ _ _ (.null :: _))
      refine lv_astoreN (lv' := [(4, .null), (3, .null), (0, .ref a0), (1, .int v1), (2, .int v2)]) hx hb dX7_turnRound_17 hl (by decide) rfl (fun ls hl => ?_)
      refine lv_aload_nN hx hb dX7_turnRound_19 rfl (lv_at hl 1 rfl) ?_
      refine lv_ifnullN (tgt := 28) hx hb dX7_turnRound_20 (by decide) ?_
      refine lv_iconst (v := (-1 : Int32)) hx hb dX7_turnRound_28 (by decide) ?_
      refine W.widen (k := 15) (n := 175) (Nat.le_of_ble_eq_true rfl) (Nat.le_of_ble_eq_true rfl) ?_
      exact W.iret hx hb hr (fun t ht hW => ⟨⟨(-1 : Int32), S, rfl, h, hO.q ht⟩, hO.f ht⟩) hO.lc dX7_turnRound_29
    · have h := h.2 a12 rfl
      show W _ _ _ _ _ _ _ _ _ _ _ _ _ _ _ (F0 _ _ _ (.ref a12 :: _))
      refine lv_astore (lv' := [(4, .ref a12), (3, .null), (0, .ref a0), (1, .int v1), (2, .int v2)]) hx hb dX7_turnRound_17 hl (by decide) rfl (fun ls hl => ?_)
      refine lv_aload_nN hx hb dX7_turnRound_19 rfl (lv_at hl 1 rfl) ?_
      refine lv_ifnullN (tgt := 28) hx hb dX7_turnRound_20 (by decide) ?_
      refine lv_iconst (v := (-1 : Int32)) hx hb dX7_turnRound_28 (by decide) ?_
      refine W.widen (k := 15) (n := 175) (Nat.le_of_ble_eq_true rfl) (Nat.le_of_ble_eq_true rfl) ?_
      exact W.iret hx hb hr (fun t ht hW => ⟨⟨(-1 : Int32), S, rfl, h, hO.q ht⟩, hO.f ht⟩) hO.lc dX7_turnRound_29
  · have h := h.2 a6 rfl
    show W _ _ _ _ _ _ _ _ _ _ _ _ _ _ _ (F0 _ _ _ (.ref a6 :: _))
    refine lv_astore_n (lv' := [(3, .ref a6), (0, .ref a0), (1, .int v1), (2, .int v2)]) hx hb dX7_turnRound_8 rfl hl (by decide) rfl (fun ls hl => ?_)
    refine lv_aload_n hx hb dX7_turnRound_9 rfl (lv_at hl 1 rfl) ?_
    obtain ⟨fs13, a14, e15, e15', h⟩ := h
    refine r_get C hO 5 0 rfl inX7 (Nat.le_of_ble_eq_true rfl) e15 e15' (List.mem_of_getElem? (i := 1) (by decide +kernel)) dX7_turnRound_10 ?_
    refine lv_iload_n hx hb dX7_turnRound_13 rfl (lv_at hl 3 rfl) ?_
    obtain ⟨fs17, e16, h⟩ := h
    refine cV_rq (As := [.int v2]) (rest := []) (n := 1) C hO (fun L => c_X1_draftAt l D Y L S s.heap.size a14 v2 _ h) 1 rfl e16 (cwV 1 hts gX7_turnRound_X1_draftAt rfl rfl rfl ⟨rfl, hdS_X1_draftAt⟩ ⟨Nat.le_of_ble_eq_true rfl, Nat.le_of_ble_eq_true rfl⟩) rfl hl.1 rfl (Nat.le_of_ble_eq_true rfl) dX7_turnRound_14 ⟨(Nat.le_of_ble_eq_true rfl), (Nat.le_of_ble_eq_true rfl)⟩ (fun rq h => ?_)
    rcases rq with _ | a18
    · have h := h.1 rfl
      show W _ _ _ _ _ _ _ _ _ _ _ _ _ _ _ (F0 _ _ _ (.null :: _))
      refine lv_astoreN (lv' := [(4, .null), (3, .ref a6), (0, .ref a0), (1, .int v1), (2, .int v2)]) hx hb dX7_turnRound_17 hl (by decide) rfl (fun ls hl => ?_)
      refine lv_aload_n hx hb dX7_turnRound_19 rfl (lv_at hl 1 rfl) ?_
      refine lv_ifnull hx hb dX7_turnRound_20 ?_
      refine lv_aloadN hx hb dX7_turnRound_23 (lv_at hl 0 rfl) ?_
      refine lv_ifnonnullN hx hb dX7_turnRound_25 ?_
      refine lv_iconst (v := (-1 : Int32)) hx hb dX7_turnRound_28 (by decide) ?_
      refine W.widen (k := 15) (n := 175) (Nat.le_of_ble_eq_true rfl) (Nat.le_of_ble_eq_true rfl) ?_
      exact W.iret hx hb hr (fun t ht hW => ⟨⟨(-1 : Int32), S, rfl, h, hO.q ht⟩, hO.f ht⟩) hO.lc dX7_turnRound_29
    · have h := h.2 a18 rfl
      show W _ _ _ _ _ _ _ _ _ _ _ _ _ _ _ (F0 _ _ _ (.ref a18 :: _))
      refine lv_astore (lv' := [(4, .ref a18), (3, .ref a6), (0, .ref a0), (1, .int v1), (2, .int v2)]) hx hb dX7_turnRound_17 hl (by decide) rfl (fun ls hl => ?_)
      refine lv_aload_n hx hb dX7_turnRound_19 rfl (lv_at hl 1 rfl) ?_
      refine lv_ifnull hx hb dX7_turnRound_20 ?_
      refine lv_aload hx hb dX7_turnRound_23 (lv_at hl 0 rfl) ?_
      refine lv_ifnonnull (tgt := 30) hx hb dX7_turnRound_25 (by decide) ?_
      refine lv_aload_n hx hb dX7_turnRound_30 rfl (lv_at hl 2 rfl) ?_
      obtain ⟨fs19, a20, e21, e21', h⟩ := h
      refine r_get C hO 5 1 rfl inX7 (Nat.le_of_ble_eq_true rfl) e21 e21' (List.mem_of_getElem? (i := 2) (by decide +kernel)) dX7_turnRound_31 ?_
      refine lv_aload_n hx hb dX7_turnRound_34 rfl (lv_at hl 2 rfl) ?_
      obtain ⟨fs22, a23, e24, e24', h⟩ := h
      refine r_get C hO 5 0 rfl inX7 (Nat.le_of_ble_eq_true rfl) e24 e24' (List.mem_of_getElem? (i := 1) (by decide +kernel)) dX7_turnRound_35 ?_
      obtain ⟨fs27, e26, h⟩ := h
      refine cV_wv (As := [.ref a23]) (rest := []) (n := 1) C hO (fun L => c_X3_keep l D Y L S s.heap.size a20 a23 _ h) 3 rfl e26 (cwV 1 hts gX7_turnRound_X3_keep rfl rfl rfl ⟨rfl, hdS_X3_keep⟩ ⟨Nat.le_of_ble_eq_true rfl, Nat.le_of_ble_eq_true rfl⟩) rfl hl.1 rfl (Nat.le_of_ble_eq_true rfl) dX7_turnRound_38 ⟨(Nat.le_of_ble_eq_true rfl), (Nat.le_of_ble_eq_true rfl)⟩ (fun S25 H locs h hO => ?_)
      refine lv_aload_n hx hb dX7_turnRound_41 rfl (lv_at hl 2 rfl) ?_
      obtain ⟨fs28, a29, e30, e30', h⟩ := h
      refine r_get C hO 5 5 rfl inX7 (Nat.le_of_ble_eq_true rfl) e30 e30' (List.mem_of_getElem? (i := 3) (by decide +kernel)) dX7_turnRound_42 ?_
      refine lv_iconst (v := (nI 0)) hx hb dX7_turnRound_45 (by decide) ?_
      obtain ⟨fs31, e32, e32', h⟩ := h
      refine r_put C hO 0 1 rfl inX0 tyX0_ok nmX0 (Nat.le_of_ble_eq_true rfl) rfl rfl rfl e32 e32' (List.mem_of_getElem? (i := 4) (by decide +kernel)) dX7_turnRound_46 (fun H locs hO => ?_)
      obtain ⟨S33, eS33⟩ : ∃ Sx, Sx = va_up S25 a29 (.inl (0, fs31.set 1 (.int (nI 0)))) := ⟨_, rfl⟩
      rw [← eS33] at hO
      have h := h S33 eS33
      refine lv_aload_n hx hb dX7_turnRound_49 rfl (lv_at hl 2 rfl) ?_
      obtain ⟨fs34, a35, e36, e36', h⟩ := h
      refine r_get C hO 5 5 rfl inX7 (Nat.le_of_ble_eq_true rfl) e36 e36' (List.mem_of_getElem? (i := 3) (by decide +kernel)) dX7_turnRound_50 ?_
      refine lv_aload hx hb dX7_turnRound_53 (lv_at hl 0 rfl) ?_
      obtain ⟨fs39, e38, h⟩ := h
      refine cV_wv (As := [.ref a18]) (rest := []) (n := 1) C hO (fun L => c_X0_appendTurned l D Y L S33 H.size a35 a18 _ h) 0 rfl e38 (cwV 1 hts gX7_turnRound_X0_appendTurned rfl rfl rfl ⟨rfl, hdS_X0_appendTurned⟩ ⟨Nat.le_of_ble_eq_true rfl, Nat.le_of_ble_eq_true rfl⟩) rfl hl.1 rfl (Nat.le_of_ble_eq_true rfl) dX7_turnRound_55 ⟨(Nat.le_of_ble_eq_true rfl), (Nat.le_of_ble_eq_true rfl)⟩ (fun S37 H locs h hO => ?_)
      refine lv_aload_n hx hb dX7_turnRound_58 rfl (lv_at hl 1 rfl) ?_
      refine lv_aload_n hx hb dX7_turnRound_59 rfl (lv_at hl 2 rfl) ?_
      obtain ⟨fs40, a41, e42, e42', h⟩ := h
      refine r_get C hO 5 5 rfl inX7 (Nat.le_of_ble_eq_true rfl) e42 e42' (List.mem_of_getElem? (i := 3) (by decide +kernel)) dX7_turnRound_60 ?_
      obtain ⟨fs45, e44, h⟩ := h
      refine cV_wv (As := [.ref a41]) (rest := []) (n := 1) C hO (fun L => c_X0_copyFrom l D Y L S37 H.size a6 a41 _ h) 0 rfl e44 (cwV 1 hts gX7_turnRound_X0_copyFrom rfl rfl rfl ⟨rfl, hdS_X0_copyFrom⟩ ⟨Nat.le_of_ble_eq_true rfl, Nat.le_of_ble_eq_true rfl⟩) rfl hl.1 rfl (Nat.le_of_ble_eq_true rfl) dX7_turnRound_63 ⟨(Nat.le_of_ble_eq_true rfl), (Nat.le_of_ble_eq_true rfl)⟩ (fun S43 H locs h hO => ?_)
      refine lv_aload_n hx hb dX7_turnRound_66 rfl (lv_at hl 1 rfl) ?_
      obtain ⟨fs46, i47, e48, e48', h⟩ := h
      refine r_get C hO 0 1 rfl inX0 (Nat.le_of_ble_eq_true rfl) e48 e48' (List.mem_of_getElem? (i := 4) (by decide +kernel)) dX7_turnRound_67 ?_
      exact W.iret hx hb hr (fun t ht hW => ⟨⟨i47, S43, rfl, h, hO.q ht⟩, hO.f ht⟩) hO.lc dX7_turnRound_70
theorem hdS_X7_repeat : yX7_repeat.cls ≠ "java/lang/invoke/MethodHandle" ∧ yX7_repeat.cls ≠ "java/lang/invoke/VarHandle" ∧ (parseMethodDescriptor yX7_repeat.desc).map (fun d => d.parameters.length) = some 3 := by decide +kernel
set_option maxHeartbeats 4000000 in
set_option maxRecDepth 100000 in
theorem c_X7_repeat (l : Launch) (D : va_G) (Y : Nat → ClassId) (L : List Nat) (S : PS) (sz : Nat) (a0 : Nat) (v1 : Int32) (v2 : Int32) (v3 : Int32) (Post : Int32 → PS → Prop) (h : wp_X7_repeat S a0 v1 v2 v3 Post) : Met l yX7_repeat wsX7_repeat ({ frames := 4, cells := 15, slots := 175, locals := 85 }) (va_Pc [.ref a0, .int v1, .int v2, .int v3] (PrO D Y L S sz)) (va_Qi Post (QtO D Y (fR L sz)) (fR L sz)) 15 175 (fR L sz) := by
  refine Met.ofW (cc := cX7_repeat) (maxL := 7) (ret := (some .int)) (by decide) rfl ?_
  intro p e s m args below meth c s₁ B hml hv
  obtain ⟨rfl, hsz, hJ, hP, hK, hD0, hZ⟩ := hv
  have hx := B.exec
  have hb := B.bytes
  have hr := B.returns
  have hts := atoms_spec (ws := wsX7_repeat) B.pre
  have hown : s.vm.findClass RX7 = some m.cls := findClass_of_methodNamed B.named
  have hlocks := B.notSynchronized
  have CF : CallFix p m c cX7_repeat 7 s ([.ref a0, .int v1, .int v2, .int v3] : List Value).toArray wsX7_repeat RX7 := ⟨hx, hb, hml, hown, hts⟩
  have C : CX p m c cX7_repeat 7 s ([.ref a0, .int v1, .int v2, .int v3] : List Value).toArray wsX7_repeat RX7 D Y := ⟨CF, hK, hZ⟩
  have hO : HO D Y (fR L sz) s.heap S s.heap [] := HO.entry hsz hJ hP hD0
  subst hsz
  have inX0 : ∀ w ∈ wsX00, w ∈ wsX7_repeat := fun w h => List.mem_cons_of_mem _ (List.mem_append_left _ (List.mem_append_left _ (List.mem_append_right _ h)))
  have inX7 : ∀ w ∈ wsX70, w ∈ wsX7_repeat := fun w h => List.mem_cons_of_mem _ (List.mem_append_left _ (List.mem_append_left _ (List.mem_append_left _ (List.mem_append_right _ h))))
  have hl := lv_entry ([.ref a0, .int v1, .int v2, .int v3]) (n := 7) (Nat.le_of_ble_eq_true rfl)
  rw [lg_entry_eq]
  generalize (lg_sl ([.ref a0, .int v1, .int v2, .int v3]) ++ List.replicate (7 - (lg_sl ([.ref a0, .int v1, .int v2, .int v3])).length) Slot.unset).toArray = ls at hl ⊢
  have hl : lv_has ls 7 [(0, .ref a0), (1, .int v1), (2, .int v2), (3, .int v3)] := hl
  unfold wp_X7_repeat at h
  refine lv_aload_n hx hb dX7_repeat_0 rfl (lv_at hl 0 rfl) ?_
  obtain ⟨fs1, a2, e3, e3', h⟩ := h
  refine r_get C hO 5 0 rfl inX7 (Nat.le_of_ble_eq_true rfl) e3 e3' (List.mem_of_getElem? (i := 1) (by decide +kernel)) dX7_repeat_1 ?_
  refine lv_iload_n hx hb dX7_repeat_4 rfl (lv_at hl 1 rfl) ?_
  obtain ⟨fs5, e4, h⟩ := h
  refine cV_rq (As := [.int v1]) (rest := []) (n := 1) C hO (fun L => c_X1_draftAt l D Y L S s.heap.size a2 v1 _ h) 1 rfl e4 (cwV 1 hts gX7_repeat_X1_draftAt rfl rfl rfl ⟨rfl, hdS_X1_draftAt⟩ ⟨Nat.le_of_ble_eq_true rfl, Nat.le_of_ble_eq_true rfl⟩) rfl hl.1 rfl (Nat.le_of_ble_eq_true rfl) dX7_repeat_5 ⟨(Nat.le_of_ble_eq_true rfl), (Nat.le_of_ble_eq_true rfl)⟩ (fun rq h => ?_)
  rcases rq with _ | a6
  · have h := h.1 rfl
    show W _ _ _ _ _ _ _ _ _ _ _ _ _ _ _ (F0 _ _ _ (.null :: _))
    refine lv_astoreN (lv' := [(4, .null), (0, .ref a0), (1, .int v1), (2, .int v2), (3, .int v3)]) hx hb dX7_repeat_8 hl (by decide) rfl (fun ls hl => ?_)
    refine lv_aload_n hx hb dX7_repeat_10 rfl (lv_at hl 1 rfl) ?_
    obtain ⟨fs7, a8, e9, e9', h⟩ := h
    refine r_get C hO 5 0 rfl inX7 (Nat.le_of_ble_eq_true rfl) e9 e9' (List.mem_of_getElem? (i := 1) (by decide +kernel)) dX7_repeat_11 ?_
    refine lv_iload_n hx hb dX7_repeat_14 rfl (lv_at hl 3 rfl) ?_
    obtain ⟨fs11, e10, h⟩ := h
    refine cV_rq (As := [.int v2]) (rest := []) (n := 1) C hO (fun L => c_X1_draftAt l D Y L S s.heap.size a8 v2 _ h) 1 rfl e10 (cwV 1 hts gX7_repeat_X1_draftAt rfl rfl rfl ⟨rfl, hdS_X1_draftAt⟩ ⟨Nat.le_of_ble_eq_true rfl, Nat.le_of_ble_eq_true rfl⟩) rfl hl.1 rfl (Nat.le_of_ble_eq_true rfl) dX7_repeat_15 ⟨(Nat.le_of_ble_eq_true rfl), (Nat.le_of_ble_eq_true rfl)⟩ (fun rq h => ?_)
    rcases rq with _ | a12
    · have h := h.1 rfl
      show W _ _ _ _ _ _ _ _ _ _ _ _ _ _ _ (F0 _ _ _ (.null :: _))
      refine lv_astoreN (lv' := [(5, .null), (4, .null), (0, .ref a0), (1, .int v1), (2, .int v2), (3, .int v3)]) hx hb dX7_repeat_18 hl (by decide) rfl (fun ls hl => ?_)
      refine lv_aloadN hx hb dX7_repeat_20 (lv_at hl 1 rfl) ?_
      refine lv_ifnullN (tgt := 30) hx hb dX7_repeat_22 (by decide) ?_
      refine lv_iconst (v := (-1 : Int32)) hx hb dX7_repeat_30 (by decide) ?_
      refine W.widen (k := 15) (n := 175) (Nat.le_of_ble_eq_true rfl) (Nat.le_of_ble_eq_true rfl) ?_
      exact W.iret hx hb hr (fun t ht hW => ⟨⟨(-1 : Int32), S, rfl, h, hO.q ht⟩, hO.f ht⟩) hO.lc dX7_repeat_31
    · have h := h.2 a12 rfl
      show W _ _ _ _ _ _ _ _ _ _ _ _ _ _ _ (F0 _ _ _ (.ref a12 :: _))
      refine lv_astore (lv' := [(5, .ref a12), (4, .null), (0, .ref a0), (1, .int v1), (2, .int v2), (3, .int v3)]) hx hb dX7_repeat_18 hl (by decide) rfl (fun ls hl => ?_)
      refine lv_aloadN hx hb dX7_repeat_20 (lv_at hl 1 rfl) ?_
      refine lv_ifnullN (tgt := 30) hx hb dX7_repeat_22 (by decide) ?_
      refine lv_iconst (v := (-1 : Int32)) hx hb dX7_repeat_30 (by decide) ?_
      refine W.widen (k := 15) (n := 175) (Nat.le_of_ble_eq_true rfl) (Nat.le_of_ble_eq_true rfl) ?_
      exact W.iret hx hb hr (fun t ht hW => ⟨⟨(-1 : Int32), S, rfl, h, hO.q ht⟩, hO.f ht⟩) hO.lc dX7_repeat_31
  · have h := h.2 a6 rfl
    show W _ _ _ _ _ _ _ _ _ _ _ _ _ _ _ (F0 _ _ _ (.ref a6 :: _))
    refine lv_astore (lv' := [(4, .ref a6), (0, .ref a0), (1, .int v1), (2, .int v2), (3, .int v3)]) hx hb dX7_repeat_8 hl (by decide) rfl (fun ls hl => ?_)
    refine lv_aload_n hx hb dX7_repeat_10 rfl (lv_at hl 1 rfl) ?_
    obtain ⟨fs13, a14, e15, e15', h⟩ := h
    refine r_get C hO 5 0 rfl inX7 (Nat.le_of_ble_eq_true rfl) e15 e15' (List.mem_of_getElem? (i := 1) (by decide +kernel)) dX7_repeat_11 ?_
    refine lv_iload_n hx hb dX7_repeat_14 rfl (lv_at hl 3 rfl) ?_
    obtain ⟨fs17, e16, h⟩ := h
    refine cV_rq (As := [.int v2]) (rest := []) (n := 1) C hO (fun L => c_X1_draftAt l D Y L S s.heap.size a14 v2 _ h) 1 rfl e16 (cwV 1 hts gX7_repeat_X1_draftAt rfl rfl rfl ⟨rfl, hdS_X1_draftAt⟩ ⟨Nat.le_of_ble_eq_true rfl, Nat.le_of_ble_eq_true rfl⟩) rfl hl.1 rfl (Nat.le_of_ble_eq_true rfl) dX7_repeat_15 ⟨(Nat.le_of_ble_eq_true rfl), (Nat.le_of_ble_eq_true rfl)⟩ (fun rq h => ?_)
    rcases rq with _ | a18
    · have h := h.1 rfl
      show W _ _ _ _ _ _ _ _ _ _ _ _ _ _ _ (F0 _ _ _ (.null :: _))
      refine lv_astoreN (lv' := [(5, .null), (4, .ref a6), (0, .ref a0), (1, .int v1), (2, .int v2), (3, .int v3)]) hx hb dX7_repeat_18 hl (by decide) rfl (fun ls hl => ?_)
      refine lv_aload hx hb dX7_repeat_20 (lv_at hl 1 rfl) ?_
      refine lv_ifnull hx hb dX7_repeat_22 ?_
      refine lv_aloadN hx hb dX7_repeat_25 (lv_at hl 0 rfl) ?_
      refine lv_ifnonnullN hx hb dX7_repeat_27 ?_
      refine lv_iconst (v := (-1 : Int32)) hx hb dX7_repeat_30 (by decide) ?_
      refine W.widen (k := 15) (n := 175) (Nat.le_of_ble_eq_true rfl) (Nat.le_of_ble_eq_true rfl) ?_
      exact W.iret hx hb hr (fun t ht hW => ⟨⟨(-1 : Int32), S, rfl, h, hO.q ht⟩, hO.f ht⟩) hO.lc dX7_repeat_31
    · have h := h.2 a18 rfl
      show W _ _ _ _ _ _ _ _ _ _ _ _ _ _ _ (F0 _ _ _ (.ref a18 :: _))
      refine lv_astore (lv' := [(5, .ref a18), (4, .ref a6), (0, .ref a0), (1, .int v1), (2, .int v2), (3, .int v3)]) hx hb dX7_repeat_18 hl (by decide) rfl (fun ls hl => ?_)
      refine lv_aload hx hb dX7_repeat_20 (lv_at hl 1 rfl) ?_
      refine lv_ifnull hx hb dX7_repeat_22 ?_
      refine lv_aload hx hb dX7_repeat_25 (lv_at hl 0 rfl) ?_
      refine lv_ifnonnull (tgt := 32) hx hb dX7_repeat_27 (by decide) ?_
      refine lv_iload_n hx hb dX7_repeat_32 rfl (lv_at hl 5 rfl) ?_
      refine lv_if_lt (tgt := 42) hx hb dX7_repeat_33 (by decide) (fun c19 => ?_) (fun c19 => ?_)
      · have h := h.1 c19
        refine lv_bipush (v := (-2 : Int32)) hx hb dX7_repeat_42 (by decide) ?_
        refine W.widen (k := 15) (n := 175) (Nat.le_of_ble_eq_true rfl) (Nat.le_of_ble_eq_true rfl) ?_
        exact W.iret hx hb hr (fun t ht hW => ⟨⟨(-2 : Int32), S, rfl, h, hO.q ht⟩, hO.f ht⟩) hO.lc dX7_repeat_44
      · have h := h.2 c19
        refine lv_iload_n hx hb dX7_repeat_36 rfl (lv_at hl 5 rfl) ?_
        refine lv_bipush (v := (nI 24)) hx hb dX7_repeat_37 (by decide) ?_
        refine lv_icmp_le (tgt := 45) hx hb dX7_repeat_39 (by decide) (fun c20 => ?_) (fun c20 => ?_)
        · have h := h.1 c20
          refine lv_aload hx hb dX7_repeat_45 (lv_at hl 0 rfl) ?_
          obtain ⟨fs21, i22, e23, e23', h⟩ := h
          refine r_get C hO 0 1 rfl inX0 (Nat.le_of_ble_eq_true rfl) e23 e23' (List.mem_of_getElem? (i := 2) (by decide +kernel)) dX7_repeat_47 ?_
          refine lv_iload_n hx hb dX7_repeat_50 rfl (lv_at hl 5 rfl) ?_
          refine lv_imul hx hb dX7_repeat_51 ?_
          refine lv_bipush (v := (nI 24)) hx hb dX7_repeat_52 (by decide) ?_
          refine lv_icmp_le (tgt := 60) hx hb dX7_repeat_54 (by decide) (fun c24 => ?_) (fun c24 => ?_)
          · have h := h.1 c24
            refine lv_aload_n hx hb dX7_repeat_60 rfl (lv_at hl 2 rfl) ?_
            obtain ⟨fs25, a26, e27, e27', h⟩ := h
            refine r_get C hO 5 1 rfl inX7 (Nat.le_of_ble_eq_true rfl) e27 e27' (List.mem_of_getElem? (i := 3) (by decide +kernel)) dX7_repeat_61 ?_
            refine lv_aload_n hx hb dX7_repeat_64 rfl (lv_at hl 2 rfl) ?_
            obtain ⟨fs28, a29, e30, e30', h⟩ := h
            refine r_get C hO 5 0 rfl inX7 (Nat.le_of_ble_eq_true rfl) e30 e30' (List.mem_of_getElem? (i := 1) (by decide +kernel)) dX7_repeat_65 ?_
            obtain ⟨fs33, e32, h⟩ := h
            refine cV_wv (As := [.ref a29]) (rest := []) (n := 1) C hO (fun L => c_X3_keep l D Y L S s.heap.size a26 a29 _ h) 3 rfl e32 (cwV 1 hts gX7_repeat_X3_keep rfl rfl rfl ⟨rfl, hdS_X3_keep⟩ ⟨Nat.le_of_ble_eq_true rfl, Nat.le_of_ble_eq_true rfl⟩) rfl hl.1 rfl (Nat.le_of_ble_eq_true rfl) dX7_repeat_68 ⟨(Nat.le_of_ble_eq_true rfl), (Nat.le_of_ble_eq_true rfl)⟩ (fun S31 H locs h hO => ?_)
            refine lv_aload_n hx hb dX7_repeat_71 rfl (lv_at hl 2 rfl) ?_
            obtain ⟨fs34, a35, e36, e36', h⟩ := h
            refine r_get C hO 5 5 rfl inX7 (Nat.le_of_ble_eq_true rfl) e36 e36' (List.mem_of_getElem? (i := 4) (by decide +kernel)) dX7_repeat_72 ?_
            refine lv_iconst (v := (nI 0)) hx hb dX7_repeat_75 (by decide) ?_
            obtain ⟨fs37, e38, e38', h⟩ := h
            refine r_put C hO 0 1 rfl inX0 tyX0_ok nmX0 (Nat.le_of_ble_eq_true rfl) rfl rfl rfl e38 e38' (List.mem_of_getElem? (i := 2) (by decide +kernel)) dX7_repeat_76 (fun H locs hO => ?_)
            obtain ⟨S39, eS39⟩ : ∃ Sx, Sx = va_up S31 a35 (.inl (0, fs37.set 1 (.int (nI 0)))) := ⟨_, rfl⟩
            rw [← eS39] at hO
            have h := h S39 eS39
            refine lv_iconst (v := (nI 0)) hx hb dX7_repeat_79 (by decide) ?_
            refine lv_istore (lv' := [(6, .int (nI 0)), (5, .ref a18), (4, .ref a6), (0, .ref a0), (1, .int v1), (2, .int v2), (3, .int v3)]) hx hb dX7_repeat_80 hl (by decide) rfl (fun ls hl => ?_)
            obtain ⟨n59, h⟩ := h
            refine lp_W (nL := 7) (fun q => [(6, .int q.1), (5, .ref a18), (4, .ref a6), (0, .ref a0), (3, .int v3)]) (fun q => q.2) h (lv_sub hl [0, 1, 2, 3, 6] rfl) hO (fun K82 ih82 q ls H locs h hl hO => ?_)
            obtain ⟨i40, S41⟩ := q
            have h : wpb_X7_repeat_82 a0 v3 a6 a18 Post K82 i40 S41 := h
            have hl : lv_has ls 7 [(6, .int i40), (5, .ref a18), (4, .ref a6), (0, .ref a0), (3, .int v3)] := hl
            have hO : HO D Y (fR L s.heap.size) s.heap S41 H locs := hO
            unfold wpb_X7_repeat_82 at h
            refine lv_iload hx hb dX7_repeat_82 (lv_at hl 0 rfl) ?_
            refine lv_iload_n hx hb dX7_repeat_84 rfl (lv_at hl 4 rfl) ?_
            refine lv_icmp_ge (tgt := 103) hx hb dX7_repeat_85 (by decide) (fun c42 => ?_) (fun c42 => ?_)
            · have h := h.1 c42
              refine lv_aload hx hb dX7_repeat_103 (lv_at hl 2 rfl) ?_
              refine lv_aload_n hx hb dX7_repeat_105 rfl (lv_at hl 3 rfl) ?_
              obtain ⟨fs43, a44, e45, e45', h⟩ := h
              refine r_get C hO 5 5 rfl inX7 (Nat.le_of_ble_eq_true rfl) e45 e45' (List.mem_of_getElem? (i := 4) (by decide +kernel)) dX7_repeat_106 ?_
              obtain ⟨fs48, e47, h⟩ := h
              refine cV_wv (As := [.ref a44]) (rest := []) (n := 1) C hO (fun L => c_X0_copyFrom l D Y L S41 H.size a6 a44 _ h) 0 rfl e47 (cwV 1 hts gX7_repeat_X0_copyFrom rfl rfl rfl ⟨rfl, hdS_X0_copyFrom⟩ ⟨Nat.le_of_ble_eq_true rfl, Nat.le_of_ble_eq_true rfl⟩) rfl hl.1 rfl (Nat.le_of_ble_eq_true rfl) dX7_repeat_109 ⟨(Nat.le_of_ble_eq_true rfl), (Nat.le_of_ble_eq_true rfl)⟩ (fun S46 H locs h hO => ?_)
              refine lv_aload hx hb dX7_repeat_112 (lv_at hl 2 rfl) ?_
              obtain ⟨fs49, i50, e51, e51', h⟩ := h
              refine r_get C hO 0 1 rfl inX0 (Nat.le_of_ble_eq_true rfl) e51 e51' (List.mem_of_getElem? (i := 2) (by decide +kernel)) dX7_repeat_114 ?_
              exact W.iret hx hb hr (fun t ht hW => ⟨⟨i50, S46, rfl, h, hO.q ht⟩, hO.f ht⟩) hO.lc dX7_repeat_117
            · have h := h.2 c42
              refine lv_aload_n hx hb dX7_repeat_88 rfl (lv_at hl 3 rfl) ?_
              obtain ⟨fs52, a53, e54, e54', h⟩ := h
              refine r_get C hO 5 5 rfl inX7 (Nat.le_of_ble_eq_true rfl) e54 e54' (List.mem_of_getElem? (i := 4) (by decide +kernel)) dX7_repeat_89 ?_
              refine lv_aload hx hb dX7_repeat_92 (lv_at hl 1 rfl) ?_
              obtain ⟨fs57, e56, h⟩ := h
              refine cV_wv (As := [.ref a18]) (rest := []) (n := 1) C hO (fun L => c_X0_append l D Y L S41 H.size a53 a18 _ h) 0 rfl e56 (cwV 1 hts gX7_repeat_X0_append rfl rfl rfl ⟨rfl, hdS_X0_append⟩ ⟨Nat.le_of_ble_eq_true rfl, Nat.le_of_ble_eq_true rfl⟩) rfl hl.1 rfl (Nat.le_of_ble_eq_true rfl) dX7_repeat_94 ⟨(Nat.le_of_ble_eq_true rfl), (Nat.le_of_ble_eq_true rfl)⟩ (fun S55 H locs h hO => ?_)
              obtain ⟨i58, ei58⟩ : ∃ y : Int32, y = i40 + (nI 1) := ⟨_, rfl⟩
              have h := h i58 ei58
              refine lv_iinc (v := i58) (lv' := [(6, .int i58), (5, .ref a18), (4, .ref a6), (0, .ref a0), (3, .int v3)]) hx hb dX7_repeat_97 hl (k := 0) rfl (by rw [ei58]; rfl) (by decide) rfl (fun ls hl => ?_)
              refine lv_goto (tgt := 82) hx hb dX7_repeat_100 (by decide) ?_
              exact ih82 (i58, S55) _ _ _ h (lv_sub hl [0, 1, 2, 3, 4] rfl) hO
          · have h := h.2 c24
            refine lv_bipush (v := (-4 : Int32)) hx hb dX7_repeat_57 (by decide) ?_
            refine W.widen (k := 15) (n := 175) (Nat.le_of_ble_eq_true rfl) (Nat.le_of_ble_eq_true rfl) ?_
            exact W.iret hx hb hr (fun t ht hW => ⟨⟨(-4 : Int32), S, rfl, h, hO.q ht⟩, hO.f ht⟩) hO.lc dX7_repeat_59
        · have h := h.2 c20
          refine lv_bipush (v := (-2 : Int32)) hx hb dX7_repeat_42 (by decide) ?_
          refine W.widen (k := 15) (n := 175) (Nat.le_of_ble_eq_true rfl) (Nat.le_of_ble_eq_true rfl) ?_
          exact W.iret hx hb hr (fun t ht hW => ⟨⟨(-2 : Int32), S, rfl, h, hO.q ht⟩, hO.f ht⟩) hO.lc dX7_repeat_44
theorem hdS_X7_weave : yX7_weave.cls ≠ "java/lang/invoke/MethodHandle" ∧ yX7_weave.cls ≠ "java/lang/invoke/VarHandle" ∧ (parseMethodDescriptor yX7_weave.desc).map (fun d => d.parameters.length) = some 2 := by decide +kernel
set_option maxHeartbeats 4000000 in
set_option maxRecDepth 100000 in
theorem c_X7_weave (l : Launch) (D : va_G) (Y : Nat → ClassId) (L : List Nat) (S : PS) (sz : Nat) (a0 : Nat) (v1 : Int32) (v2 : Int32) (Post : Int32 → PS → Prop) (h : wp_X7_weave S a0 v1 v2 Post) : Met l yX7_weave wsX7_weave ({ frames := 5, cells := 15, slots := 175, locals := 117 }) (va_Pc [.ref a0, .int v1, .int v2] (PrO D Y L S sz)) (va_Qi Post (QtO D Y (fR L sz)) (fR L sz)) 15 175 (fR L sz) := by
  refine Met.ofW (cc := cX7_weave) (maxL := 4) (ret := (some .int)) (by decide) rfl ?_
  intro p e s m args below meth c s₁ B hml hv
  obtain ⟨rfl, hsz, hJ, hP, hK, hD0, hZ⟩ := hv
  have hx := B.exec
  have hb := B.bytes
  have hr := B.returns
  have hts := atoms_spec (ws := wsX7_weave) B.pre
  have hown : s.vm.findClass RX7 = some m.cls := findClass_of_methodNamed B.named
  have hlocks := B.notSynchronized
  have CF : CallFix p m c cX7_weave 4 s ([.ref a0, .int v1, .int v2] : List Value).toArray wsX7_weave RX7 := ⟨hx, hb, hml, hown, hts⟩
  have C : CX p m c cX7_weave 4 s ([.ref a0, .int v1, .int v2] : List Value).toArray wsX7_weave RX7 D Y := ⟨CF, hK, hZ⟩
  have hO : HO D Y (fR L sz) s.heap S s.heap [] := HO.entry hsz hJ hP hD0
  subst hsz
  have inX0 : ∀ w ∈ wsX00, w ∈ wsX7_weave := fun w h => List.mem_cons_of_mem _ (List.mem_append_left _ (List.mem_append_right _ h))
  have inX1 : ∀ w ∈ wsX10, w ∈ wsX7_weave := fun w h => List.mem_cons_of_mem _ (List.mem_append_left _ (List.mem_append_left _ (List.mem_append_right _ h)))
  have inX7 : ∀ w ∈ wsX70, w ∈ wsX7_weave := fun w h => List.mem_cons_of_mem _ (List.mem_append_left _ (List.mem_append_left _ (List.mem_append_left _ (List.mem_append_right _ h))))
  have hl := lv_entry ([.ref a0, .int v1, .int v2]) (n := 4) (Nat.le_of_ble_eq_true rfl)
  rw [lg_entry_eq]
  generalize (lg_sl ([.ref a0, .int v1, .int v2]) ++ List.replicate (4 - (lg_sl ([.ref a0, .int v1, .int v2])).length) Slot.unset).toArray = ls at hl ⊢
  have hl : lv_has ls 4 [(0, .ref a0), (1, .int v1), (2, .int v2)] := hl
  unfold wp_X7_weave at h
  refine lv_aload_n hx hb dX7_weave_0 rfl (lv_at hl 0 rfl) ?_
  obtain ⟨fs1, a2, e3, e3', h⟩ := h
  refine r_get C hO 5 0 rfl inX7 (Nat.le_of_ble_eq_true rfl) e3 e3' (List.mem_of_getElem? (i := 1) (by decide +kernel)) dX7_weave_1 ?_
  refine lv_iload_n hx hb dX7_weave_4 rfl (lv_at hl 1 rfl) ?_
  obtain ⟨fs5, e4, h⟩ := h
  refine cV_rq (As := [.int v1]) (rest := []) (n := 1) C hO (fun L => c_X1_draftAt l D Y L S s.heap.size a2 v1 _ h) 1 rfl e4 (cwV 1 hts gX7_weave_X1_draftAt rfl rfl rfl ⟨rfl, hdS_X1_draftAt⟩ ⟨Nat.le_of_ble_eq_true rfl, Nat.le_of_ble_eq_true rfl⟩) rfl hl.1 rfl (Nat.le_of_ble_eq_true rfl) dX7_weave_5 ⟨(Nat.le_of_ble_eq_true rfl), (Nat.le_of_ble_eq_true rfl)⟩ (fun rq h => ?_)
  rcases rq with _ | a6
  · have h := h.1 rfl
    show W _ _ _ _ _ _ _ _ _ _ _ _ _ _ _ (F0 _ _ _ (.null :: _))
    refine lv_astore_nN (lv' := [(3, .null), (0, .ref a0), (1, .int v1), (2, .int v2)]) hx hb dX7_weave_8 rfl hl (by decide) rfl (fun ls hl => ?_)
    refine lv_aload_nN hx hb dX7_weave_9 rfl (lv_at hl 0 rfl) ?_
    refine lv_ifnonnullN hx hb dX7_weave_10 ?_
    refine lv_iconst (v := (-1 : Int32)) hx hb dX7_weave_13 (by decide) ?_
    refine W.widen (k := 15) (n := 175) (Nat.le_of_ble_eq_true rfl) (Nat.le_of_ble_eq_true rfl) ?_
    exact W.iret hx hb hr (fun t ht hW => ⟨⟨(-1 : Int32), S, rfl, h, hO.q ht⟩, hO.f ht⟩) hO.lc dX7_weave_14
  · have h := h.2 a6 rfl
    show W _ _ _ _ _ _ _ _ _ _ _ _ _ _ _ (F0 _ _ _ (.ref a6 :: _))
    refine lv_astore_n (lv' := [(3, .ref a6), (0, .ref a0), (1, .int v1), (2, .int v2)]) hx hb dX7_weave_8 rfl hl (by decide) rfl (fun ls hl => ?_)
    refine lv_aload_n hx hb dX7_weave_9 rfl (lv_at hl 0 rfl) ?_
    refine lv_ifnonnull (tgt := 15) hx hb dX7_weave_10 (by decide) ?_
    refine lv_iload_n hx hb dX7_weave_15 rfl (lv_at hl 3 rfl) ?_
    refine lv_iconst (v := (nI 1)) hx hb dX7_weave_16 (by decide) ?_
    refine lv_icmp_lt (tgt := 27) hx hb dX7_weave_17 (by decide) (fun c7 => ?_) (fun c7 => ?_)
    · have h := h.1 c7
      refine lv_bipush (v := (-2 : Int32)) hx hb dX7_weave_27 (by decide) ?_
      refine W.widen (k := 15) (n := 175) (Nat.le_of_ble_eq_true rfl) (Nat.le_of_ble_eq_true rfl) ?_
      exact W.iret hx hb hr (fun t ht hW => ⟨⟨(-2 : Int32), S, rfl, h, hO.q ht⟩, hO.f ht⟩) hO.lc dX7_weave_29
    · have h := h.2 c7
      refine lv_iload_n hx hb dX7_weave_20 rfl (lv_at hl 3 rfl) ?_
      refine lv_sipush (v := (nI 1000)) hx hb dX7_weave_21 (by decide) ?_
      refine lv_icmp_le (tgt := 30) hx hb dX7_weave_24 (by decide) (fun c8 => ?_) (fun c8 => ?_)
      · have h := h.1 c8
        refine lv_aload_n hx hb dX7_weave_30 rfl (lv_at hl 1 rfl) ?_
        obtain ⟨fs9, a10, e11, e11', h⟩ := h
        refine r_get C hO 5 1 rfl inX7 (Nat.le_of_ble_eq_true rfl) e11 e11' (List.mem_of_getElem? (i := 2) (by decide +kernel)) dX7_weave_31 ?_
        refine lv_aload_n hx hb dX7_weave_34 rfl (lv_at hl 1 rfl) ?_
        obtain ⟨fs12, a13, e14, e14', h⟩ := h
        refine r_get C hO 5 0 rfl inX7 (Nat.le_of_ble_eq_true rfl) e14 e14' (List.mem_of_getElem? (i := 1) (by decide +kernel)) dX7_weave_35 ?_
        obtain ⟨fs17, e16, h⟩ := h
        refine cV_wv (As := [.ref a13]) (rest := []) (n := 1) C hO (fun L => c_X3_keep l D Y L S s.heap.size a10 a13 _ h) 3 rfl e16 (cwV 1 hts gX7_weave_X3_keep rfl rfl rfl ⟨rfl, hdS_X3_keep⟩ ⟨Nat.le_of_ble_eq_true rfl, Nat.le_of_ble_eq_true rfl⟩) rfl hl.1 rfl (Nat.le_of_ble_eq_true rfl) dX7_weave_38 ⟨(Nat.le_of_ble_eq_true rfl), (Nat.le_of_ble_eq_true rfl)⟩ (fun S15 H locs h hO => ?_)
        refine lv_aload_n hx hb dX7_weave_41 rfl (lv_at hl 1 rfl) ?_
        obtain ⟨fs18, a19, e20, e20', h⟩ := h
        refine r_get C hO 5 0 rfl inX7 (Nat.le_of_ble_eq_true rfl) e20 e20' (List.mem_of_getElem? (i := 1) (by decide +kernel)) dX7_weave_42 ?_
        refine lv_aload_n hx hb dX7_weave_45 rfl (lv_at hl 1 rfl) ?_
        obtain ⟨fs21, a22, e23, e23', h⟩ := h
        refine r_get C hO 5 0 rfl inX7 (Nat.le_of_ble_eq_true rfl) e23 e23' (List.mem_of_getElem? (i := 1) (by decide +kernel)) dX7_weave_46 ?_
        obtain ⟨fs24, j25, e26, e26', h⟩ := h
        refine r_get C hO 1 1 rfl inX1 (Nat.le_of_ble_eq_true rfl) e26 e26' (List.mem_of_getElem? (i := 3) (by decide +kernel)) dX7_weave_49 ?_
        refine lv_aload_n hx hb dX7_weave_52 rfl (lv_at hl 1 rfl) ?_
        obtain ⟨fs27, a28, e29, e29', h⟩ := h
        refine r_get C hO 5 0 rfl inX7 (Nat.le_of_ble_eq_true rfl) e29 e29' (List.mem_of_getElem? (i := 1) (by decide +kernel)) dX7_weave_53 ?_
        refine lv_iload_n hx hb dX7_weave_56 rfl (lv_at hl 2 rfl) ?_
        obtain ⟨fs32, e31, h⟩ := h
        refine cV_rl (As := [.int v1]) (rest := [.long j25, .ref a19]) (n := 1) C hO (fun L => c_X1_wayOf l D Y L S15 H.size a28 v1 _ h) 1 rfl e31 (cwV 1 hts gX7_weave_X1_wayOf rfl rfl rfl ⟨rfl, hdS_X1_wayOf⟩ ⟨Nat.le_of_ble_eq_true rfl, Nat.le_of_ble_eq_true rfl⟩) rfl hl.1 rfl (Nat.le_of_ble_eq_true rfl) dX7_weave_57 ⟨(Nat.le_of_ble_eq_true rfl), (Nat.le_of_ble_eq_true rfl)⟩ (fun j30 h => ?_)
        refine lv_iload_n hx hb dX7_weave_60 rfl (lv_at hl 3 rfl) ?_
        refine cS_sl (As := [.long j30, .int v2]) (rest := [.long j25, .ref a19]) (n := 2) CF hZ (c_X6_power l j30 v2 _ h) (va_cwS 2 hts gX7_weave_X6_power rfl rfl rfl hdS_X6_power ⟨Nat.le_of_ble_eq_true rfl, Nat.le_of_ble_eq_true rfl⟩) rfl hl.1 rfl (Nat.le_of_ble_eq_true rfl) dX7_weave_61 ⟨(Nat.le_of_ble_eq_true rfl), (Nat.le_of_ble_eq_true rfl)⟩ (fun j33 h => ?_)
        refine cS_sl (As := [.long j25, .long j33]) (rest := [.ref a19]) (n := 2) CF hZ (c_X4_moved l j25 j33 _ h) (va_cwS 2 hts gX7_weave_X4_moved rfl rfl rfl hdS_X4_moved ⟨Nat.le_of_ble_eq_true rfl, Nat.le_of_ble_eq_true rfl⟩) rfl hl.1 rfl (Nat.le_of_ble_eq_true rfl) dX7_weave_64 ⟨(Nat.le_of_ble_eq_true rfl), (Nat.le_of_ble_eq_true rfl)⟩ (fun j34 h => ?_)
        obtain ⟨fs35, e36, e36', h⟩ := h
        refine r_put C hO 1 1 rfl inX1 tyX1_ok nmX1 (Nat.le_of_ble_eq_true rfl) rfl rfl rfl e36 e36' (List.mem_of_getElem? (i := 3) (by decide +kernel)) dX7_weave_67 (fun H locs hO => ?_)
        obtain ⟨S37, eS37⟩ : ∃ Sx, Sx = va_up S15 a19 (.inl (1, fs35.set 1 (.long j34))) := ⟨_, rfl⟩
        rw [← eS37] at hO
        have h := h S37 eS37
        refine lv_aload_n hx hb dX7_weave_70 rfl (lv_at hl 1 rfl) ?_
        obtain ⟨fs38, a39, e40, e40', h⟩ := h
        refine r_get C hO 5 0 rfl inX7 (Nat.le_of_ble_eq_true rfl) e40 e40' (List.mem_of_getElem? (i := 1) (by decide +kernel)) dX7_weave_71 ?_
        refine lv_dup hx hb dX7_weave_74 rfl ?_
        obtain ⟨fs41, i42, e43, e43', h⟩ := h
        refine r_get C hO 1 5 rfl inX1 (Nat.le_of_ble_eq_true rfl) e43 e43' (List.mem_of_getElem? (i := 4) (by decide +kernel)) dX7_weave_75 ?_
        refine lv_aload_n hx hb dX7_weave_78 rfl (lv_at hl 0 rfl) ?_
        obtain ⟨fs44, i45, e46, e46', h⟩ := h
        refine r_get C hO 0 1 rfl inX0 (Nat.le_of_ble_eq_true rfl) e46 e46' (List.mem_of_getElem? (i := 5) (by decide +kernel)) dX7_weave_79 ?_
        refine lv_iload_n hx hb dX7_weave_82 rfl (lv_at hl 3 rfl) ?_
        refine lv_imul hx hb dX7_weave_83 ?_
        refine lv_iadd hx hb dX7_weave_84 ?_
        obtain ⟨fs47, e48, e48', h⟩ := h
        refine r_put C hO 1 5 rfl inX1 tyX1_ok nmX1 (Nat.le_of_ble_eq_true rfl) rfl rfl rfl e48 e48' (List.mem_of_getElem? (i := 4) (by decide +kernel)) dX7_weave_85 (fun H locs hO => ?_)
        obtain ⟨S49, eS49⟩ : ∃ Sx, Sx = va_up S37 a39 (.inl (1, fs47.set 5 (.int (i42 + (i45 * v2))))) := ⟨_, rfl⟩
        rw [← eS49] at hO
        have h := h S49 eS49
        refine lv_aload_n hx hb dX7_weave_88 rfl (lv_at hl 1 rfl) ?_
        obtain ⟨fs50, a51, e52, e52', h⟩ := h
        refine r_get C hO 5 0 rfl inX7 (Nat.le_of_ble_eq_true rfl) e52 e52' (List.mem_of_getElem? (i := 1) (by decide +kernel)) dX7_weave_89 ?_
        refine lv_dup hx hb dX7_weave_92 rfl ?_
        obtain ⟨fs53, i54, e55, e55', h⟩ := h
        refine r_get C hO 1 6 rfl inX1 (Nat.le_of_ble_eq_true rfl) e55 e55' (List.mem_of_getElem? (i := 6) (by decide +kernel)) dX7_weave_93 ?_
        refine lv_iload_n hx hb dX7_weave_96 rfl (lv_at hl 3 rfl) ?_
        refine lv_iadd hx hb dX7_weave_97 ?_
        obtain ⟨fs56, e57, e57', h⟩ := h
        refine r_put C hO 1 6 rfl inX1 tyX1_ok nmX1 (Nat.le_of_ble_eq_true rfl) rfl rfl rfl e57 e57' (List.mem_of_getElem? (i := 6) (by decide +kernel)) dX7_weave_98 (fun H locs hO => ?_)
        obtain ⟨S58, eS58⟩ : ∃ Sx, Sx = va_up S49 a51 (.inl (1, fs56.set 6 (.int (i54 + v2)))) := ⟨_, rfl⟩
        rw [← eS58] at hO
        have h := h S58 eS58
        refine lv_aload_n hx hb dX7_weave_101 rfl (lv_at hl 1 rfl) ?_
        obtain ⟨fs59, a60, e61, e61', h⟩ := h
        refine r_get C hO 5 0 rfl inX7 (Nat.le_of_ble_eq_true rfl) e61 e61' (List.mem_of_getElem? (i := 1) (by decide +kernel)) dX7_weave_102 ?_
        obtain ⟨fs62, j63, e64, e64', h⟩ := h
        refine r_get C hO 1 1 rfl inX1 (Nat.le_of_ble_eq_true rfl) e64 e64' (List.mem_of_getElem? (i := 3) (by decide +kernel)) dX7_weave_105 ?_
        refine cS_si (As := [.long j63]) (rest := []) (n := 1) CF hZ (c_X6_staying l j63 _ h) (va_cwS 1 hts gX7_weave_X6_staying rfl rfl rfl hdS_X6_staying ⟨Nat.le_of_ble_eq_true rfl, Nat.le_of_ble_eq_true rfl⟩) rfl hl.1 rfl (Nat.le_of_ble_eq_true rfl) dX7_weave_108 ⟨(Nat.le_of_ble_eq_true rfl), (Nat.le_of_ble_eq_true rfl)⟩ (fun i65 h => ?_)
        exact W.iret hx hb hr (fun t ht hW => ⟨⟨i65, S58, rfl, h, hO.q ht⟩, hO.f ht⟩) hO.lc dX7_weave_111
      · have h := h.2 c8
        refine lv_bipush (v := (-2 : Int32)) hx hb dX7_weave_27 (by decide) ?_
        refine W.widen (k := 15) (n := 175) (Nat.le_of_ble_eq_true rfl) (Nat.le_of_ble_eq_true rfl) ?_
        exact W.iret hx hb hr (fun t ht hW => ⟨⟨(-2 : Int32), S, rfl, h, hO.q ht⟩, hO.f ht⟩) hO.lc dX7_weave_29
theorem hdS_X7_dye : yX7_dye.cls ≠ "java/lang/invoke/MethodHandle" ∧ yX7_dye.cls ≠ "java/lang/invoke/VarHandle" ∧ (parseMethodDescriptor yX7_dye.desc).map (fun d => d.parameters.length) = some 2 := by decide +kernel
set_option maxHeartbeats 4000000 in
set_option maxRecDepth 100000 in
theorem c_X7_dye (l : Launch) (D : va_G) (Y : Nat → ClassId) (L : List Nat) (S : PS) (sz : Nat) (a0 : Nat) (v1 : Int32) (v2 : Int32) (Post : Int32 → PS → Prop) (h : wp_X7_dye S a0 v1 v2 Post) : Met l yX7_dye wsX7_dye ({ frames := 4, cells := 15, slots := 175, locals := 85 }) (va_Pc [.ref a0, .int v1, .int v2] (PrO D Y L S sz)) (va_Qi Post (QtO D Y (fR L sz)) (fR L sz)) 15 175 (fR L sz) := by
  refine Met.ofW (cc := cX7_dye) (maxL := 4) (ret := (some .int)) (by decide) rfl ?_
  intro p e s m args below meth c s₁ B hml hv
  obtain ⟨rfl, hsz, hJ, hP, hK, hD0, hZ⟩ := hv
  have hx := B.exec
  have hb := B.bytes
  have hr := B.returns
  have hts := atoms_spec (ws := wsX7_dye) B.pre
  have hown : s.vm.findClass RX7 = some m.cls := findClass_of_methodNamed B.named
  have hlocks := B.notSynchronized
  have CF : CallFix p m c cX7_dye 4 s ([.ref a0, .int v1, .int v2] : List Value).toArray wsX7_dye RX7 := ⟨hx, hb, hml, hown, hts⟩
  have C : CX p m c cX7_dye 4 s ([.ref a0, .int v1, .int v2] : List Value).toArray wsX7_dye RX7 D Y := ⟨CF, hK, hZ⟩
  have hO : HO D Y (fR L sz) s.heap S s.heap [] := HO.entry hsz hJ hP hD0
  subst hsz
  have inX1 : ∀ w ∈ wsX10, w ∈ wsX7_dye := fun w h => List.mem_cons_of_mem _ (List.mem_append_left _ (List.mem_append_left _ (List.mem_append_right _ h)))
  have inX7 : ∀ w ∈ wsX70, w ∈ wsX7_dye := fun w h => List.mem_cons_of_mem _ (List.mem_append_left _ (List.mem_append_left _ (List.mem_append_left _ (List.mem_append_right _ h))))
  have hl := lv_entry ([.ref a0, .int v1, .int v2]) (n := 4) (Nat.le_of_ble_eq_true rfl)
  rw [lg_entry_eq]
  generalize (lg_sl ([.ref a0, .int v1, .int v2]) ++ List.replicate (4 - (lg_sl ([.ref a0, .int v1, .int v2])).length) Slot.unset).toArray = ls at hl ⊢
  have hl : lv_has ls 4 [(0, .ref a0), (1, .int v1), (2, .int v2)] := hl
  unfold wp_X7_dye at h
  refine lv_iload_n hx hb dX7_dye_0 rfl (lv_at hl 1 rfl) ?_
  refine lv_bipush (v := (nI 12)) hx hb dX7_dye_1 (by decide) ?_
  refine cS_si (As := [.int v1, .int (nI 12)]) (rest := []) (n := 2) CF hZ (c_X7_isBelow l v1 (nI 12) _ h) (va_cwS 2 hts gX7_dye_X7_isBelow rfl rfl rfl hdS_X7_isBelow ⟨Nat.le_of_ble_eq_true rfl, Nat.le_of_ble_eq_true rfl⟩) rfl hl.1 rfl (Nat.le_of_ble_eq_true rfl) dX7_dye_3 ⟨(Nat.le_of_ble_eq_true rfl), (Nat.le_of_ble_eq_true rfl)⟩ (fun i1 h => ?_)
  refine lv_if_ne (tgt := 11) hx hb dX7_dye_6 (by decide) (fun c2 => ?_) (fun c2 => ?_)
  · have h := h.2 c2
    refine lv_iload_n hx hb dX7_dye_11 rfl (lv_at hl 2 rfl) ?_
    refine lv_iconst (v := (nI 4)) hx hb dX7_dye_12 (by decide) ?_
    refine cS_si (As := [.int v2, .int (nI 4)]) (rest := []) (n := 2) CF hZ (c_X7_isBelow l v2 (nI 4) _ h) (va_cwS 2 hts gX7_dye_X7_isBelow rfl rfl rfl hdS_X7_isBelow ⟨Nat.le_of_ble_eq_true rfl, Nat.le_of_ble_eq_true rfl⟩) rfl hl.1 rfl (Nat.le_of_ble_eq_true rfl) dX7_dye_13 ⟨(Nat.le_of_ble_eq_true rfl), (Nat.le_of_ble_eq_true rfl)⟩ (fun i3 h => ?_)
    refine lv_if_ne (tgt := 22) hx hb dX7_dye_16 (by decide) (fun c4 => ?_) (fun c4 => ?_)
    · have h := h.2 c4
      refine lv_aload_n hx hb dX7_dye_22 rfl (lv_at hl 0 rfl) ?_
      obtain ⟨fs5, a6, e7, e7', h⟩ := h
      refine r_get C hO 5 1 rfl inX7 (Nat.le_of_ble_eq_true rfl) e7 e7' (List.mem_of_getElem? (i := 1) (by decide +kernel)) dX7_dye_23 ?_
      refine lv_aload_n hx hb dX7_dye_26 rfl (lv_at hl 0 rfl) ?_
      obtain ⟨fs8, a9, e10, e10', h⟩ := h
      refine r_get C hO 5 0 rfl inX7 (Nat.le_of_ble_eq_true rfl) e10 e10' (List.mem_of_getElem? (i := 2) (by decide +kernel)) dX7_dye_27 ?_
      obtain ⟨fs13, e12, h⟩ := h
      refine cV_wv (As := [.ref a9]) (rest := []) (n := 1) C hO (fun L => c_X3_keep l D Y L S s.heap.size a6 a9 _ h) 3 rfl e12 (cwV 1 hts gX7_dye_X3_keep rfl rfl rfl ⟨rfl, hdS_X3_keep⟩ ⟨Nat.le_of_ble_eq_true rfl, Nat.le_of_ble_eq_true rfl⟩) rfl hl.1 rfl (Nat.le_of_ble_eq_true rfl) dX7_dye_30 ⟨(Nat.le_of_ble_eq_true rfl), (Nat.le_of_ble_eq_true rfl)⟩ (fun S11 H locs h hO => ?_)
      refine lv_aload_n hx hb dX7_dye_33 rfl (lv_at hl 0 rfl) ?_
      obtain ⟨fs14, a15, e16, e16', h⟩ := h
      refine r_get C hO 5 0 rfl inX7 (Nat.le_of_ble_eq_true rfl) e16 e16' (List.mem_of_getElem? (i := 2) (by decide +kernel)) dX7_dye_34 ?_
      obtain ⟨fs17, j18, e19, e19', h⟩ := h
      refine r_get C hO 1 2 rfl inX1 (Nat.le_of_ble_eq_true rfl) e19 e19' (List.mem_of_getElem? (i := 3) (by decide +kernel)) dX7_dye_37 ?_
      refine lv_iload_n hx hb dX7_dye_40 rfl (lv_at hl 1 rfl) ?_
      refine cS_si (As := [.long j18, .int v1]) (rest := []) (n := 2) CF hZ (c_X4_at l j18 v1 _ h) (va_cwS 2 hts gX7_dye_X4_at rfl rfl rfl hdS_X4_at ⟨Nat.le_of_ble_eq_true rfl, Nat.le_of_ble_eq_true rfl⟩) rfl hl.1 rfl (Nat.le_of_ble_eq_true rfl) dX7_dye_41 ⟨(Nat.le_of_ble_eq_true rfl), (Nat.le_of_ble_eq_true rfl)⟩ (fun i20 h => ?_)
      refine lv_istore_n (lv' := [(3, .int i20), (0, .ref a0), (1, .int v1), (2, .int v2)]) hx hb dX7_dye_44 rfl hl (by decide) rfl (fun ls hl => ?_)
      refine lv_aload_n hx hb dX7_dye_45 rfl (lv_at hl 1 rfl) ?_
      obtain ⟨fs21, a22, e23, e23', h⟩ := h
      refine r_get C hO 5 0 rfl inX7 (Nat.le_of_ble_eq_true rfl) e23 e23' (List.mem_of_getElem? (i := 2) (by decide +kernel)) dX7_dye_46 ?_
      refine lv_aload_n hx hb dX7_dye_49 rfl (lv_at hl 1 rfl) ?_
      obtain ⟨fs24, a25, e26, e26', h⟩ := h
      refine r_get C hO 5 0 rfl inX7 (Nat.le_of_ble_eq_true rfl) e26 e26' (List.mem_of_getElem? (i := 2) (by decide +kernel)) dX7_dye_50 ?_
      obtain ⟨fs27, j28, e29, e29', h⟩ := h
      refine r_get C hO 1 2 rfl inX1 (Nat.le_of_ble_eq_true rfl) e29 e29' (List.mem_of_getElem? (i := 3) (by decide +kernel)) dX7_dye_53 ?_
      refine lv_iload_n hx hb dX7_dye_56 rfl (lv_at hl 2 rfl) ?_
      refine lv_iload_n hx hb dX7_dye_57 rfl (lv_at hl 3 rfl) ?_
      refine cS_sl (As := [.long j28, .int v1, .int v2]) (rest := [.ref a22]) (n := 3) CF hZ (c_X4_with l j28 v1 v2 _ h) (va_cwS 3 hts gX7_dye_X4_with rfl rfl rfl hdS_X4_with ⟨Nat.le_of_ble_eq_true rfl, Nat.le_of_ble_eq_true rfl⟩) rfl hl.1 rfl (Nat.le_of_ble_eq_true rfl) dX7_dye_58 ⟨(Nat.le_of_ble_eq_true rfl), (Nat.le_of_ble_eq_true rfl)⟩ (fun j30 h => ?_)
      obtain ⟨fs31, e32, e32', h⟩ := h
      refine r_put C hO 1 2 rfl inX1 tyX1_ok nmX1 (Nat.le_of_ble_eq_true rfl) rfl rfl rfl e32 e32' (List.mem_of_getElem? (i := 3) (by decide +kernel)) dX7_dye_61 (fun H locs hO => ?_)
      obtain ⟨S33, eS33⟩ : ∃ Sx, Sx = va_up S11 a22 (.inl (1, fs31.set 2 (.long j30))) := ⟨_, rfl⟩
      rw [← eS33] at hO
      have h := h S33 eS33
      refine lv_iload_n hx hb dX7_dye_64 rfl (lv_at hl 0 rfl) ?_
      exact W.iret hx hb hr (fun t ht hW => ⟨⟨i20, S33, rfl, h, hO.q ht⟩, hO.f ht⟩) hO.lc dX7_dye_65
    · have h := h.1 c4
      refine lv_bipush (v := (-2 : Int32)) hx hb dX7_dye_19 (by decide) ?_
      refine W.widen (k := 15) (n := 175) (Nat.le_of_ble_eq_true rfl) (Nat.le_of_ble_eq_true rfl) ?_
      exact W.iret hx hb hr (fun t ht hW => ⟨⟨(-2 : Int32), S, rfl, h, hO.q ht⟩, hO.f ht⟩) hO.lc dX7_dye_21
  · have h := h.1 c2
    refine lv_iconst (v := (-1 : Int32)) hx hb dX7_dye_9 (by decide) ?_
    refine W.widen (k := 15) (n := 175) (Nat.le_of_ble_eq_true rfl) (Nat.le_of_ble_eq_true rfl) ?_
    exact W.iret hx hb hr (fun t ht hW => ⟨⟨(-1 : Int32), S, rfl, h, hO.q ht⟩, hO.f ht⟩) hO.lc dX7_dye_10
theorem hdS_X7_place : yX7_place.cls ≠ "java/lang/invoke/MethodHandle" ∧ yX7_place.cls ≠ "java/lang/invoke/VarHandle" ∧ (parseMethodDescriptor yX7_place.desc).map (fun d => d.parameters.length) = some 2 := by decide +kernel
set_option maxHeartbeats 4000000 in
set_option maxRecDepth 100000 in
theorem c_X7_place (l : Launch) (D : va_G) (Y : Nat → ClassId) (L : List Nat) (S : PS) (sz : Nat) (a0 : Nat) (v1 : Int32) (v2 : Int32) (Post : Int32 → Prop) (h : wp_X7_place S a0 v1 v2 Post) : Met l yX7_place wsX7_place ({ frames := 3, cells := 0, slots := 0, locals := 68 }) (va_Pc [.ref a0, .int v1, .int v2] (PrO D Y L S sz)) (vp_Si Post) 0 0 (fun _ => False) := by
  refine Met.ofW (cc := cX7_place) (maxL := 3) (ret := (some .int)) (by decide) rfl ?_
  intro p e s m args below meth c s₁ B hml hv
  obtain ⟨rfl, hsz, hJ, hP, hK, hD0, hZ⟩ := hv
  have hx := B.exec
  have hb := B.bytes
  have hr := B.returns
  have hts := atoms_spec (ws := wsX7_place) B.pre
  have hown : s.vm.findClass RX7 = some m.cls := findClass_of_methodNamed B.named
  have hlocks := B.notSynchronized
  have CF : CallFix p m c cX7_place 3 s ([.ref a0, .int v1, .int v2] : List Value).toArray wsX7_place RX7 := ⟨hx, hb, hml, hown, hts⟩
  have C : CX p m c cX7_place 3 s ([.ref a0, .int v1, .int v2] : List Value).toArray wsX7_place RX7 D Y := ⟨CF, hK, hZ⟩
  have hO : HO D Y (fR L sz) s.heap S s.heap [] := HO.entry hsz hJ hP hD0
  subst hsz
  have inX1 : ∀ w ∈ wsX10, w ∈ wsX7_place := fun w h => List.mem_cons_of_mem _ (List.mem_append_right _ h)
  have inX7 : ∀ w ∈ wsX70, w ∈ wsX7_place := fun w h => List.mem_cons_of_mem _ (List.mem_append_left _ (List.mem_append_right _ h))
  have hl := lv_entry ([.ref a0, .int v1, .int v2]) (n := 3) (Nat.le_of_ble_eq_true rfl)
  rw [lg_entry_eq]
  generalize (lg_sl ([.ref a0, .int v1, .int v2]) ++ List.replicate (3 - (lg_sl ([.ref a0, .int v1, .int v2])).length) Slot.unset).toArray = ls at hl ⊢
  have hl : lv_has ls 3 [(0, .ref a0), (1, .int v1), (2, .int v2)] := hl
  unfold wp_X7_place at h
  refine lv_iload_n hx hb dX7_place_0 rfl (lv_at hl 1 rfl) ?_
  refine lv_bipush (v := (nI 12)) hx hb dX7_place_1 (by decide) ?_
  refine cS_si (As := [.int v1, .int (nI 12)]) (rest := []) (n := 2) CF hZ (c_X7_isBelow l v1 (nI 12) _ h) (va_cwS 2 hts gX7_place_X7_isBelow rfl rfl rfl hdS_X7_isBelow ⟨Nat.le_of_ble_eq_true rfl, Nat.le_of_ble_eq_true rfl⟩) rfl hl.1 rfl (Nat.le_of_ble_eq_true rfl) dX7_place_3 ⟨(Nat.le_of_ble_eq_true rfl), (Nat.le_of_ble_eq_true rfl)⟩ (fun i1 h => ?_)
  refine lv_if_ne (tgt := 11) hx hb dX7_place_6 (by decide) (fun c2 => ?_) (fun c2 => ?_)
  · have h := h.2 c2
    refine lv_iload_n hx hb dX7_place_11 rfl (lv_at hl 2 rfl) ?_
    rcases sw_3 v2 with c3 | c3 | c3 | c3 | c3
    · have h := h.1 c3
      refine lv_tableOut (tgt := 89) hx hb dX7_place_12 c3 (by decide) ?_
      refine lv_bipush (v := (-2 : Int32)) hx hb dX7_place_89 (by decide) ?_
      exact W.iret hx hb hr (fun t ht hW => ⟨(-2 : Int32), rfl, h, ht⟩) no_locs dX7_place_91
    · have h := h.2.1 c3
      refine lv_tableIn (tgt := 44) (off := 32) hx hb dX7_place_12 (by rw [c3]; decide) (by rw [c3]; decide) (by rw [c3]; rfl) (by decide) ?_
      refine lv_aload_n hx hb dX7_place_44 rfl (lv_at hl 0 rfl) ?_
      obtain ⟨fs4, a5, e6, e6', h⟩ := h
      refine r_get C hO 5 0 rfl inX7 (Nat.le_of_ble_eq_true rfl) e6 e6' (List.mem_of_getElem? (i := 1) (by decide +kernel)) dX7_place_45 ?_
      obtain ⟨fs7, j8, e9, e9', h⟩ := h
      refine r_get C hO 1 0 rfl inX1 (Nat.le_of_ble_eq_true rfl) e9 e9' (List.mem_of_getElem? (i := 2) (by decide +kernel)) dX7_place_48 ?_
      refine lv_iload_n hx hb dX7_place_51 rfl (lv_at hl 1 rfl) ?_
      refine cS_si (As := [.long j8, .int v1]) (rest := []) (n := 2) CF hZ (c_X4_at l j8 v1 _ h) (va_cwS 2 hts gX7_place_X4_at rfl rfl rfl hdS_X4_at ⟨Nat.le_of_ble_eq_true rfl, Nat.le_of_ble_eq_true rfl⟩) rfl hl.1 rfl (Nat.le_of_ble_eq_true rfl) dX7_place_52 ⟨(Nat.le_of_ble_eq_true rfl), (Nat.le_of_ble_eq_true rfl)⟩ (fun i10 h => ?_)
      exact W.iret hx hb hr (fun t ht hW => ⟨i10, rfl, h, ht⟩) no_locs dX7_place_55
    · have h := h.2.2.1 c3
      refine lv_tableIn (tgt := 56) (off := 44) hx hb dX7_place_12 (by rw [c3]; decide) (by rw [c3]; decide) (by rw [c3]; rfl) (by decide) ?_
      refine lv_aload_n hx hb dX7_place_56 rfl (lv_at hl 0 rfl) ?_
      obtain ⟨fs11, a12, e13, e13', h⟩ := h
      refine r_get C hO 5 0 rfl inX7 (Nat.le_of_ble_eq_true rfl) e13 e13' (List.mem_of_getElem? (i := 1) (by decide +kernel)) dX7_place_57 ?_
      obtain ⟨fs14, j15, e16, e16', h⟩ := h
      refine r_get C hO 1 1 rfl inX1 (Nat.le_of_ble_eq_true rfl) e16 e16' (List.mem_of_getElem? (i := 3) (by decide +kernel)) dX7_place_60 ?_
      refine lv_iload_n hx hb dX7_place_63 rfl (lv_at hl 1 rfl) ?_
      refine cS_si (As := [.long j15, .int v1]) (rest := []) (n := 2) CF hZ (c_X4_at l j15 v1 _ h) (va_cwS 2 hts gX7_place_X4_at rfl rfl rfl hdS_X4_at ⟨Nat.le_of_ble_eq_true rfl, Nat.le_of_ble_eq_true rfl⟩) rfl hl.1 rfl (Nat.le_of_ble_eq_true rfl) dX7_place_64 ⟨(Nat.le_of_ble_eq_true rfl), (Nat.le_of_ble_eq_true rfl)⟩ (fun i17 h => ?_)
      exact W.iret hx hb hr (fun t ht hW => ⟨i17, rfl, h, ht⟩) no_locs dX7_place_67
    · have h := h.2.2.2.1 c3
      refine lv_tableIn (tgt := 68) (off := 56) hx hb dX7_place_12 (by rw [c3]; decide) (by rw [c3]; decide) (by rw [c3]; rfl) (by decide) ?_
      refine lv_aload_n hx hb dX7_place_68 rfl (lv_at hl 0 rfl) ?_
      obtain ⟨fs18, a19, e20, e20', h⟩ := h
      refine r_get C hO 5 0 rfl inX7 (Nat.le_of_ble_eq_true rfl) e20 e20' (List.mem_of_getElem? (i := 1) (by decide +kernel)) dX7_place_69 ?_
      obtain ⟨fs23, e22, h⟩ := h
      refine cV_rl (As := []) (rest := []) (n := 0) C hO (fun L => c_X1_coloursByPlace l D Y L S s.heap.size a19 _ h) 1 rfl e22 (cwV 0 hts gX7_place_X1_coloursByPlace rfl rfl rfl ⟨rfl, hdS_X1_coloursByPlace⟩ ⟨Nat.le_of_ble_eq_true rfl, Nat.le_of_ble_eq_true rfl⟩) rfl hl.1 rfl (Nat.le_of_ble_eq_true rfl) dX7_place_72 ⟨(Nat.le_of_ble_eq_true rfl), (Nat.le_of_ble_eq_true rfl)⟩ (fun j21 h => ?_)
      refine lv_iload_n hx hb dX7_place_75 rfl (lv_at hl 1 rfl) ?_
      refine cS_si (As := [.long j21, .int v1]) (rest := []) (n := 2) CF hZ (c_X4_at l j21 v1 _ h) (va_cwS 2 hts gX7_place_X4_at rfl rfl rfl hdS_X4_at ⟨Nat.le_of_ble_eq_true rfl, Nat.le_of_ble_eq_true rfl⟩) rfl hl.1 rfl (Nat.le_of_ble_eq_true rfl) dX7_place_76 ⟨(Nat.le_of_ble_eq_true rfl), (Nat.le_of_ble_eq_true rfl)⟩ (fun i24 h => ?_)
      exact W.iret hx hb hr (fun t ht hW => ⟨i24, rfl, h, ht⟩) no_locs dX7_place_79
    · have h := h.2.2.2.2 c3
      refine lv_tableIn (tgt := 80) (off := 68) hx hb dX7_place_12 (by rw [c3]; decide) (by rw [c3]; decide) (by rw [c3]; rfl) (by decide) ?_
      refine lv_aload_n hx hb dX7_place_80 rfl (lv_at hl 0 rfl) ?_
      obtain ⟨fs25, a26, e27, e27', h⟩ := h
      refine r_get C hO 5 0 rfl inX7 (Nat.le_of_ble_eq_true rfl) e27 e27' (List.mem_of_getElem? (i := 1) (by decide +kernel)) dX7_place_81 ?_
      refine lv_iload_n hx hb dX7_place_84 rfl (lv_at hl 1 rfl) ?_
      obtain ⟨fs30, e29, h⟩ := h
      refine cV_ri (As := [.int v1]) (rest := []) (n := 1) C hO (fun L => c_X1_treadlesRaising l D Y L S s.heap.size a26 v1 _ h) 1 rfl e29 (cwV 1 hts gX7_place_X1_treadlesRaising rfl rfl rfl ⟨rfl, hdS_X1_treadlesRaising⟩ ⟨Nat.le_of_ble_eq_true rfl, Nat.le_of_ble_eq_true rfl⟩) rfl hl.1 rfl (Nat.le_of_ble_eq_true rfl) dX7_place_85 ⟨(Nat.le_of_ble_eq_true rfl), (Nat.le_of_ble_eq_true rfl)⟩ (fun i28 h => ?_)
      exact W.iret hx hb hr (fun t ht hW => ⟨i28, rfl, h, ht⟩) no_locs dX7_place_88
  · have h := h.1 c2
    refine lv_iconst (v := (-1 : Int32)) hx hb dX7_place_9 (by decide) ?_
    exact W.iret hx hb hr (fun t ht hW => ⟨(-1 : Int32), rfl, h, ht⟩) no_locs dX7_place_10
theorem hdS_X7_treadle : yX7_treadle.cls ≠ "java/lang/invoke/MethodHandle" ∧ yX7_treadle.cls ≠ "java/lang/invoke/VarHandle" ∧ (parseMethodDescriptor yX7_treadle.desc).map (fun d => d.parameters.length) = some 2 := by decide +kernel
set_option maxHeartbeats 4000000 in
set_option maxRecDepth 100000 in
theorem c_X7_treadle (l : Launch) (D : va_G) (Y : Nat → ClassId) (L : List Nat) (S : PS) (sz : Nat) (a0 : Nat) (v1 : Int32) (v2 : Int32) (Post : Int32 → Prop) (h : wp_X7_treadle S a0 v1 v2 Post) : Met l yX7_treadle wsX7_treadle ({ frames := 2, cells := 0, slots := 0, locals := 45 }) (va_Pc [.ref a0, .int v1, .int v2] (PrO D Y L S sz)) (vp_Si Post) 0 0 (fun _ => False) := by
  refine Met.ofW (cc := cX7_treadle) (maxL := 3) (ret := (some .int)) (by decide) rfl ?_
  intro p e s m args below meth c s₁ B hml hv
  obtain ⟨rfl, hsz, hJ, hP, hK, hD0, hZ⟩ := hv
  have hx := B.exec
  have hb := B.bytes
  have hr := B.returns
  have hts := atoms_spec (ws := wsX7_treadle) B.pre
  have hown : s.vm.findClass RX7 = some m.cls := findClass_of_methodNamed B.named
  have hlocks := B.notSynchronized
  have CF : CallFix p m c cX7_treadle 3 s ([.ref a0, .int v1, .int v2] : List Value).toArray wsX7_treadle RX7 := ⟨hx, hb, hml, hown, hts⟩
  have C : CX p m c cX7_treadle 3 s ([.ref a0, .int v1, .int v2] : List Value).toArray wsX7_treadle RX7 D Y := ⟨CF, hK, hZ⟩
  have hO : HO D Y (fR L sz) s.heap S s.heap [] := HO.entry hsz hJ hP hD0
  subst hsz
  have inX1 : ∀ w ∈ wsX10, w ∈ wsX7_treadle := fun w h => List.mem_cons_of_mem _ (List.mem_append_right _ h)
  have inX7 : ∀ w ∈ wsX70, w ∈ wsX7_treadle := fun w h => List.mem_cons_of_mem _ (List.mem_append_left _ (List.mem_append_right _ h))
  have hl := lv_entry ([.ref a0, .int v1, .int v2]) (n := 3) (Nat.le_of_ble_eq_true rfl)
  rw [lg_entry_eq]
  generalize (lg_sl ([.ref a0, .int v1, .int v2]) ++ List.replicate (3 - (lg_sl ([.ref a0, .int v1, .int v2])).length) Slot.unset).toArray = ls at hl ⊢
  have hl : lv_has ls 3 [(0, .ref a0), (1, .int v1), (2, .int v2)] := hl
  unfold wp_X7_treadle at h
  refine lv_iload_n hx hb dX7_treadle_0 rfl (lv_at hl 1 rfl) ?_
  refine lv_bipush (v := (nI 6)) hx hb dX7_treadle_1 (by decide) ?_
  refine cS_si (As := [.int v1, .int (nI 6)]) (rest := []) (n := 2) CF hZ (c_X7_isBelow l v1 (nI 6) _ h) (va_cwS 2 hts gX7_treadle_X7_isBelow rfl rfl rfl hdS_X7_isBelow ⟨Nat.le_of_ble_eq_true rfl, Nat.le_of_ble_eq_true rfl⟩) rfl hl.1 rfl (Nat.le_of_ble_eq_true rfl) dX7_treadle_3 ⟨(Nat.le_of_ble_eq_true rfl), (Nat.le_of_ble_eq_true rfl)⟩ (fun i1 h => ?_)
  refine lv_if_ne (tgt := 11) hx hb dX7_treadle_6 (by decide) (fun c2 => ?_) (fun c2 => ?_)
  · have h := h.2 c2
    refine lv_iload_n hx hb dX7_treadle_11 rfl (lv_at hl 2 rfl) ?_
    rcases sw_1 v2 with c3 | c3 | c3
    · have h := h.1 c3
      refine lv_lookup (tgt := 59) (off := 47) hx hb dX7_treadle_12 rfl (lk_out c3) (by decide) ?_
      refine lv_bipush (v := (-2 : Int32)) hx hb dX7_treadle_59 (by decide) ?_
      exact W.iret hx hb hr (fun t ht hW => ⟨(-2 : Int32), rfl, h, ht⟩) no_locs dX7_treadle_61
    · have h := h.2.1 c3
      refine lv_lookup (tgt := 40) (off := 28) hx hb dX7_treadle_12 rfl (by rw [c3]; rfl) (by decide) ?_
      refine lv_aload_n hx hb dX7_treadle_40 rfl (lv_at hl 0 rfl) ?_
      obtain ⟨fs4, a5, e6, e6', h⟩ := h
      refine r_get C hO 5 0 rfl inX7 (Nat.le_of_ble_eq_true rfl) e6 e6' (List.mem_of_getElem? (i := 1) (by decide +kernel)) dX7_treadle_41 ?_
      obtain ⟨fs7, a8, e9, e9', h⟩ := h
      refine r_get C hO 1 3 rfl inX1 (Nat.le_of_ble_eq_true rfl) e9 e9' (List.mem_of_getElem? (i := 2) (by decide +kernel)) dX7_treadle_44 ?_
      refine lv_iload_n hx hb dX7_treadle_47 rfl (lv_at hl 1 rfl) ?_
      obtain ⟨n10, f11, i13, e12, e12', exi13, h⟩ := h
      refine r_iald C hO e12 e12' dX7_treadle_48 ?_
      rw [exi13]
      exact W.iret hx hb hr (fun t ht hW => ⟨i13, rfl, h, ht⟩) no_locs dX7_treadle_49
    · have h := h.2.2 c3
      refine lv_lookup (tgt := 50) (off := 38) hx hb dX7_treadle_12 rfl (by rw [c3]; rfl) (by decide) ?_
      refine lv_aload_n hx hb dX7_treadle_50 rfl (lv_at hl 0 rfl) ?_
      obtain ⟨fs14, a15, e16, e16', h⟩ := h
      refine r_get C hO 5 0 rfl inX7 (Nat.le_of_ble_eq_true rfl) e16 e16' (List.mem_of_getElem? (i := 1) (by decide +kernel)) dX7_treadle_51 ?_
      refine lv_iload_n hx hb dX7_treadle_54 rfl (lv_at hl 1 rfl) ?_
      obtain ⟨fs19, e18, h⟩ := h
      refine cV_ri (As := [.int v1]) (rest := []) (n := 1) C hO (fun L => c_X1_raisedBy l D Y L S s.heap.size a15 v1 _ h) 1 rfl e18 (cwV 1 hts gX7_treadle_X1_raisedBy rfl rfl rfl ⟨rfl, hdS_X1_raisedBy⟩ ⟨Nat.le_of_ble_eq_true rfl, Nat.le_of_ble_eq_true rfl⟩) rfl hl.1 rfl (Nat.le_of_ble_eq_true rfl) dX7_treadle_55 ⟨(Nat.le_of_ble_eq_true rfl), (Nat.le_of_ble_eq_true rfl)⟩ (fun i17 h => ?_)
      exact W.iret hx hb hr (fun t ht hW => ⟨i17, rfl, h, ht⟩) no_locs dX7_treadle_58
  · have h := h.1 c2
    refine lv_iconst (v := (-1 : Int32)) hx hb dX7_treadle_9 (by decide) ?_
    exact W.iret hx hb hr (fun t ht hW => ⟨(-1 : Int32), rfl, h, ht⟩) no_locs dX7_treadle_10
theorem hdS_X7_draft : yX7_draft.cls ≠ "java/lang/invoke/MethodHandle" ∧ yX7_draft.cls ≠ "java/lang/invoke/VarHandle" ∧ (parseMethodDescriptor yX7_draft.desc).map (fun d => d.parameters.length) = some 2 := by decide +kernel
set_option maxHeartbeats 4000000 in
set_option maxRecDepth 100000 in
theorem c_X7_draft (l : Launch) (D : va_G) (Y : Nat → ClassId) (L : List Nat) (S : PS) (sz : Nat) (a0 : Nat) (v1 : Int32) (v2 : Int32) (Post : Int32 → Prop) (h : wp_X7_draft S a0 v1 v2 Post) : Met l yX7_draft wsX7_draft ({ frames := 5, cells := 0, slots := 0, locals := 117 }) (va_Pc [.ref a0, .int v1, .int v2] (PrO D Y L S sz)) (vp_Si Post) 0 0 (fun _ => False) := by
  refine Met.ofW (cc := cX7_draft) (maxL := 6) (ret := (some .int)) (by decide) rfl ?_
  intro p e s m args below meth c s₁ B hml hv
  obtain ⟨rfl, hsz, hJ, hP, hK, hD0, hZ⟩ := hv
  have hx := B.exec
  have hb := B.bytes
  have hr := B.returns
  have hts := atoms_spec (ws := wsX7_draft) B.pre
  have hown : s.vm.findClass RX7 = some m.cls := findClass_of_methodNamed B.named
  have hlocks := B.notSynchronized
  have CF : CallFix p m c cX7_draft 6 s ([.ref a0, .int v1, .int v2] : List Value).toArray wsX7_draft RX7 := ⟨hx, hb, hml, hown, hts⟩
  have C : CX p m c cX7_draft 6 s ([.ref a0, .int v1, .int v2] : List Value).toArray wsX7_draft RX7 D Y := ⟨CF, hK, hZ⟩
  have hO : HO D Y (fR L sz) s.heap S s.heap [] := HO.entry hsz hJ hP hD0
  subst hsz
  have inX0 : ∀ w ∈ wsX00, w ∈ wsX7_draft := fun w h => List.mem_cons_of_mem _ (List.mem_append_left _ (List.mem_append_right _ h))
  have inX7 : ∀ w ∈ wsX70, w ∈ wsX7_draft := fun w h => List.mem_cons_of_mem _ (List.mem_append_left _ (List.mem_append_left _ (List.mem_append_right _ h)))
  have hl := lv_entry ([.ref a0, .int v1, .int v2]) (n := 6) (Nat.le_of_ble_eq_true rfl)
  rw [lg_entry_eq]
  generalize (lg_sl ([.ref a0, .int v1, .int v2]) ++ List.replicate (6 - (lg_sl ([.ref a0, .int v1, .int v2])).length) Slot.unset).toArray = ls at hl ⊢
  have hl : lv_has ls 6 [(0, .ref a0), (1, .int v1), (2, .int v2)] := hl
  unfold wp_X7_draft at h
  refine lv_aload_n hx hb dX7_draft_0 rfl (lv_at hl 0 rfl) ?_
  obtain ⟨fs1, a2, e3, e3', h⟩ := h
  refine r_get C hO 5 0 rfl inX7 (Nat.le_of_ble_eq_true rfl) e3 e3' (List.mem_of_getElem? (i := 1) (by decide +kernel)) dX7_draft_1 ?_
  refine lv_iload_n hx hb dX7_draft_4 rfl (lv_at hl 1 rfl) ?_
  obtain ⟨fs5, e4, h⟩ := h
  refine cV_rq (As := [.int v1]) (rest := []) (n := 1) C hO (fun L => c_X1_draftAt l D Y L S s.heap.size a2 v1 _ h) 1 rfl e4 (cwV 1 hts gX7_draft_X1_draftAt rfl rfl rfl ⟨rfl, hdS_X1_draftAt⟩ ⟨Nat.le_of_ble_eq_true rfl, Nat.le_of_ble_eq_true rfl⟩) rfl hl.1 rfl (Nat.le_of_ble_eq_true rfl) dX7_draft_5 ⟨(Nat.le_of_ble_eq_true rfl), (Nat.le_of_ble_eq_true rfl)⟩ (fun rq h => ?_)
  rcases rq with _ | a6
  · have h := h.1 rfl
    show W _ _ _ _ _ _ _ _ _ _ _ _ _ _ _ (F0 _ _ _ (.null :: _))
    refine lv_astore_nN (lv' := [(3, .null), (0, .ref a0), (1, .int v1), (2, .int v2)]) hx hb dX7_draft_8 rfl hl (by decide) rfl (fun ls hl => ?_)
    refine lv_aload_nN hx hb dX7_draft_9 rfl (lv_at hl 0 rfl) ?_
    refine lv_ifnonnullN hx hb dX7_draft_10 ?_
    refine lv_iconst (v := (-1 : Int32)) hx hb dX7_draft_13 (by decide) ?_
    exact W.iret hx hb hr (fun t ht hW => ⟨(-1 : Int32), rfl, h, ht⟩) no_locs dX7_draft_14
  · have h := h.2 a6 rfl
    show W _ _ _ _ _ _ _ _ _ _ _ _ _ _ _ (F0 _ _ _ (.ref a6 :: _))
    refine lv_astore_n (lv' := [(3, .ref a6), (0, .ref a0), (1, .int v1), (2, .int v2)]) hx hb dX7_draft_8 rfl hl (by decide) rfl (fun ls hl => ?_)
    refine lv_aload_n hx hb dX7_draft_9 rfl (lv_at hl 0 rfl) ?_
    refine lv_ifnonnull (tgt := 15) hx hb dX7_draft_10 (by decide) ?_
    refine lv_aload_n hx hb dX7_draft_15 rfl (lv_at hl 1 rfl) ?_
    obtain ⟨fs7, a8, e9, e9', h⟩ := h
    refine r_get C hO 5 0 rfl inX7 (Nat.le_of_ble_eq_true rfl) e9 e9' (List.mem_of_getElem? (i := 1) (by decide +kernel)) dX7_draft_16 ?_
    refine lv_iload_n hx hb dX7_draft_19 rfl (lv_at hl 2 rfl) ?_
    obtain ⟨fs12, e11, h⟩ := h
    refine cV_rl (As := [.int v1]) (rest := []) (n := 1) C hO (fun L => c_X1_wayOf l D Y L S s.heap.size a8 v1 _ h) 1 rfl e11 (cwV 1 hts gX7_draft_X1_wayOf rfl rfl rfl ⟨rfl, hdS_X1_wayOf⟩ ⟨Nat.le_of_ble_eq_true rfl, Nat.le_of_ble_eq_true rfl⟩) rfl hl.1 rfl (Nat.le_of_ble_eq_true rfl) dX7_draft_20 ⟨(Nat.le_of_ble_eq_true rfl), (Nat.le_of_ble_eq_true rfl)⟩ (fun j10 h => ?_)
    refine lv_lstore (lv' := [(4, .long j10), (3, .ref a6), (0, .ref a0), (1, .int v1), (2, .int v2)]) hx hb dX7_draft_23 hl (by decide) rfl (fun ls hl => ?_)
    refine lv_iload_n hx hb dX7_draft_25 rfl (lv_at hl 4 rfl) ?_
    rcases sw_6 v2 with c13 | c13 | c13 | c13 | c13 | c13 | c13 | c13
    · have h := h.1 c13
      refine lv_tableOut (tgt := 122) hx hb dX7_draft_26 c13 (by decide) ?_
      refine lv_bipush (v := (-2 : Int32)) hx hb dX7_draft_122 (by decide) ?_
      exact W.iret hx hb hr (fun t ht hW => ⟨(-2 : Int32), rfl, h, ht⟩) no_locs dX7_draft_124
    · have h := h.2.1 c13
      refine lv_tableIn (tgt := 68) (off := 42) hx hb dX7_draft_26 (by rw [c13]; decide) (by rw [c13]; decide) (by rw [c13]; rfl) (by decide) ?_
      refine lv_aload_n hx hb dX7_draft_68 rfl (lv_at hl 1 rfl) ?_
      obtain ⟨fs14, i15, e16, e16', h⟩ := h
      refine r_get C hO 0 1 rfl inX0 (Nat.le_of_ble_eq_true rfl) e16 e16' (List.mem_of_getElem? (i := 2) (by decide +kernel)) dX7_draft_69 ?_
      exact W.iret hx hb hr (fun t ht hW => ⟨i15, rfl, h, ht⟩) no_locs dX7_draft_72
    · have h := h.2.2.1 c13
      refine lv_tableIn (tgt := 73) (off := 47) hx hb dX7_draft_26 (by rw [c13]; decide) (by rw [c13]; decide) (by rw [c13]; rfl) (by decide) ?_
      refine lv_lload hx hb dX7_draft_73 (lv_at hl 0 rfl) ?_
      refine lv_ldc2 hx hb hown (hts _ (List.mem_of_getElem? (i := 3) (by decide +kernel : wsX7_draft[3]? = some (Cond.constantLong RX7 143 (205163983024656))))) dX7_draft_75 ?_
      refine cS_si (As := [.long j10, .long (205163983024656 : Int64)]) (rest := []) (n := 2) CF hZ (c_X6_timesUntilAgain l j10 (205163983024656 : Int64) _ h) (va_cwS 2 hts gX7_draft_X6_timesUntilAgain rfl rfl rfl hdS_X6_timesUntilAgain ⟨Nat.le_of_ble_eq_true rfl, Nat.le_of_ble_eq_true rfl⟩) rfl hl.1 rfl (Nat.le_of_ble_eq_true rfl) dX7_draft_78 ⟨(Nat.le_of_ble_eq_true rfl), (Nat.le_of_ble_eq_true rfl)⟩ (fun i17 h => ?_)
      exact W.iret hx hb hr (fun t ht hW => ⟨i17, rfl, h, ht⟩) no_locs dX7_draft_81
    · have h := h.2.2.2.1 c13
      refine lv_tableIn (tgt := 82) (off := 56) hx hb dX7_draft_26 (by rw [c13]; decide) (by rw [c13]; decide) (by rw [c13]; rfl) (by decide) ?_
      refine lv_lload hx hb dX7_draft_82 (lv_at hl 0 rfl) ?_
      refine lv_ldc2 hx hb hown (hts _ (List.mem_of_getElem? (i := 3) (by decide +kernel : wsX7_draft[3]? = some (Cond.constantLong RX7 143 (205163983024656))))) dX7_draft_84 ?_
      refine cS_si (As := [.long j10, .long (205163983024656 : Int64)]) (rest := []) (n := 2) CF hZ (c_X6_alikePlaces l j10 (205163983024656 : Int64) _ h) (va_cwS 2 hts gX7_draft_X6_alikePlaces rfl rfl rfl hdS_X6_alikePlaces ⟨Nat.le_of_ble_eq_true rfl, Nat.le_of_ble_eq_true rfl⟩) rfl hl.1 rfl (Nat.le_of_ble_eq_true rfl) dX7_draft_87 ⟨(Nat.le_of_ble_eq_true rfl), (Nat.le_of_ble_eq_true rfl)⟩ (fun i18 h => ?_)
      exact W.iret hx hb hr (fun t ht hW => ⟨i18, rfl, h, ht⟩) no_locs dX7_draft_90
    · have h := h.2.2.2.2.1 c13
      refine lv_tableIn (tgt := 91) (off := 65) hx hb dX7_draft_26 (by rw [c13]; decide) (by rw [c13]; decide) (by rw [c13]; rfl) (by decide) ?_
      refine lv_lload hx hb dX7_draft_91 (lv_at hl 0 rfl) ?_
      refine cS_si (As := [.long j10]) (rest := []) (n := 1) CF hZ (c_X6_cycles l j10 _ h) (va_cwS 1 hts gX7_draft_X6_cycles rfl rfl rfl hdS_X6_cycles ⟨Nat.le_of_ble_eq_true rfl, Nat.le_of_ble_eq_true rfl⟩) rfl hl.1 rfl (Nat.le_of_ble_eq_true rfl) dX7_draft_93 ⟨(Nat.le_of_ble_eq_true rfl), (Nat.le_of_ble_eq_true rfl)⟩ (fun i19 h => ?_)
      exact W.iret hx hb hr (fun t ht hW => ⟨i19, rfl, h, ht⟩) no_locs dX7_draft_96
    · have h := h.2.2.2.2.2.1 c13
      refine lv_tableIn (tgt := 97) (off := 71) hx hb dX7_draft_26 (by rw [c13]; decide) (by rw [c13]; decide) (by rw [c13]; rfl) (by decide) ?_
      refine lv_lload hx hb dX7_draft_97 (lv_at hl 0 rfl) ?_
      refine cS_si (As := [.long j10]) (rest := []) (n := 1) CF hZ (c_X6_longestCycle l j10 _ h) (va_cwS 1 hts gX7_draft_X6_longestCycle rfl rfl rfl hdS_X6_longestCycle ⟨Nat.le_of_ble_eq_true rfl, Nat.le_of_ble_eq_true rfl⟩) rfl hl.1 rfl (Nat.le_of_ble_eq_true rfl) dX7_draft_99 ⟨(Nat.le_of_ble_eq_true rfl), (Nat.le_of_ble_eq_true rfl)⟩ (fun i20 h => ?_)
      exact W.iret hx hb hr (fun t ht hW => ⟨i20, rfl, h, ht⟩) no_locs dX7_draft_102
    · have h := h.2.2.2.2.2.2.1 c13
      refine lv_tableIn (tgt := 103) (off := 77) hx hb dX7_draft_26 (by rw [c13]; decide) (by rw [c13]; decide) (by rw [c13]; rfl) (by decide) ?_
      refine lv_lload hx hb dX7_draft_103 (lv_at hl 0 rfl) ?_
      refine cS_si (As := [.long j10]) (rest := []) (n := 1) CF hZ (c_X6_crossings l j10 _ h) (va_cwS 1 hts gX7_draft_X6_crossings rfl rfl rfl hdS_X6_crossings ⟨Nat.le_of_ble_eq_true rfl, Nat.le_of_ble_eq_true rfl⟩) rfl hl.1 rfl (Nat.le_of_ble_eq_true rfl) dX7_draft_105 ⟨(Nat.le_of_ble_eq_true rfl), (Nat.le_of_ble_eq_true rfl)⟩ (fun i21 h => ?_)
      exact W.iret hx hb hr (fun t ht hW => ⟨i21, rfl, h, ht⟩) no_locs dX7_draft_108
    · have h := h.2.2.2.2.2.2.2 c13
      refine lv_tableIn (tgt := 109) (off := 83) hx hb dX7_draft_26 (by rw [c13]; decide) (by rw [c13]; decide) (by rw [c13]; rfl) (by decide) ?_
      refine lv_lload hx hb dX7_draft_109 (lv_at hl 0 rfl) ?_
      refine lv_aload_n hx hb dX7_draft_111 rfl (lv_at hl 2 rfl) ?_
      obtain ⟨fs22, a23, e24, e24', h⟩ := h
      refine r_get C hO 5 0 rfl inX7 (Nat.le_of_ble_eq_true rfl) e24 e24' (List.mem_of_getElem? (i := 1) (by decide +kernel)) dX7_draft_112 ?_
      obtain ⟨fs27, e26, h⟩ := h
      refine cV_rl (As := []) (rest := [.long j10]) (n := 0) C hO (fun L => c_X1_coloursByPlace l D Y L S s.heap.size a23 _ h) 1 rfl e26 (cwV 0 hts gX7_draft_X1_coloursByPlace rfl rfl rfl ⟨rfl, hdS_X1_coloursByPlace⟩ ⟨Nat.le_of_ble_eq_true rfl, Nat.le_of_ble_eq_true rfl⟩) rfl hl.1 rfl (Nat.le_of_ble_eq_true rfl) dX7_draft_115 ⟨(Nat.le_of_ble_eq_true rfl), (Nat.le_of_ble_eq_true rfl)⟩ (fun j25 h => ?_)
      refine cS_si (As := [.long j10, .long j25]) (rest := []) (n := 2) CF hZ (c_X6_timesUntilAgain l j10 j25 _ h) (va_cwS 2 hts gX7_draft_X6_timesUntilAgain rfl rfl rfl hdS_X6_timesUntilAgain ⟨Nat.le_of_ble_eq_true rfl, Nat.le_of_ble_eq_true rfl⟩) rfl hl.1 rfl (Nat.le_of_ble_eq_true rfl) dX7_draft_118 ⟨(Nat.le_of_ble_eq_true rfl), (Nat.le_of_ble_eq_true rfl)⟩ (fun i28 h => ?_)
      exact W.iret hx hb hr (fun t ht hW => ⟨i28, rfl, h, ht⟩) no_locs dX7_draft_121
