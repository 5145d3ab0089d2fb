theorem hdS_X7_press : yX7_press.cls ≠ "java/lang/invoke/MethodHandle" ∧ yX7_press.cls ≠ "java/lang/invoke/VarHandle" ∧ (parseMethodDescriptor yX7_press.desc).map (fun d => d.parameters.length) = some 2 := by decide +kernel
set_option maxHeartbeats 4000000 in
set_option maxRecDepth 100000 in
theorem c_X7_press (l : Launch) (D : va_G) (Y : Nat → ClassId) (L : List Nat) (S : PS) (sz : Nat) (a0 : Nat) (v1 : Int32) (v2 : Int32) (Post : Int32 → Prop) (h : wp_X7_press S a0 v1 v2 Post) : Met l yX7_press wsX7_press ({ frames := 2, cells := 0, slots := 0, locals := 42 }) (va_Pc [.ref a0, .int v1, .int v2] (PrO D Y L S sz)) (vp_Si Post) 0 0 (fun _ => False) := by
  refine Met.ofW (cc := cX7_press) (maxL := 4) (ret := (some .int)) (by decide) rfl ?_
  intro p e s m args below meth c s₁ B hml hv
  obtain ⟨rfl, hsz, hJ, hP, hK, hD0, hZ⟩ := hv
  have hx := B.exec
  have hb := B.bytes
  have hr := B.returns
  have hts := atoms_spec (ws := wsX7_press) B.pre
  have hown : s.vm.findClass RX7 = some m.cls := findClass_of_methodNamed B.named
  have hlocks := B.notSynchronized
  have CF : CallFix p m c cX7_press 4 s ([.ref a0, .int v1, .int v2] : List Value).toArray wsX7_press RX7 := ⟨hx, hb, hml, hown, hts⟩
  have C : CX p m c cX7_press 4 s ([.ref a0, .int v1, .int v2] : List Value).toArray wsX7_press RX7 D Y := ⟨CF, hK, hZ⟩
  have hO : HO D Y (fR L sz) s.heap S s.heap [] := HO.entry hsz hJ hP hD0
  subst hsz
  have inX0 : ∀ w ∈ wsX00, w ∈ wsX7_press := fun w h => List.mem_cons_of_mem _ (List.mem_append_left _ (List.mem_append_right _ h))
  have inX7 : ∀ w ∈ wsX70, w ∈ wsX7_press := fun w h => List.mem_cons_of_mem _ (List.mem_append_left _ (List.mem_append_left _ (List.mem_append_right _ h)))
  have hl := lv_entry ([.ref a0, .int v1, .int v2]) (n := 4) (Nat.le_of_ble_eq_true rfl)
  rw [lg_entry_eq]
  generalize (lg_sl ([.ref a0, .int v1, .int v2]) ++ List.replicate (4 - (lg_sl ([.ref a0, .int v1, .int v2])).length) Slot.unset).toArray = ls at hl ⊢
  have hl : lv_has ls 4 [(0, .ref a0), (1, .int v1), (2, .int v2)] := hl
  unfold wp_X7_press at h
  refine lv_aload_n hx hb dX7_press_0 rfl (lv_at hl 0 rfl) ?_
  obtain ⟨fs1, a2, e3, e3', h⟩ := h
  refine r_get C hO 5 0 rfl inX7 (Nat.le_of_ble_eq_true rfl) e3 e3' (List.mem_of_getElem? (i := 1) (by decide +kernel)) dX7_press_1 ?_
  refine lv_iload_n hx hb dX7_press_4 rfl (lv_at hl 1 rfl) ?_
  obtain ⟨fs5, e4, h⟩ := h
  refine cV_rq (As := [.int v1]) (rest := []) (n := 1) C hO (fun L => c_X1_draftAt l D Y L S s.heap.size a2 v1 _ h) 1 rfl e4 (cwV 1 hts gX7_press_X1_draftAt rfl rfl rfl ⟨rfl, hdS_X1_draftAt⟩ ⟨Nat.le_of_ble_eq_true rfl, Nat.le_of_ble_eq_true rfl⟩) rfl hl.1 rfl (Nat.le_of_ble_eq_true rfl) dX7_press_5 ⟨(Nat.le_of_ble_eq_true rfl), (Nat.le_of_ble_eq_true rfl)⟩ (fun rq h => ?_)
  rcases rq with _ | a6
  · have h := h.1 rfl
    show W _ _ _ _ _ _ _ _ _ _ _ _ _ _ _ (F0 _ _ _ (.null :: _))
    refine lv_astore_nN (lv' := [(3, .null), (0, .ref a0), (1, .int v1), (2, .int v2)]) hx hb dX7_press_8 rfl hl (by decide) rfl (fun ls hl => ?_)
    refine lv_aload_nN hx hb dX7_press_9 rfl (lv_at hl 0 rfl) ?_
    refine lv_ifnullN (tgt := 24) hx hb dX7_press_10 (by decide) ?_
    refine lv_iconst (v := (-1 : Int32)) hx hb dX7_press_24 (by decide) ?_
    exact W.iret hx hb hr (fun t ht hW => ⟨(-1 : Int32), rfl, h, ht⟩) no_locs dX7_press_25
  · have h := h.2 a6 rfl
    show W _ _ _ _ _ _ _ _ _ _ _ _ _ _ _ (F0 _ _ _ (.ref a6 :: _))
    refine lv_astore_n (lv' := [(3, .ref a6), (0, .ref a0), (1, .int v1), (2, .int v2)]) hx hb dX7_press_8 rfl hl (by decide) rfl (fun ls hl => ?_)
    refine lv_aload_n hx hb dX7_press_9 rfl (lv_at hl 0 rfl) ?_
    refine lv_ifnull hx hb dX7_press_10 ?_
    refine lv_iload_n hx hb dX7_press_13 rfl (lv_at hl 3 rfl) ?_
    refine lv_aload_n hx hb dX7_press_14 rfl (lv_at hl 0 rfl) ?_
    obtain ⟨fs7, i8, e9, e9', h⟩ := h
    refine r_get C hO 0 1 rfl inX0 (Nat.le_of_ble_eq_true rfl) e9 e9' (List.mem_of_getElem? (i := 2) (by decide +kernel)) dX7_press_15 ?_
    refine cS_si (As := [.int v2, .int i8]) (rest := []) (n := 2) CF hZ (c_X7_isBelow l v2 i8 _ h) (va_cwS 2 hts gX7_press_X7_isBelow rfl rfl rfl hdS_X7_isBelow ⟨Nat.le_of_ble_eq_true rfl, Nat.le_of_ble_eq_true rfl⟩) rfl hl.1 rfl (Nat.le_of_ble_eq_true rfl) dX7_press_18 ⟨(Nat.le_of_ble_eq_true rfl), (Nat.le_of_ble_eq_true rfl)⟩ (fun i10 h => ?_)
    refine lv_if_ne (tgt := 26) hx hb dX7_press_21 (by decide) (fun c11 => ?_) (fun c11 => ?_)
    · have h := h.2 c11
      refine lv_aload_n hx hb dX7_press_26 rfl (lv_at hl 0 rfl) ?_
      refine lv_iload_n hx hb dX7_press_27 rfl (lv_at hl 3 rfl) ?_
      obtain ⟨fs14, e13, h⟩ := h
      refine cV_ri (As := [.int v2]) (rest := []) (n := 1) C hO (fun L => c_X0_pressAt l D Y L S s.heap.size a6 v2 _ h) 0 rfl e13 (cwV 1 hts gX7_press_X0_pressAt rfl rfl rfl ⟨rfl, hdS_X0_pressAt⟩ ⟨Nat.le_of_ble_eq_true rfl, Nat.le_of_ble_eq_true rfl⟩) rfl hl.1 rfl (Nat.le_of_ble_eq_true rfl) dX7_press_28 ⟨(Nat.le_of_ble_eq_true rfl), (Nat.le_of_ble_eq_true rfl)⟩ (fun i12 h => ?_)
      exact W.iret hx hb hr (fun t ht hW => ⟨i12, rfl, h, ht⟩) no_locs dX7_press_31
    · have h := h.1 c11
      refine lv_iconst (v := (-1 : Int32)) hx hb dX7_press_24 (by decide) ?_
      exact W.iret hx hb hr (fun t ht hW => ⟨(-1 : Int32), rfl, h, ht⟩) no_locs dX7_press_25
theorem hdS_X7_comesTo : yX7_comesTo.cls ≠ "java/lang/invoke/MethodHandle" ∧ yX7_comesTo.cls ≠ "java/lang/invoke/VarHandle" ∧ (parseMethodDescriptor yX7_comesTo.desc).map (fun d => d.parameters.length) = some 3 := by decide +kernel
set_option maxHeartbeats 4000000 in
set_option maxRecDepth 100000 in
theorem c_X7_comesTo (l : Launch) (D : va_G) (Y : Nat → ClassId) (L : List Nat) (S : PS) (sz : Nat) (a0 : Nat) (v1 : Int32) (v2 : Int32) (v3 : Int32) (Post : Int32 → Prop) (h : wp_X7_comesTo S a0 v1 v2 v3 Post) : Met l yX7_comesTo wsX7_comesTo ({ frames := 5, cells := 0, slots := 0, locals := 117 }) (va_Pc [.ref a0, .int v1, .int v2, .int v3] (PrO D Y L S sz)) (vp_Si Post) 0 0 (fun _ => False) := by
  refine Met.ofW (cc := cX7_comesTo) (maxL := 4) (ret := (some .int)) (by decide) rfl ?_
  intro p e s m args below meth c s₁ B hml hv
  obtain ⟨rfl, hsz, hJ, hP, hK, hD0, hZ⟩ := hv
  have hx := B.exec
  have hb := B.bytes
  have hr := B.returns
  have hts := atoms_spec (ws := wsX7_comesTo) B.pre
  have hown : s.vm.findClass RX7 = some m.cls := findClass_of_methodNamed B.named
  have hlocks := B.notSynchronized
  have CF : CallFix p m c cX7_comesTo 4 s ([.ref a0, .int v1, .int v2, .int v3] : List Value).toArray wsX7_comesTo RX7 := ⟨hx, hb, hml, hown, hts⟩
  have C : CX p m c cX7_comesTo 4 s ([.ref a0, .int v1, .int v2, .int v3] : List Value).toArray wsX7_comesTo RX7 D Y := ⟨CF, hK, hZ⟩
  have hO : HO D Y (fR L sz) s.heap S s.heap [] := HO.entry hsz hJ hP hD0
  subst hsz
  have inX7 : ∀ w ∈ wsX70, w ∈ wsX7_comesTo := fun w h => List.mem_cons_of_mem _ (List.mem_append_left _ (List.mem_append_left _ (List.mem_append_right _ h)))
  have hl := lv_entry ([.ref a0, .int v1, .int v2, .int v3]) (n := 4) (Nat.le_of_ble_eq_true rfl)
  rw [lg_entry_eq]
  generalize (lg_sl ([.ref a0, .int v1, .int v2, .int v3]) ++ List.replicate (4 - (lg_sl ([.ref a0, .int v1, .int v2, .int v3])).length) Slot.unset).toArray = ls at hl ⊢
  have hl : lv_has ls 4 [(0, .ref a0), (1, .int v1), (2, .int v2), (3, .int v3)] := hl
  unfold wp_X7_comesTo at h
  refine lv_iload_n hx hb dX7_comesTo_0 rfl (lv_at hl 1 rfl) ?_
  refine lv_bipush (v := (nI 6)) hx hb dX7_comesTo_1 (by decide) ?_
  refine cS_si (As := [.int v1, .int (nI 6)]) (rest := []) (n := 2) CF hZ (c_X7_isBelow l v1 (nI 6) _ h) (va_cwS 2 hts gX7_comesTo_X7_isBelow rfl rfl rfl hdS_X7_isBelow ⟨Nat.le_of_ble_eq_true rfl, Nat.le_of_ble_eq_true rfl⟩) rfl hl.1 rfl (Nat.le_of_ble_eq_true rfl) dX7_comesTo_3 ⟨(Nat.le_of_ble_eq_true rfl), (Nat.le_of_ble_eq_true rfl)⟩ (fun i1 h => ?_)
  refine lv_if_eq (tgt := 18) hx hb dX7_comesTo_6 (by decide) (fun c2 => ?_) (fun c2 => ?_)
  · have h := h.1 c2
    refine lv_iconst (v := (-1 : Int32)) hx hb dX7_comesTo_18 (by decide) ?_
    exact W.iret hx hb hr (fun t ht hW => ⟨(-1 : Int32), rfl, h, ht⟩) no_locs dX7_comesTo_19
  · have h := h.2 c2
    refine lv_iload_n hx hb dX7_comesTo_9 rfl (lv_at hl 2 rfl) ?_
    refine lv_bipush (v := (nI 12)) hx hb dX7_comesTo_10 (by decide) ?_
    refine cS_si (As := [.int v2, .int (nI 12)]) (rest := []) (n := 2) CF hZ (c_X7_isBelow l v2 (nI 12) _ h) (va_cwS 2 hts gX7_comesTo_X7_isBelow rfl rfl rfl hdS_X7_isBelow ⟨Nat.le_of_ble_eq_true rfl, Nat.le_of_ble_eq_true rfl⟩) rfl hl.1 rfl (Nat.le_of_ble_eq_true rfl) dX7_comesTo_12 ⟨(Nat.le_of_ble_eq_true rfl), (Nat.le_of_ble_eq_true rfl)⟩ (fun i3 h => ?_)
    refine lv_if_ne (tgt := 20) hx hb dX7_comesTo_15 (by decide) (fun c4 => ?_) (fun c4 => ?_)
    · have h := h.2 c4
      refine lv_iload_n hx hb dX7_comesTo_20 rfl (lv_at hl 3 rfl) ?_
      refine lv_if_lt (tgt := 30) hx hb dX7_comesTo_21 (by decide) (fun c5 => ?_) (fun c5 => ?_)
      · have h := h.1 c5
        refine lv_bipush (v := (-2 : Int32)) hx hb dX7_comesTo_30 (by decide) ?_
        exact W.iret hx hb hr (fun t ht hW => ⟨(-2 : Int32), rfl, h, ht⟩) no_locs dX7_comesTo_32
      · have h := h.2 c5
        refine lv_iload_n hx hb dX7_comesTo_24 rfl (lv_at hl 3 rfl) ?_
        refine lv_ldc hx hb hown (hts _ (List.mem_of_getElem? (i := 1) (by decide +kernel : wsX7_comesTo[1]? = some (Cond.constant RX7 164 (1000000))))) dX7_comesTo_25 ?_
        refine lv_icmp_le (tgt := 33) hx hb dX7_comesTo_27 (by decide) (fun c6 => ?_) (fun c6 => ?_)
        · have h := h.1 c6
          refine lv_aload_n hx hb dX7_comesTo_33 rfl (lv_at hl 0 rfl) ?_
          obtain ⟨fs7, a8, e9, e9', h⟩ := h
          refine r_get C hO 5 0 rfl inX7 (Nat.le_of_ble_eq_true rfl) e9 e9' (List.mem_of_getElem? (i := 2) (by decide +kernel)) dX7_comesTo_34 ?_
          refine lv_iload_n hx hb dX7_comesTo_37 rfl (lv_at hl 1 rfl) ?_
          obtain ⟨fs12, e11, h⟩ := h
          refine cV_rl (As := [.int v1]) (rest := []) (n := 1) C hO (fun L => c_X1_wayOf l D Y L S s.heap.size a8 v1 _ h) 1 rfl e11 (cwV 1 hts gX7_comesTo_X1_wayOf rfl rfl rfl ⟨rfl, hdS_X1_wayOf⟩ ⟨Nat.le_of_ble_eq_true rfl, Nat.le_of_ble_eq_true rfl⟩) rfl hl.1 rfl (Nat.le_of_ble_eq_true rfl) dX7_comesTo_38 ⟨(Nat.le_of_ble_eq_true rfl), (Nat.le_of_ble_eq_true rfl)⟩ (fun j10 h => ?_)
          refine lv_iload_n hx hb dX7_comesTo_41 rfl (lv_at hl 3 rfl) ?_
          refine cS_sl (As := [.long j10, .int v3]) (rest := []) (n := 2) CF hZ (c_X6_power l j10 v3 _ h) (va_cwS 2 hts gX7_comesTo_X6_power rfl rfl rfl hdS_X6_power ⟨Nat.le_of_ble_eq_true rfl, Nat.le_of_ble_eq_true rfl⟩) rfl hl.1 rfl (Nat.le_of_ble_eq_true rfl) dX7_comesTo_42 ⟨(Nat.le_of_ble_eq_true rfl), (Nat.le_of_ble_eq_true rfl)⟩ (fun j13 h => ?_)
          refine lv_iload_n hx hb dX7_comesTo_45 rfl (lv_at hl 2 rfl) ?_
          refine cS_si (As := [.long j13, .int v2]) (rest := []) (n := 2) CF hZ (c_X4_at l j13 v2 _ h) (va_cwS 2 hts gX7_comesTo_X4_at rfl rfl rfl hdS_X4_at ⟨Nat.le_of_ble_eq_true rfl, Nat.le_of_ble_eq_true rfl⟩) rfl hl.1 rfl (Nat.le_of_ble_eq_true rfl) dX7_comesTo_46 ⟨(Nat.le_of_ble_eq_true rfl), (Nat.le_of_ble_eq_true rfl)⟩ (fun i14 h => ?_)
          exact W.iret hx hb hr (fun t ht hW => ⟨i14, rfl, h, ht⟩) no_locs dX7_comesTo_49
        · have h := h.2 c6
          refine lv_bipush (v := (-2 : Int32)) hx hb dX7_comesTo_30 (by decide) ?_
          exact W.iret hx hb hr (fun t ht hW => ⟨(-2 : Int32), rfl, h, ht⟩) no_locs dX7_comesTo_32
    · have h := h.1 c4
      refine lv_iconst (v := (-1 : Int32)) hx hb dX7_comesTo_18 (by decide) ?_
      exact W.iret hx hb hr (fun t ht hW => ⟨(-1 : Int32), rfl, h, ht⟩) no_locs dX7_comesTo_19
theorem hdS_X7_count : yX7_count.cls ≠ "java/lang/invoke/MethodHandle" ∧ yX7_count.cls ≠ "java/lang/invoke/VarHandle" ∧ (parseMethodDescriptor yX7_count.desc).map (fun d => d.parameters.length) = some 1 := by decide +kernel
set_option maxHeartbeats 4000000 in
set_option maxRecDepth 100000 in
theorem c_X7_count (l : Launch) (D : va_G) (Y : Nat → ClassId) (L : List Nat) (S : PS) (sz : Nat) (a0 : Nat) (v1 : Int32) (Post : Int32 → Prop) (h : wp_X7_count S a0 v1 Post) : Met l yX7_count wsX7_count ({ frames := 3, cells := 0, slots := 0, locals := 68 }) (va_Pc [.ref a0, .int v1] (PrO D Y L S sz)) (vp_Si Post) 0 0 (fun _ => False) := by
  refine Met.ofW (cc := cX7_count) (maxL := 2) (ret := (some .int)) (by decide) rfl ?_
  intro p e s m args below meth c s₁ B hml hv
  obtain ⟨rfl, hsz, hJ, hP, hK, hD0, hZ⟩ := hv
  have hx := B.exec
  have hb := B.bytes
  have hr := B.returns
  have hts := atoms_spec (ws := wsX7_count) B.pre
  have hown : s.vm.findClass RX7 = some m.cls := findClass_of_methodNamed B.named
  have hlocks := B.notSynchronized
  have CF : CallFix p m c cX7_count 2 s ([.ref a0, .int v1] : List Value).toArray wsX7_count RX7 := ⟨hx, hb, hml, hown, hts⟩
  have C : CX p m c cX7_count 2 s ([.ref a0, .int v1] : List Value).toArray wsX7_count RX7 D Y := ⟨CF, hK, hZ⟩
  have hO : HO D Y (fR L sz) s.heap S s.heap [] := HO.entry hsz hJ hP hD0
  subst hsz
  have inX1 : ∀ w ∈ wsX10, w ∈ wsX7_count := fun w h => List.mem_cons_of_mem _ (List.mem_append_left _ (List.mem_append_left _ (List.mem_append_left _ (List.mem_append_right _ h))))
  have inX2 : ∀ w ∈ wsX20, w ∈ wsX7_count := fun w h => List.mem_cons_of_mem _ (List.mem_append_left _ (List.mem_append_left _ (List.mem_append_right _ h)))
  have inX3 : ∀ w ∈ wsX30, w ∈ wsX7_count := fun w h => List.mem_cons_of_mem _ (List.mem_append_left _ (List.mem_append_right _ h))
  have inX7 : ∀ w ∈ wsX70, w ∈ wsX7_count := fun w h => List.mem_cons_of_mem _ (List.mem_append_left _ (List.mem_append_left _ (List.mem_append_left _ (List.mem_append_left _ (List.mem_append_right _ h)))))
  have hl := lv_entry ([.ref a0, .int v1]) (n := 2) (Nat.le_of_ble_eq_true rfl)
  rw [lg_entry_eq]
  generalize (lg_sl ([.ref a0, .int v1]) ++ List.replicate (2 - (lg_sl ([.ref a0, .int v1])).length) Slot.unset).toArray = ls at hl ⊢
  have hl : lv_has ls 2 [(0, .ref a0), (1, .int v1)] := hl
  unfold wp_X7_count at h
  refine lv_iload_n hx hb dX7_count_0 rfl (lv_at hl 1 rfl) ?_
  rcases sw_6 v1 with c1 | c1 | c1 | c1 | c1 | c1 | c1 | c1
  · have h := h.1 c1
    refine lv_tableOut (tgt := 103) hx hb dX7_count_1 c1 (by decide) ?_
    refine lv_bipush (v := (-2 : Int32)) hx hb dX7_count_103 (by decide) ?_
    exact W.iret hx hb hr (fun t ht hW => ⟨(-2 : Int32), rfl, h, ht⟩) no_locs dX7_count_105
  · have h := h.2.1 c1
    refine lv_tableIn (tgt := 44) (off := 43) hx hb dX7_count_1 (by rw [c1]; decide) (by rw [c1]; decide) (by rw [c1]; rfl) (by decide) ?_
    refine lv_aload_n hx hb dX7_count_44 rfl (lv_at hl 0 rfl) ?_
    obtain ⟨fs2, a3, e4, e4', h⟩ := h
    refine r_get C hO 5 0 rfl inX7 (Nat.le_of_ble_eq_true rfl) e4 e4' (List.mem_of_getElem? (i := 1) (by decide +kernel)) dX7_count_45 ?_
    obtain ⟨fs5, j6, e7, e7', h⟩ := h
    refine r_get C hO 1 1 rfl inX1 (Nat.le_of_ble_eq_true rfl) e7 e7' (List.mem_of_getElem? (i := 2) (by decide +kernel)) dX7_count_48 ?_
    refine cS_si (As := [.long j6]) (rest := []) (n := 1) CF hZ (c_X6_staying l j6 _ h) (va_cwS 1 hts gX7_count_X6_staying rfl rfl rfl hdS_X6_staying ⟨Nat.le_of_ble_eq_true rfl, Nat.le_of_ble_eq_true rfl⟩) rfl hl.1 rfl (Nat.le_of_ble_eq_true rfl) dX7_count_51 ⟨(Nat.le_of_ble_eq_true rfl), (Nat.le_of_ble_eq_true rfl)⟩ (fun i8 h => ?_)
    exact W.iret hx hb hr (fun t ht hW => ⟨i8, rfl, h, ht⟩) no_locs dX7_count_54
  · have h := h.2.2.1 c1
    refine lv_tableIn (tgt := 55) (off := 54) hx hb dX7_count_1 (by rw [c1]; decide) (by rw [c1]; decide) (by rw [c1]; rfl) (by decide) ?_
    refine lv_aload_n hx hb dX7_count_55 rfl (lv_at hl 0 rfl) ?_
    obtain ⟨fs9, a10, e11, e11', h⟩ := h
    refine r_get C hO 5 0 rfl inX7 (Nat.le_of_ble_eq_true rfl) e11 e11' (List.mem_of_getElem? (i := 1) (by decide +kernel)) dX7_count_56 ?_
    obtain ⟨fs12, i13, e14, e14', h⟩ := h
    refine r_get C hO 1 5 rfl inX1 (Nat.le_of_ble_eq_true rfl) e14 e14' (List.mem_of_getElem? (i := 3) (by decide +kernel)) dX7_count_59 ?_
    exact W.iret hx hb hr (fun t ht hW => ⟨i13, rfl, h, ht⟩) no_locs dX7_count_62
  · have h := h.2.2.2.1 c1
    refine lv_tableIn (tgt := 63) (off := 62) hx hb dX7_count_1 (by rw [c1]; decide) (by rw [c1]; decide) (by rw [c1]; rfl) (by decide) ?_
    refine lv_aload_n hx hb dX7_count_63 rfl (lv_at hl 0 rfl) ?_
    obtain ⟨fs15, a16, e17, e17', h⟩ := h
    refine r_get C hO 5 0 rfl inX7 (Nat.le_of_ble_eq_true rfl) e17 e17' (List.mem_of_getElem? (i := 1) (by decide +kernel)) dX7_count_64 ?_
    obtain ⟨fs18, i19, e20, e20', h⟩ := h
    refine r_get C hO 1 6 rfl inX1 (Nat.le_of_ble_eq_true rfl) e20 e20' (List.mem_of_getElem? (i := 4) (by decide +kernel)) dX7_count_67 ?_
    exact W.iret hx hb hr (fun t ht hW => ⟨i19, rfl, h, ht⟩) no_locs dX7_count_70
  · have h := h.2.2.2.2.1 c1
    refine lv_tableIn (tgt := 71) (off := 70) hx hb dX7_count_1 (by rw [c1]; decide) (by rw [c1]; decide) (by rw [c1]; rfl) (by decide) ?_
    refine lv_aload_n hx hb dX7_count_71 rfl (lv_at hl 0 rfl) ?_
    obtain ⟨fs21, a22, e23, e23', h⟩ := h
    refine r_get C hO 5 0 rfl inX7 (Nat.le_of_ble_eq_true rfl) e23 e23' (List.mem_of_getElem? (i := 1) (by decide +kernel)) dX7_count_72 ?_
    obtain ⟨fs26, e25, h⟩ := h
    refine cV_ri (As := []) (rest := []) (n := 0) C hO (fun L => c_X1_neverRaised l D Y L S s.heap.size a22 _ h) 1 rfl e25 (cwV 0 hts gX7_count_X1_neverRaised rfl rfl rfl ⟨rfl, hdS_X1_neverRaised⟩ ⟨Nat.le_of_ble_eq_true rfl, Nat.le_of_ble_eq_true rfl⟩) rfl hl.1 rfl (Nat.le_of_ble_eq_true rfl) dX7_count_75 ⟨(Nat.le_of_ble_eq_true rfl), (Nat.le_of_ble_eq_true rfl)⟩ (fun i24 h => ?_)
    exact W.iret hx hb hr (fun t ht hW => ⟨i24, rfl, h, ht⟩) no_locs dX7_count_78
  · have h := h.2.2.2.2.2.1 c1
    refine lv_tableIn (tgt := 79) (off := 78) hx hb dX7_count_1 (by rw [c1]; decide) (by rw [c1]; decide) (by rw [c1]; rfl) (by decide) ?_
    refine lv_aload_n hx hb dX7_count_79 rfl (lv_at hl 0 rfl) ?_
    obtain ⟨fs27, a28, e29, e29', h⟩ := h
    refine r_get C hO 5 0 rfl inX7 (Nat.le_of_ble_eq_true rfl) e29 e29' (List.mem_of_getElem? (i := 1) (by decide +kernel)) dX7_count_80 ?_
    obtain ⟨fs32, e31, h⟩ := h
    refine cV_ri (As := []) (rest := []) (n := 0) C hO (fun L => c_X1_draftsWithPresses l D Y L S s.heap.size a28 _ h) 1 rfl e31 (cwV 0 hts gX7_count_X1_draftsWithPresses rfl rfl rfl ⟨rfl, hdS_X1_draftsWithPresses⟩ ⟨Nat.le_of_ble_eq_true rfl, Nat.le_of_ble_eq_true rfl⟩) rfl hl.1 rfl (Nat.le_of_ble_eq_true rfl) dX7_count_83 ⟨(Nat.le_of_ble_eq_true rfl), (Nat.le_of_ble_eq_true rfl)⟩ (fun i30 h => ?_)
    exact W.iret hx hb hr (fun t ht hW => ⟨i30, rfl, h, ht⟩) no_locs dX7_count_86
  · have h := h.2.2.2.2.2.2.1 c1
    refine lv_tableIn (tgt := 87) (off := 86) hx hb dX7_count_1 (by rw [c1]; decide) (by rw [c1]; decide) (by rw [c1]; rfl) (by decide) ?_
    refine lv_aload_n hx hb dX7_count_87 rfl (lv_at hl 0 rfl) ?_
    obtain ⟨fs33, a34, e35, e35', h⟩ := h
    refine r_get C hO 5 3 rfl inX7 (Nat.le_of_ble_eq_true rfl) e35 e35' (List.mem_of_getElem? (i := 5) (by decide +kernel)) dX7_count_88 ?_
    obtain ⟨fs36, i37, e38, e38', h⟩ := h
    refine r_get C hO 2 1 rfl inX2 (Nat.le_of_ble_eq_true rfl) e38 e38' (List.mem_of_getElem? (i := 6) (by decide +kernel)) dX7_count_91 ?_
    exact W.iret hx hb hr (fun t ht hW => ⟨i37, rfl, h, ht⟩) no_locs dX7_count_94
  · have h := h.2.2.2.2.2.2.2 c1
    refine lv_tableIn (tgt := 95) (off := 94) hx hb dX7_count_1 (by rw [c1]; decide) (by rw [c1]; decide) (by rw [c1]; rfl) (by decide) ?_
    refine lv_aload_n hx hb dX7_count_95 rfl (lv_at hl 0 rfl) ?_
    obtain ⟨fs39, a40, e41, e41', h⟩ := h
    refine r_get C hO 5 1 rfl inX7 (Nat.le_of_ble_eq_true rfl) e41 e41' (List.mem_of_getElem? (i := 7) (by decide +kernel)) dX7_count_96 ?_
    obtain ⟨fs42, i43, e44, e44', h⟩ := h
    refine r_get C hO 3 1 rfl inX3 (Nat.le_of_ble_eq_true rfl) e44 e44' (List.mem_of_getElem? (i := 8) (by decide +kernel)) dX7_count_99 ?_
    exact W.iret hx hb hr (fun t ht hW => ⟨i43, rfl, h, ht⟩) no_locs dX7_count_102
theorem hdS_X7_kernel : yX7_kernel.cls ≠ "java/lang/invoke/MethodHandle" ∧ yX7_kernel.cls ≠ "java/lang/invoke/VarHandle" ∧ (parseMethodDescriptor yX7_kernel.desc).map (fun d => d.parameters.length) = some 1 := by decide +kernel
set_option maxHeartbeats 4000000 in
set_option maxRecDepth 100000 in
theorem c_X7_kernel (l : Launch) (D : va_G) (Y : Nat → ClassId) (L : List Nat) (S : PS) (sz : Nat) (a0 : Nat) (v1 : Int32) (Post : Int32 → Prop) (h : wp_X7_kernel S a0 v1 Post) : Met l yX7_kernel wsX7_kernel ({ frames := 5, cells := 0, slots := 0, locals := 117 }) (va_Pc [.ref a0, .int v1] (PrO D Y L S sz)) (vp_Si Post) 0 0 (fun _ => False) := by
  refine Met.ofW (cc := cX7_kernel) (maxL := 4) (ret := (some .int)) (by decide) rfl ?_
  intro p e s m args below meth c s₁ B hml hv
  obtain ⟨rfl, hsz, hJ, hP, hK, hD0, hZ⟩ := hv
  have hx := B.exec
  have hb := B.bytes
  have hr := B.returns
  have hts := atoms_spec (ws := wsX7_kernel) B.pre
  have hown : s.vm.findClass RX7 = some m.cls := findClass_of_methodNamed B.named
  have hlocks := B.notSynchronized
  have CF : CallFix p m c cX7_kernel 4 s ([.ref a0, .int v1] : List Value).toArray wsX7_kernel RX7 := ⟨hx, hb, hml, hown, hts⟩
  have C : CX p m c cX7_kernel 4 s ([.ref a0, .int v1] : List Value).toArray wsX7_kernel RX7 D Y := ⟨CF, hK, hZ⟩
  have hO : HO D Y (fR L sz) s.heap S s.heap [] := HO.entry hsz hJ hP hD0
  subst hsz
  have inX7 : ∀ w ∈ wsX70, w ∈ wsX7_kernel := fun w h => List.mem_cons_of_mem _ (List.mem_append_left _ (List.mem_append_left _ (List.mem_append_right _ h)))
  have hl := lv_entry ([.ref a0, .int v1]) (n := 4) (Nat.le_of_ble_eq_true rfl)
  rw [lg_entry_eq]
  generalize (lg_sl ([.ref a0, .int v1]) ++ List.replicate (4 - (lg_sl ([.ref a0, .int v1])).length) Slot.unset).toArray = ls at hl ⊢
  have hl : lv_has ls 4 [(0, .ref a0), (1, .int v1)] := hl
  unfold wp_X7_kernel at h
  refine lv_iload_n hx hb dX7_kernel_0 rfl (lv_at hl 1 rfl) ?_
  refine lv_bipush (v := (nI 64)) hx hb dX7_kernel_1 (by decide) ?_
  refine cS_si (As := [.int v1, .int (nI 64)]) (rest := []) (n := 2) CF hZ (c_X7_isBelow l v1 (nI 64) _ h) (va_cwS 2 hts gX7_kernel_X7_isBelow rfl rfl rfl hdS_X7_isBelow ⟨Nat.le_of_ble_eq_true rfl, Nat.le_of_ble_eq_true rfl⟩) rfl hl.1 rfl (Nat.le_of_ble_eq_true rfl) dX7_kernel_3 ⟨(Nat.le_of_ble_eq_true rfl), (Nat.le_of_ble_eq_true rfl)⟩ (fun i1 h => ?_)
  refine lv_if_ne (tgt := 12) hx hb dX7_kernel_6 (by decide) (fun c2 => ?_) (fun c2 => ?_)
  · have h := h.2 c2
    refine lv_sipush (v := (nI 4095)) hx hb dX7_kernel_12 (by decide) ?_
    refine lv_istore_n (lv' := [(2, .int (nI 4095)), (0, .ref a0), (1, .int v1)]) hx hb dX7_kernel_15 rfl hl (by decide) rfl (fun ls hl => ?_)
    refine lv_iconst (v := (nI 0)) hx hb dX7_kernel_16 (by decide) ?_
    refine lv_istore_n (lv' := [(3, .int (nI 0)), (2, .int (nI 4095)), (0, .ref a0), (1, .int v1)]) hx hb dX7_kernel_17 rfl hl (by decide) rfl (fun ls hl => ?_)
    obtain ⟨n18, h⟩ := h
    refine lp_P (nL := 4) (fun q => [(3, .int q.1), (2, .int q.2), (0, .ref a0), (1, .int v1)]) h (lv_sub hl [0, 1, 2, 3] rfl) (fun K18 ih18 q ls h hl => ?_)
    obtain ⟨i3, i4⟩ := q
    have h : wpb_X7_kernel_18 S a0 v1 Post K18 i3 i4 := h
    have hl : lv_has ls 4 [(3, .int i3), (2, .int i4), (0, .ref a0), (1, .int v1)] := hl
    unfold wpb_X7_kernel_18 at h
    refine lv_iload_n hx hb dX7_kernel_18 rfl (lv_at hl 0 rfl) ?_
    refine lv_bipush (v := (nI 6)) hx hb dX7_kernel_19 (by decide) ?_
    refine lv_icmp_ge (tgt := 55) hx hb dX7_kernel_21 (by decide) (fun c5 => ?_) (fun c5 => ?_)
    · have h := h.1 c5
      refine lv_iload_n hx hb dX7_kernel_55 rfl (lv_at hl 1 rfl) ?_
      exact W.iret hx hb hr (fun t ht hW => ⟨i4, rfl, h, ht⟩) no_locs dX7_kernel_56
    · have h := h.2 c5
      refine lv_iload_n hx hb dX7_kernel_24 rfl (lv_at hl 3 rfl) ?_
      refine lv_iload_n hx hb dX7_kernel_25 rfl (lv_at hl 0 rfl) ?_
      refine cS_si (As := [.int v1, .int i3]) (rest := []) (n := 2) CF hZ (c_X7_hasBit l v1 i3 _ h) (va_cwS 2 hts gX7_kernel_X7_hasBit rfl rfl rfl hdS_X7_hasBit ⟨Nat.le_of_ble_eq_true rfl, Nat.le_of_ble_eq_true rfl⟩) rfl hl.1 rfl (Nat.le_of_ble_eq_true rfl) dX7_kernel_26 ⟨(Nat.le_of_ble_eq_true rfl), (Nat.le_of_ble_eq_true rfl)⟩ (fun i6 h => ?_)
      refine lv_if_eq (tgt := 49) hx hb dX7_kernel_29 (by decide) (fun c7 => ?_) (fun c7 => ?_)
      · have h := h.1 c7
        obtain ⟨i8, ei8⟩ : ∃ y : Int32, y = i3 + (nI 1) := ⟨_, rfl⟩
        have h := h i8 ei8
        refine lv_iinc (v := i8) (lv' := [(3, .int i8), (2, .int i4), (0, .ref a0), (1, .int v1)]) hx hb dX7_kernel_49 hl (k := 0) rfl (by rw [ei8]; rfl) (by decide) rfl (fun ls hl => ?_)
        refine lv_goto (tgt := 18) hx hb dX7_kernel_52 (by decide) ?_
        exact ih18 (i8, i4) _ h (lv_sub hl [0, 1, 2, 3] rfl)
      · have h := h.2 c7
        refine lv_iload_n hx hb dX7_kernel_32 rfl (lv_at hl 1 rfl) ?_
        refine lv_aload_n hx hb dX7_kernel_33 rfl (lv_at hl 2 rfl) ?_
        obtain ⟨fs9, a10, e11, e11', h⟩ := h
        refine r_get C hO 5 0 rfl inX7 (Nat.le_of_ble_eq_true rfl) e11 e11' (List.mem_of_getElem? (i := 1) (by decide +kernel)) dX7_kernel_34 ?_
        refine lv_iload_n hx hb dX7_kernel_37 rfl (lv_at hl 0 rfl) ?_
        obtain ⟨fs14, e13, h⟩ := h
        refine cV_rl (As := [.int i3]) (rest := [.int i4]) (n := 1) C hO (fun L => c_X1_wayOf l D Y L S s.heap.size a10 i3 _ h) 1 rfl e13 (cwV 1 hts gX7_kernel_X1_wayOf rfl rfl rfl ⟨rfl, hdS_X1_wayOf⟩ ⟨Nat.le_of_ble_eq_true rfl, Nat.le_of_ble_eq_true rfl⟩) rfl hl.1 rfl (Nat.le_of_ble_eq_true rfl) dX7_kernel_38 ⟨(Nat.le_of_ble_eq_true rfl), (Nat.le_of_ble_eq_true rfl)⟩ (fun j12 h => ?_)
        refine lv_ldc2 hx hb hown (hts _ (List.mem_of_getElem? (i := 2) (by decide +kernel : wsX7_kernel[2]? = some (Cond.constantLong RX7 143 (205163983024656))))) dX7_kernel_41 ?_
        refine cS_si (As := [.long j12, .long (205163983024656 : Int64)]) (rest := [.int i4]) (n := 2) CF hZ (c_X6_alikePlaces l j12 (205163983024656 : Int64) _ h) (va_cwS 2 hts gX7_kernel_X6_alikePlaces rfl rfl rfl hdS_X6_alikePlaces ⟨Nat.le_of_ble_eq_true rfl, Nat.le_of_ble_eq_true rfl⟩) rfl hl.1 rfl (Nat.le_of_ble_eq_true rfl) dX7_kernel_44 ⟨(Nat.le_of_ble_eq_true rfl), (Nat.le_of_ble_eq_true rfl)⟩ (fun i15 h => ?_)
        refine lv_iand hx hb dX7_kernel_47 ?_
        refine lv_topi (fun i16 ei16 => ?_)
        have h := h i16 ei16
        refine lv_istore_n (lv' := [(2, .int i16), (3, .int i3), (0, .ref a0), (1, .int v1)]) hx hb dX7_kernel_48 rfl hl (by decide) rfl (fun ls hl => ?_)
        obtain ⟨i17, ei17⟩ : ∃ y : Int32, y = i3 + (nI 1) := ⟨_, rfl⟩
        have h := h i17 ei17
        refine lv_iinc (v := i17) (lv' := [(3, .int i17), (2, .int i16), (0, .ref a0), (1, .int v1)]) hx hb dX7_kernel_49 hl (k := 1) rfl (by rw [ei17]; rfl) (by decide) rfl (fun ls hl => ?_)
        refine lv_goto (tgt := 18) hx hb dX7_kernel_52 (by decide) ?_
        exact ih18 (i17, i16) _ h (lv_sub hl [0, 1, 2, 3] rfl)
  · have h := h.1 c2
    refine lv_bipush (v := (-2 : Int32)) hx hb dX7_kernel_9 (by decide) ?_
    exact W.iret hx hb hr (fun t ht hW => ⟨(-2 : Int32), rfl, h, ht⟩) no_locs dX7_kernel_11
theorem hdS_X7_gatherWays : yX7_gatherWays.cls ≠ "java/lang/invoke/MethodHandle" ∧ yX7_gatherWays.cls ≠ "java/lang/invoke/VarHandle" ∧ (parseMethodDescriptor yX7_gatherWays.desc).map (fun d => d.parameters.length) = some 1 := by decide +kernel
set_option maxHeartbeats 4000000 in
set_option maxRecDepth 100000 in
theorem c_X7_gatherWays (l : Launch) (D : va_G) (Y : Nat → ClassId) (L : List Nat) (S : PS) (sz : Nat) (a0 : Nat) (v1 : Int32) (Post : PS → Prop) (h : wp_X7_gatherWays S a0 v1 Post) : Met l yX7_gatherWays wsX7_gatherWays ({ frames := 5, cells := 0, slots := 0, locals := 117 }) (va_Pc [.ref a0, .int v1] (PrO D Y L S sz)) (va_Qv Post (QtO D Y (fR L sz)) (fR L sz)) 0 0 (fR L sz) := by
  refine Met.ofW (cc := cX7_gatherWays) (maxL := 3) (ret := none) (by decide) rfl ?_
  intro p e s m args below meth c s₁ B hml hv
  obtain ⟨rfl, hsz, hJ, hP, hK, hD0, hZ⟩ := hv
  have hx := B.exec
  have hb := B.bytes
  have hr := B.returns
  have hts := atoms_spec (ws := wsX7_gatherWays) B.pre
  have hown : s.vm.findClass RX7 = some m.cls := findClass_of_methodNamed B.named
  have hlocks := B.notSynchronized
  have CF : CallFix p m c cX7_gatherWays 3 s ([.ref a0, .int v1] : List Value).toArray wsX7_gatherWays RX7 := ⟨hx, hb, hml, hown, hts⟩
  have C : CX p m c cX7_gatherWays 3 s ([.ref a0, .int v1] : List Value).toArray wsX7_gatherWays RX7 D Y := ⟨CF, hK, hZ⟩
  have hO : HO D Y (fR L sz) s.heap S s.heap [] := HO.entry hsz hJ hP hD0
  subst hsz
  have inX5 : ∀ w ∈ wsX50, w ∈ wsX7_gatherWays := fun w h => List.mem_cons_of_mem _ (List.mem_append_left _ (List.mem_append_left _ (List.mem_append_right _ h)))
  have inX7 : ∀ w ∈ wsX70, w ∈ wsX7_gatherWays := fun w h => List.mem_cons_of_mem _ (List.mem_append_left _ (List.mem_append_left _ (List.mem_append_left _ (List.mem_append_right _ h))))
  have hl := lv_entry ([.ref a0, .int v1]) (n := 3) (Nat.le_of_ble_eq_true rfl)
  rw [lg_entry_eq]
  generalize (lg_sl ([.ref a0, .int v1]) ++ List.replicate (3 - (lg_sl ([.ref a0, .int v1])).length) Slot.unset).toArray = ls at hl ⊢
  have hl : lv_has ls 3 [(0, .ref a0), (1, .int v1)] := hl
  unfold wp_X7_gatherWays at h
  refine lv_aload_n hx hb dX7_gatherWays_0 rfl (lv_at hl 0 rfl) ?_
  obtain ⟨fs1, a2, e3, e3', h⟩ := h
  refine r_get C hO 5 4 rfl inX7 (Nat.le_of_ble_eq_true rfl) e3 e3' (List.mem_of_getElem? (i := 1) (by decide +kernel)) dX7_gatherWays_1 ?_
  refine lv_iconst (v := (nI 0)) hx hb dX7_gatherWays_4 (by decide) ?_
  obtain ⟨fs4, e5, e5', h⟩ := h
  refine r_put C hO 4 1 rfl inX5 tyX5_ok nmX5 (Nat.le_of_ble_eq_true rfl) rfl rfl rfl e5 e5' (List.mem_of_getElem? (i := 2) (by decide +kernel)) dX7_gatherWays_5 (fun H locs hO => ?_)
  obtain ⟨S6, eS6⟩ : ∃ Sx, Sx = va_up S a2 (.inl (4, fs4.set 1 (.int (nI 0)))) := ⟨_, rfl⟩
  rw [← eS6] at hO
  have h := h S6 eS6
  refine lv_iconst (v := (nI 0)) hx hb dX7_gatherWays_8 (by decide) ?_
  refine lv_istore_n (lv' := [(2, .int (nI 0)), (0, .ref a0), (1, .int v1)]) hx hb dX7_gatherWays_9 rfl hl (by decide) rfl (fun ls hl => ?_)
  obtain ⟨n26, h⟩ := h
  refine lp_W (nL := 3) (fun q => [(2, .int q.1), (0, .ref a0), (1, .int v1)]) (fun q => q.2) h (lv_sub hl [0, 1, 2] rfl) hO (fun K10 ih10 q ls H locs h hl hO => ?_)
  obtain ⟨i7, S8⟩ := q
  have h : wpb_X7_gatherWays_10 a0 v1 Post K10 i7 S8 := h
  have hl : lv_has ls 3 [(2, .int i7), (0, .ref a0), (1, .int v1)] := hl
  have hO : HO D Y (fR L s.heap.size) s.heap S8 H locs := hO
  unfold wpb_X7_gatherWays_10 at h
  refine lv_iload_n hx hb dX7_gatherWays_10 rfl (lv_at hl 0 rfl) ?_
  refine lv_bipush (v := (nI 6)) hx hb dX7_gatherWays_11 (by decide) ?_
  refine lv_icmp_ge (tgt := 45) hx hb dX7_gatherWays_13 (by decide) (fun c9 => ?_) (fun c9 => ?_)
  · have h := h.1 c9
    exact W.vret hx hb hr (fun t ht hW => ⟨⟨S8, rfl, h, hO.q ht⟩, hO.f ht⟩) hO.lc dX7_gatherWays_45
  · have h := h.2 c9
    refine lv_iload_n hx hb dX7_gatherWays_16 rfl (lv_at hl 2 rfl) ?_
    refine lv_iload_n hx hb dX7_gatherWays_17 rfl (lv_at hl 0 rfl) ?_
    refine cS_si (As := [.int v1, .int i7]) (rest := []) (n := 2) CF hZ (c_X7_hasBit l v1 i7 _ h) (va_cwS 2 hts gX7_gatherWays_X7_hasBit rfl rfl rfl hdS_X7_hasBit ⟨Nat.le_of_ble_eq_true rfl, Nat.le_of_ble_eq_true rfl⟩) rfl hl.1 rfl (Nat.le_of_ble_eq_true rfl) dX7_gatherWays_18 ⟨(Nat.le_of_ble_eq_true rfl), (Nat.le_of_ble_eq_true rfl)⟩ (fun i10 h => ?_)
    refine lv_if_eq (tgt := 39) hx hb dX7_gatherWays_21 (by decide) (fun c11 => ?_) (fun c11 => ?_)
    · have h := h.1 c11
      obtain ⟨i12, ei12⟩ : ∃ y : Int32, y = i7 + (nI 1) := ⟨_, rfl⟩
      have h := h i12 ei12
      refine lv_iinc (v := i12) (lv' := [(2, .int i12), (0, .ref a0), (1, .int v1)]) hx hb dX7_gatherWays_39 hl (k := 0) rfl (by rw [ei12]; rfl) (by decide) rfl (fun ls hl => ?_)
      refine lv_goto (tgt := 10) hx hb dX7_gatherWays_42 (by decide) ?_
      exact ih10 (i12, S8) _ _ _ h (lv_sub hl [0, 1, 2] rfl) hO
    · have h := h.2 c11
      refine lv_aload_n hx hb dX7_gatherWays_24 rfl (lv_at hl 1 rfl) ?_
      obtain ⟨fs13, a14, e15, e15', h⟩ := h
      refine r_get C hO 5 4 rfl inX7 (Nat.le_of_ble_eq_true rfl) e15 e15' (List.mem_of_getElem? (i := 1) (by decide +kernel)) dX7_gatherWays_25 ?_
      refine lv_aload_n hx hb dX7_gatherWays_28 rfl (lv_at hl 1 rfl) ?_
      obtain ⟨fs16, a17, e18, e18', h⟩ := h
      refine r_get C hO 5 0 rfl inX7 (Nat.le_of_ble_eq_true rfl) e18 e18' (List.mem_of_getElem? (i := 3) (by decide +kernel)) dX7_gatherWays_29 ?_
      refine lv_iload_n hx hb dX7_gatherWays_32 rfl (lv_at hl 0 rfl) ?_
      obtain ⟨fs21, e20, h⟩ := h
      refine cV_rl (As := [.int i7]) (rest := [.ref a14]) (n := 1) C hO (fun L => c_X1_wayOf l D Y L S8 H.size a17 i7 _ h) 1 rfl e20 (cwV 1 hts gX7_gatherWays_X1_wayOf rfl rfl rfl ⟨rfl, hdS_X1_wayOf⟩ ⟨Nat.le_of_ble_eq_true rfl, Nat.le_of_ble_eq_true rfl⟩) rfl hl.1 rfl (Nat.le_of_ble_eq_true rfl) dX7_gatherWays_33 ⟨(Nat.le_of_ble_eq_true rfl), (Nat.le_of_ble_eq_true rfl)⟩ (fun j19 h => ?_)
      obtain ⟨fs24, e23, h⟩ := h
      refine cV_wv (As := [.long j19]) (rest := []) (n := 1) C hO (fun L => c_X5_addMaker l D Y L S8 H.size a14 j19 _ h) 4 rfl e23 (cwV 1 hts gX7_gatherWays_X5_addMaker rfl rfl rfl ⟨rfl, hdS_X5_addMaker⟩ ⟨Nat.le_of_ble_eq_true rfl, Nat.le_of_ble_eq_true rfl⟩) rfl hl.1 rfl (Nat.le_of_ble_eq_true rfl) dX7_gatherWays_36 ⟨(Nat.le_of_ble_eq_true rfl), (Nat.le_of_ble_eq_true rfl)⟩ (fun S22 H locs h hO => ?_)
      obtain ⟨i25, ei25⟩ : ∃ y : Int32, y = i7 + (nI 1) := ⟨_, rfl⟩
      have h := h i25 ei25
      refine lv_iinc (v := i25) (lv' := [(2, .int i25), (0, .ref a0), (1, .int v1)]) hx hb dX7_gatherWays_39 hl (k := 0) rfl (by rw [ei25]; rfl) (by decide) rfl (fun ls hl => ?_)
      refine lv_goto (tgt := 10) hx hb dX7_gatherWays_42 (by decide) ?_
      exact ih10 (i25, S22) _ _ _ h (lv_sub hl [0, 1, 2] rfl) hO
theorem hdS_X7_orbit : yX7_orbit.cls ≠ "java/lang/invoke/MethodHandle" ∧ yX7_orbit.cls ≠ "java/lang/invoke/VarHandle" ∧ (parseMethodDescriptor yX7_orbit.desc).map (fun d => d.parameters.length) = some 2 := by decide +kernel
set_option maxHeartbeats 4000000 in
set_option maxRecDepth 100000 in
theorem c_X7_orbit (l : Launch) (D : va_G) (Y : Nat → ClassId) (L : List Nat) (S : PS) (sz : Nat) (a0 : Nat) (v1 : Int32) (v2 : Int32) (Post : Int32 → PS → Prop) (h : wp_X7_orbit S a0 v1 v2 Post) : Met l yX7_orbit wsX7_orbit ({ frames := 6, cells := 0, slots := 0, locals := 139 }) (va_Pc [.ref a0, .int v1, .int v2] (PrO D Y L S sz)) (va_Qi Post (QtO D Y (fR L sz)) (fR L sz)) 0 0 (fR L sz) := by
  refine Met.ofW (cc := cX7_orbit) (maxL := 3) (ret := (some .int)) (by decide) rfl ?_
  intro p e s m args below meth c s₁ B hml hv
  obtain ⟨rfl, hsz, hJ, hP, hK, hD0, hZ⟩ := hv
  have hx := B.exec
  have hb := B.bytes
  have hr := B.returns
  have hts := atoms_spec (ws := wsX7_orbit) B.pre
  have hown : s.vm.findClass RX7 = some m.cls := findClass_of_methodNamed B.named
  have hlocks := B.notSynchronized
  have CF : CallFix p m c cX7_orbit 3 s ([.ref a0, .int v1, .int v2] : List Value).toArray wsX7_orbit RX7 := ⟨hx, hb, hml, hown, hts⟩
  have C : CX p m c cX7_orbit 3 s ([.ref a0, .int v1, .int v2] : List Value).toArray wsX7_orbit RX7 D Y := ⟨CF, hK, hZ⟩
  have hO : HO D Y (fR L sz) s.heap S s.heap [] := HO.entry hsz hJ hP hD0
  subst hsz
  have inX7 : ∀ w ∈ wsX70, w ∈ wsX7_orbit := fun w h => List.mem_cons_of_mem _ (List.mem_append_left _ (List.mem_append_left _ (List.mem_append_left _ (List.mem_append_right _ h))))
  have hl := lv_entry ([.ref a0, .int v1, .int v2]) (n := 3) (Nat.le_of_ble_eq_true rfl)
  rw [lg_entry_eq]
  generalize (lg_sl ([.ref a0, .int v1, .int v2]) ++ List.replicate (3 - (lg_sl ([.ref a0, .int v1, .int v2])).length) Slot.unset).toArray = ls at hl ⊢
  have hl : lv_has ls 3 [(0, .ref a0), (1, .int v1), (2, .int v2)] := hl
  unfold wp_X7_orbit at h
  refine lv_iload_n hx hb dX7_orbit_0 rfl (lv_at hl 2 rfl) ?_
  refine lv_bipush (v := (nI 12)) hx hb dX7_orbit_1 (by decide) ?_
  refine cS_si (As := [.int v2, .int (nI 12)]) (rest := []) (n := 2) CF hZ (c_X7_isBelow l v2 (nI 12) _ h) (va_cwS 2 hts gX7_orbit_X7_isBelow rfl rfl rfl hdS_X7_isBelow ⟨Nat.le_of_ble_eq_true rfl, Nat.le_of_ble_eq_true rfl⟩) rfl hl.1 rfl (Nat.le_of_ble_eq_true rfl) dX7_orbit_3 ⟨(Nat.le_of_ble_eq_true rfl), (Nat.le_of_ble_eq_true rfl)⟩ (fun i1 h => ?_)
  refine lv_if_ne (tgt := 11) hx hb dX7_orbit_6 (by decide) (fun c2 => ?_) (fun c2 => ?_)
  · have h := h.2 c2
    refine lv_iload_n hx hb dX7_orbit_11 rfl (lv_at hl 1 rfl) ?_
    refine lv_bipush (v := (nI 64)) hx hb dX7_orbit_12 (by decide) ?_
    refine cS_si (As := [.int v1, .int (nI 64)]) (rest := []) (n := 2) CF hZ (c_X7_isBelow l v1 (nI 64) _ h) (va_cwS 2 hts gX7_orbit_X7_isBelow rfl rfl rfl hdS_X7_isBelow ⟨Nat.le_of_ble_eq_true rfl, Nat.le_of_ble_eq_true rfl⟩) rfl hl.1 rfl (Nat.le_of_ble_eq_true rfl) dX7_orbit_14 ⟨(Nat.le_of_ble_eq_true rfl), (Nat.le_of_ble_eq_true rfl)⟩ (fun i3 h => ?_)
    refine lv_if_ne (tgt := 23) hx hb dX7_orbit_17 (by decide) (fun c4 => ?_) (fun c4 => ?_)
    · have h := h.2 c4
      refine lv_aload_n hx hb dX7_orbit_23 rfl (lv_at hl 0 rfl) ?_
      refine lv_iload_n hx hb dX7_orbit_24 rfl (lv_at hl 1 rfl) ?_
      obtain ⟨fs7, e6, h⟩ := h
      refine cV_wv (As := [.int v1]) (rest := []) (n := 1) C hO (fun L => c_X7_gatherWays l D Y L S s.heap.size a0 v1 _ h) 5 rfl e6 (cwV 1 hts gX7_orbit_X7_gatherWays rfl rfl rfl ⟨rfl, hdS_X7_gatherWays⟩ ⟨Nat.le_of_ble_eq_true rfl, Nat.le_of_ble_eq_true rfl⟩) rfl hl.1 rfl (Nat.le_of_ble_eq_true rfl) dX7_orbit_25 ⟨(Nat.le_of_ble_eq_true rfl), (Nat.le_of_ble_eq_true rfl)⟩ (fun S5 H locs h hO => ?_)
      refine lv_aload_n hx hb dX7_orbit_28 rfl (lv_at hl 0 rfl) ?_
      obtain ⟨fs8, a9, e10, e10', h⟩ := h
      refine r_get C hO 5 4 rfl inX7 (Nat.le_of_ble_eq_true rfl) e10 e10' (List.mem_of_getElem? (i := 1) (by decide +kernel)) dX7_orbit_29 ?_
      refine lv_iload_n hx hb dX7_orbit_32 rfl (lv_at hl 2 rfl) ?_
      obtain ⟨fs13, e12, h⟩ := h
      refine cV_ri (As := [.int v2]) (rest := []) (n := 1) C hO (fun L => c_X5_placesFrom l D Y L S5 H.size a9 v2 _ h) 4 rfl e12 (cwV 1 hts gX7_orbit_X5_placesFrom rfl rfl rfl ⟨rfl, hdS_X5_placesFrom⟩ ⟨Nat.le_of_ble_eq_true rfl, Nat.le_of_ble_eq_true rfl⟩) rfl hl.1 rfl (Nat.le_of_ble_eq_true rfl) dX7_orbit_33 ⟨(Nat.le_of_ble_eq_true rfl), (Nat.le_of_ble_eq_true rfl)⟩ (fun i11 h => ?_)
      exact W.iret hx hb hr (fun t ht hW => ⟨⟨i11, S5, rfl, h, hO.q ht⟩, hO.f ht⟩) hO.lc dX7_orbit_36
    · have h := h.1 c4
      refine lv_bipush (v := (-2 : Int32)) hx hb dX7_orbit_20 (by decide) ?_
      exact W.iret hx hb hr (fun t ht hW => ⟨⟨(-2 : Int32), S, rfl, h, hO.q ht⟩, hO.f ht⟩) hO.lc dX7_orbit_22
  · have h := h.1 c2
    refine lv_iconst (v := (-1 : Int32)) hx hb dX7_orbit_9 (by decide) ?_
    exact W.iret hx hb hr (fun t ht hW => ⟨⟨(-1 : Int32), S, rfl, h, hO.q ht⟩, hO.f ht⟩) hO.lc dX7_orbit_10
theorem hdS_X7_asNumber : yX7_asNumber.cls ≠ "java/lang/invoke/MethodHandle" ∧ yX7_asNumber.cls ≠ "java/lang/invoke/VarHandle" ∧ (parseMethodDescriptor yX7_asNumber.desc).map (fun d => d.parameters.length) = some 1 := by decide +kernel
set_option maxHeartbeats 4000000 in
set_option maxRecDepth 100000 in
theorem c_X7_asNumber (l : Launch) (v0 : Int32) (Post : Int32 → Prop) (h : wp_X7_asNumber v0 Post) : Met l yX7_asNumber wsX7_asNumber ({ frames := 0, cells := 0, slots := 0, locals := 0 }) (va_Pc [.int v0] NZ) (vp_Si Post) 0 0 (fun _ => False) := by
  refine Met.ofW (cc := cX7_asNumber) (maxL := 1) (ret := (some .int)) (by decide) rfl ?_
  intro p e s m args below meth c s₁ B hml hv
  obtain ⟨rfl, hZ⟩ := hv
  have hx := B.exec
  have hb := B.bytes
  have hr := B.returns
  have hts := atoms_spec (ws := wsX7_asNumber) B.pre
  have hown : s.vm.findClass RX7 = some m.cls := findClass_of_methodNamed B.named
  have hlocks := B.notSynchronized
  have CF : CallFix p m c cX7_asNumber 1 s ([.int v0] : List Value).toArray wsX7_asNumber RX7 := ⟨hx, hb, hml, hown, hts⟩
  have hl := lv_entry ([.int v0]) (n := 1) (Nat.le_of_ble_eq_true rfl)
  rw [lg_entry_eq]
  generalize (lg_sl ([.int v0]) ++ List.replicate (1 - (lg_sl ([.int v0])).length) Slot.unset).toArray = ls at hl ⊢
  have hl : lv_has ls 1 [(0, .int v0)] := hl
  unfold wp_X7_asNumber at h
  refine lv_iload_n hx hb dX7_asNumber_0 rfl (lv_at hl 0 rfl) ?_
  refine lv_if_eq (tgt := 8) hx hb dX7_asNumber_1 (by decide) (fun c1 => ?_) (fun c1 => ?_)
  · have h := h.1 c1
    refine lv_iconst (v := (nI 0)) hx hb dX7_asNumber_8 (by decide) ?_
    exact W.iret hx hb hr (fun t ht hW => ⟨(nI 0), rfl, h, ht⟩) no_locs dX7_asNumber_9
  · have h := h.2 c1
    refine lv_iconst (v := (nI 1)) hx hb dX7_asNumber_4 (by decide) ?_
    refine lv_goto (tgt := 9) hx hb dX7_asNumber_5 (by decide) ?_
    exact W.iret hx hb hr (fun t ht hW => ⟨(nI 1), rfl, h, ht⟩) no_locs dX7_asNumber_9
theorem hdS_X7_pair : yX7_pair.cls ≠ "java/lang/invoke/MethodHandle" ∧ yX7_pair.cls ≠ "java/lang/invoke/VarHandle" ∧ (parseMethodDescriptor yX7_pair.desc).map (fun d => d.parameters.length) = some 3 := by decide +kernel
set_option maxHeartbeats 4000000 in
set_option maxRecDepth 100000 in
theorem c_X7_pair (l : Launch) (D : va_G) (Y : Nat → ClassId) (L : List Nat) (S : PS) (sz : Nat) (a0 : Nat) (v1 : Int32) (v2 : Int32) (v3 : Int32) (Post : Int32 → Prop) (h : wp_X7_pair S a0 v1 v2 v3 Post) : Met l yX7_pair wsX7_pair ({ frames := 5, cells := 0, slots := 0, locals := 117 }) (va_Pc [.ref a0, .int v1, .int v2, .int v3] (PrO D Y L S sz)) (vp_Si Post) 0 0 (fun _ => False) := by
  refine Met.ofW (cc := cX7_pair) (maxL := 8) (ret := (some .int)) (by decide) rfl ?_
  intro p e s m args below meth c s₁ B hml hv
  obtain ⟨rfl, hsz, hJ, hP, hK, hD0, hZ⟩ := hv
  have hx := B.exec
  have hb := B.bytes
  have hr := B.returns
  have hts := atoms_spec (ws := wsX7_pair) B.pre
  have hown : s.vm.findClass RX7 = some m.cls := findClass_of_methodNamed B.named
  have hlocks := B.notSynchronized
  have CF : CallFix p m c cX7_pair 8 s ([.ref a0, .int v1, .int v2, .int v3] : List Value).toArray wsX7_pair RX7 := ⟨hx, hb, hml, hown, hts⟩
  have C : CX p m c cX7_pair 8 s ([.ref a0, .int v1, .int v2, .int v3] : List Value).toArray wsX7_pair RX7 D Y := ⟨CF, hK, hZ⟩
  have hO : HO D Y (fR L sz) s.heap S s.heap [] := HO.entry hsz hJ hP hD0
  subst hsz
  have inX7 : ∀ w ∈ wsX70, w ∈ wsX7_pair := fun w h => List.mem_cons_of_mem _ (List.mem_append_left _ (List.mem_append_left _ (List.mem_append_right _ h)))
  have hl := lv_entry ([.ref a0, .int v1, .int v2, .int v3]) (n := 8) (Nat.le_of_ble_eq_true rfl)
  rw [lg_entry_eq]
  generalize (lg_sl ([.ref a0, .int v1, .int v2, .int v3]) ++ List.replicate (8 - (lg_sl ([.ref a0, .int v1, .int v2, .int v3])).length) Slot.unset).toArray = ls at hl ⊢
  have hl : lv_has ls 8 [(0, .ref a0), (1, .int v1), (2, .int v2), (3, .int v3)] := hl
  unfold wp_X7_pair at h
  refine lv_iload_n hx hb dX7_pair_0 rfl (lv_at hl 1 rfl) ?_
  refine lv_bipush (v := (nI 6)) hx hb dX7_pair_1 (by decide) ?_
  refine cS_si (As := [.int v1, .int (nI 6)]) (rest := []) (n := 2) CF hZ (c_X7_isBelow l v1 (nI 6) _ h) (va_cwS 2 hts gX7_pair_X7_isBelow rfl rfl rfl hdS_X7_isBelow ⟨Nat.le_of_ble_eq_true rfl, Nat.le_of_ble_eq_true rfl⟩) rfl hl.1 rfl (Nat.le_of_ble_eq_true rfl) dX7_pair_3 ⟨(Nat.le_of_ble_eq_true rfl), (Nat.le_of_ble_eq_true rfl)⟩ (fun i1 h => ?_)
  refine lv_if_eq (tgt := 18) hx hb dX7_pair_6 (by decide) (fun c2 => ?_) (fun c2 => ?_)
  · have h := h.1 c2
    refine lv_iconst (v := (-1 : Int32)) hx hb dX7_pair_18 (by decide) ?_
    exact W.iret hx hb hr (fun t ht hW => ⟨(-1 : Int32), rfl, h, ht⟩) no_locs dX7_pair_19
  · have h := h.2 c2
    refine lv_iload_n hx hb dX7_pair_9 rfl (lv_at hl 2 rfl) ?_
    refine lv_bipush (v := (nI 6)) hx hb dX7_pair_10 (by decide) ?_
    refine cS_si (As := [.int v2, .int (nI 6)]) (rest := []) (n := 2) CF hZ (c_X7_isBelow l v2 (nI 6) _ h) (va_cwS 2 hts gX7_pair_X7_isBelow rfl rfl rfl hdS_X7_isBelow ⟨Nat.le_of_ble_eq_true rfl, Nat.le_of_ble_eq_true rfl⟩) rfl hl.1 rfl (Nat.le_of_ble_eq_true rfl) dX7_pair_12 ⟨(Nat.le_of_ble_eq_true rfl), (Nat.le_of_ble_eq_true rfl)⟩ (fun i3 h => ?_)
    refine lv_if_ne (tgt := 20) hx hb dX7_pair_15 (by decide) (fun c4 => ?_) (fun c4 => ?_)
    · have h := h.2 c4
      refine lv_aload_n hx hb dX7_pair_20 rfl (lv_at hl 0 rfl) ?_
      obtain ⟨fs5, a6, e7, e7', h⟩ := h
      refine r_get C hO 5 0 rfl inX7 (Nat.le_of_ble_eq_true rfl) e7 e7' (List.mem_of_getElem? (i := 1) (by decide +kernel)) dX7_pair_21 ?_
      refine lv_iload_n hx hb dX7_pair_24 rfl (lv_at hl 1 rfl) ?_
      obtain ⟨fs10, e9, h⟩ := h
      refine cV_rl (As := [.int v1]) (rest := []) (n := 1) C hO (fun L => c_X1_wayOf l D Y L S s.heap.size a6 v1 _ h) 1 rfl e9 (cwV 1 hts gX7_pair_X1_wayOf rfl rfl rfl ⟨rfl, hdS_X1_wayOf⟩ ⟨Nat.le_of_ble_eq_true rfl, Nat.le_of_ble_eq_true rfl⟩) rfl hl.1 rfl (Nat.le_of_ble_eq_true rfl) dX7_pair_25 ⟨(Nat.le_of_ble_eq_true rfl), (Nat.le_of_ble_eq_true rfl)⟩ (fun j8 h => ?_)
      refine lv_lstore (lv' := [(4, .long j8), (0, .ref a0), (1, .int v1), (2, .int v2), (3, .int v3)]) hx hb dX7_pair_28 hl (by decide) rfl (fun ls hl => ?_)
      refine lv_aload_n hx hb dX7_pair_30 rfl (lv_at hl 1 rfl) ?_
      obtain ⟨fs11, a12, e13, e13', h⟩ := h
      refine r_get C hO 5 0 rfl inX7 (Nat.le_of_ble_eq_true rfl) e13 e13' (List.mem_of_getElem? (i := 1) (by decide +kernel)) dX7_pair_31 ?_
      refine lv_iload_n hx hb dX7_pair_34 rfl (lv_at hl 3 rfl) ?_
      obtain ⟨fs16, e15, h⟩ := h
      refine cV_rl (As := [.int v2]) (rest := []) (n := 1) C hO (fun L => c_X1_wayOf l D Y L S s.heap.size a12 v2 _ h) 1 rfl e15 (cwV 1 hts gX7_pair_X1_wayOf rfl rfl rfl ⟨rfl, hdS_X1_wayOf⟩ ⟨Nat.le_of_ble_eq_true rfl, Nat.le_of_ble_eq_true rfl⟩) rfl hl.1 rfl (Nat.le_of_ble_eq_true rfl) dX7_pair_35 ⟨(Nat.le_of_ble_eq_true rfl), (Nat.le_of_ble_eq_true rfl)⟩ (fun j14 h => ?_)
      refine lv_lstore (lv' := [(6, .long j14), (4, .long j8), (0, .ref a0), (1, .int v1), (2, .int v2), (3, .int v3)]) hx hb dX7_pair_38 hl (by decide) rfl (fun ls hl => ?_)
      refine lv_iload_n hx hb dX7_pair_40 rfl (lv_at hl 5 rfl) ?_
      rcases sw_3 v3 with c17 | c17 | c17 | c17 | c17
      · have h := h.1 c17
        refine lv_tableOut (tgt := 153) hx hb dX7_pair_41 c17 (by decide) ?_
        refine lv_bipush (v := (-2 : Int32)) hx hb dX7_pair_153 (by decide) ?_
        exact W.iret hx hb hr (fun t ht hW => ⟨(-2 : Int32), rfl, h, ht⟩) no_locs dX7_pair_155
      · have h := h.2.1 c17
        refine lv_tableIn (tgt := 72) (off := 31) hx hb dX7_pair_41 (by rw [c17]; decide) (by rw [c17]; decide) (by rw [c17]; rfl) (by decide) ?_
        refine lv_lload hx hb dX7_pair_72 (lv_at hl 1 rfl) ?_
        refine lv_lload hx hb dX7_pair_74 (lv_at hl 0 rfl) ?_
        refine W.lcmp hx hb dX7_pair_76 ?_
        refine lv_if_ne (tgt := 84) hx hb dX7_pair_77 (by decide) (fun c18 => ?_) (fun c18 => ?_)
        · have h := h.2 c18
          refine lv_iconst (v := (nI 0)) hx hb dX7_pair_84 (by decide) ?_
          refine cS_si (As := [.int (nI 0)]) (rest := []) (n := 1) CF hZ (c_X7_asNumber l (nI 0) _ h) (va_cwS 1 hts gX7_pair_X7_asNumber rfl rfl rfl hdS_X7_asNumber ⟨Nat.le_of_ble_eq_true rfl, Nat.le_of_ble_eq_true rfl⟩) rfl hl.1 rfl (Nat.le_of_ble_eq_true rfl) dX7_pair_85 ⟨(Nat.le_of_ble_eq_true rfl), (Nat.le_of_ble_eq_true rfl)⟩ (fun i19 h => ?_)
          exact W.iret hx hb hr (fun t ht hW => ⟨i19, rfl, h, ht⟩) no_locs dX7_pair_88
        · have h := h.1 c18
          refine lv_iconst (v := (nI 1)) hx hb dX7_pair_80 (by decide) ?_
          refine lv_goto (tgt := 85) hx hb dX7_pair_81 (by decide) ?_
          refine cS_si (As := [.int (nI 1)]) (rest := []) (n := 1) CF hZ (c_X7_asNumber l (nI 1) _ h) (va_cwS 1 hts gX7_pair_X7_asNumber rfl rfl rfl hdS_X7_asNumber ⟨Nat.le_of_ble_eq_true rfl, Nat.le_of_ble_eq_true rfl⟩) rfl hl.1 rfl (Nat.le_of_ble_eq_true rfl) dX7_pair_85 ⟨(Nat.le_of_ble_eq_true rfl), (Nat.le_of_ble_eq_true rfl)⟩ (fun i20 h => ?_)
          exact W.iret hx hb hr (fun t ht hW => ⟨i20, rfl, h, ht⟩) no_locs dX7_pair_88
      · have h := h.2.2.1 c17
        refine lv_tableIn (tgt := 89) (off := 48) hx hb dX7_pair_41 (by rw [c17]; decide) (by rw [c17]; decide) (by rw [c17]; rfl) (by decide) ?_
        refine lv_lload hx hb dX7_pair_89 (lv_at hl 1 rfl) ?_
        refine lv_lload hx hb dX7_pair_91 (lv_at hl 0 rfl) ?_
        refine cS_sl (As := [.long j8, .long j14]) (rest := []) (n := 2) CF hZ (c_X6_then l j8 j14 _ h) (va_cwS 2 hts gX7_pair_X6_then rfl rfl rfl hdS_X6_then ⟨Nat.le_of_ble_eq_true rfl, Nat.le_of_ble_eq_true rfl⟩) rfl hl.1 rfl (Nat.le_of_ble_eq_true rfl) dX7_pair_93 ⟨(Nat.le_of_ble_eq_true rfl), (Nat.le_of_ble_eq_true rfl)⟩ (fun j21 h => ?_)
        refine lv_lload hx hb dX7_pair_96 (lv_at hl 0 rfl) ?_
        refine lv_lload hx hb dX7_pair_98 (lv_at hl 1 rfl) ?_
        refine cS_sl (As := [.long j14, .long j8]) (rest := [.long j21]) (n := 2) CF hZ (c_X6_then l j14 j8 _ h) (va_cwS 2 hts gX7_pair_X6_then rfl rfl rfl hdS_X6_then ⟨Nat.le_of_ble_eq_true rfl, Nat.le_of_ble_eq_true rfl⟩) rfl hl.1 rfl (Nat.le_of_ble_eq_true rfl) dX7_pair_100 ⟨(Nat.le_of_ble_eq_true rfl), (Nat.le_of_ble_eq_true rfl)⟩ (fun j22 h => ?_)
        refine W.lcmp hx hb dX7_pair_103 ?_
        refine lv_if_ne (tgt := 111) hx hb dX7_pair_104 (by decide) (fun c23 => ?_) (fun c23 => ?_)
        · have h := h.2 c23
          refine lv_iconst (v := (nI 0)) hx hb dX7_pair_111 (by decide) ?_
          refine cS_si (As := [.int (nI 0)]) (rest := []) (n := 1) CF hZ (c_X7_asNumber l (nI 0) _ h) (va_cwS 1 hts gX7_pair_X7_asNumber rfl rfl rfl hdS_X7_asNumber ⟨Nat.le_of_ble_eq_true rfl, Nat.le_of_ble_eq_true rfl⟩) rfl hl.1 rfl (Nat.le_of_ble_eq_true rfl) dX7_pair_112 ⟨(Nat.le_of_ble_eq_true rfl), (Nat.le_of_ble_eq_true rfl)⟩ (fun i24 h => ?_)
          exact W.iret hx hb hr (fun t ht hW => ⟨i24, rfl, h, ht⟩) no_locs dX7_pair_115
        · have h := h.1 c23
          refine lv_iconst (v := (nI 1)) hx hb dX7_pair_107 (by decide) ?_
          refine lv_goto (tgt := 112) hx hb dX7_pair_108 (by decide) ?_
          refine cS_si (As := [.int (nI 1)]) (rest := []) (n := 1) CF hZ (c_X7_asNumber l (nI 1) _ h) (va_cwS 1 hts gX7_pair_X7_asNumber rfl rfl rfl hdS_X7_asNumber ⟨Nat.le_of_ble_eq_true rfl, Nat.le_of_ble_eq_true rfl⟩) rfl hl.1 rfl (Nat.le_of_ble_eq_true rfl) dX7_pair_112 ⟨(Nat.le_of_ble_eq_true rfl), (Nat.le_of_ble_eq_true rfl)⟩ (fun i25 h => ?_)
          exact W.iret hx hb hr (fun t ht hW => ⟨i25, rfl, h, ht⟩) no_locs dX7_pair_115
      · have h := h.2.2.2.1 c17
        refine lv_tableIn (tgt := 116) (off := 75) hx hb dX7_pair_41 (by rw [c17]; decide) (by rw [c17]; decide) (by rw [c17]; rfl) (by decide) ?_
        refine lv_lload hx hb dX7_pair_116 (lv_at hl 1 rfl) ?_
        refine lv_lload hx hb dX7_pair_118 (lv_at hl 0 rfl) ?_
        refine cS_sl (As := [.long j8, .long j14]) (rest := []) (n := 2) CF hZ (c_X6_then l j8 j14 _ h) (va_cwS 2 hts gX7_pair_X6_then rfl rfl rfl hdS_X6_then ⟨Nat.le_of_ble_eq_true rfl, Nat.le_of_ble_eq_true rfl⟩) rfl hl.1 rfl (Nat.le_of_ble_eq_true rfl) dX7_pair_120 ⟨(Nat.le_of_ble_eq_true rfl), (Nat.le_of_ble_eq_true rfl)⟩ (fun j26 h => ?_)
        refine lv_ldc2 hx hb hown (hts _ (List.mem_of_getElem? (i := 2) (by decide +kernel : wsX7_pair[2]? = some (Cond.constantLong RX7 143 (205163983024656))))) dX7_pair_123 ?_
        refine W.lcmp hx hb dX7_pair_126 ?_
        refine lv_if_ne (tgt := 134) hx hb dX7_pair_127 (by decide) (fun c27 => ?_) (fun c27 => ?_)
        · have h := h.2 c27
          refine lv_iconst (v := (nI 0)) hx hb dX7_pair_134 (by decide) ?_
          refine cS_si (As := [.int (nI 0)]) (rest := []) (n := 1) CF hZ (c_X7_asNumber l (nI 0) _ h) (va_cwS 1 hts gX7_pair_X7_asNumber rfl rfl rfl hdS_X7_asNumber ⟨Nat.le_of_ble_eq_true rfl, Nat.le_of_ble_eq_true rfl⟩) rfl hl.1 rfl (Nat.le_of_ble_eq_true rfl) dX7_pair_135 ⟨(Nat.le_of_ble_eq_true rfl), (Nat.le_of_ble_eq_true rfl)⟩ (fun i28 h => ?_)
          exact W.iret hx hb hr (fun t ht hW => ⟨i28, rfl, h, ht⟩) no_locs dX7_pair_138
        · have h := h.1 c27
          refine lv_iconst (v := (nI 1)) hx hb dX7_pair_130 (by decide) ?_
          refine lv_goto (tgt := 135) hx hb dX7_pair_131 (by decide) ?_
          refine cS_si (As := [.int (nI 1)]) (rest := []) (n := 1) CF hZ (c_X7_asNumber l (nI 1) _ h) (va_cwS 1 hts gX7_pair_X7_asNumber rfl rfl rfl hdS_X7_asNumber ⟨Nat.le_of_ble_eq_true rfl, Nat.le_of_ble_eq_true rfl⟩) rfl hl.1 rfl (Nat.le_of_ble_eq_true rfl) dX7_pair_135 ⟨(Nat.le_of_ble_eq_true rfl), (Nat.le_of_ble_eq_true rfl)⟩ (fun i29 h => ?_)
          exact W.iret hx hb hr (fun t ht hW => ⟨i29, rfl, h, ht⟩) no_locs dX7_pair_138
      · have h := h.2.2.2.2 c17
        refine lv_tableIn (tgt := 139) (off := 98) hx hb dX7_pair_41 (by rw [c17]; decide) (by rw [c17]; decide) (by rw [c17]; rfl) (by decide) ?_
        refine lv_sipush (v := (nI 4095)) hx hb dX7_pair_139 (by decide) ?_
        refine lv_lload hx hb dX7_pair_142 (lv_at hl 1 rfl) ?_
        refine lv_lload hx hb dX7_pair_144 (lv_at hl 0 rfl) ?_
        refine cS_si (As := [.long j8, .long j14]) (rest := [.int (nI 4095)]) (n := 2) CF hZ (c_X6_alikePlaces l j8 j14 _ h) (va_cwS 2 hts gX7_pair_X6_alikePlaces rfl rfl rfl hdS_X6_alikePlaces ⟨Nat.le_of_ble_eq_true rfl, Nat.le_of_ble_eq_true rfl⟩) rfl hl.1 rfl (Nat.le_of_ble_eq_true rfl) dX7_pair_146 ⟨(Nat.le_of_ble_eq_true rfl), (Nat.le_of_ble_eq_true rfl)⟩ (fun i30 h => ?_)
        refine lv_iconst (v := (-1 : Int32)) hx hb dX7_pair_149 (by decide) ?_
        refine lv_ixor hx hb dX7_pair_150 ?_
        refine lv_iand hx hb dX7_pair_151 ?_
        exact W.iret hx hb hr (fun t ht hW => ⟨((nI 4095) &&& (i30 ^^^ (-1 : Int32))), rfl, h, ht⟩) no_locs dX7_pair_152
    · have h := h.1 c4
      refine lv_iconst (v := (-1 : Int32)) hx hb dX7_pair_18 (by decide) ?_
      exact W.iret hx hb hr (fun t ht hW => ⟨(-1 : Int32), rfl, h, ht⟩) no_locs dX7_pair_19
theorem hdS_X7_untilHome : yX7_untilHome.cls ≠ "java/lang/invoke/MethodHandle" ∧ yX7_untilHome.cls ≠ "java/lang/invoke/VarHandle" ∧ (parseMethodDescriptor yX7_untilHome.desc).map (fun d => d.parameters.length) = some 1 := by decide +kernel
set_option maxHeartbeats 4000000 in
set_option maxRecDepth 100000 in
theorem c_X7_untilHome (l : Launch) (D : va_G) (Y : Nat → ClassId) (L : List Nat) (S : PS) (sz : Nat) (a0 : Nat) (v1 : Int32) (Post : Int32 → Prop) (h : wp_X7_untilHome S a0 v1 Post) : Met l yX7_untilHome wsX7_untilHome ({ frames := 5, cells := 0, slots := 0, locals := 117 }) (va_Pc [.ref a0, .int v1] (PrO D Y L S sz)) (vp_Si Post) 0 0 (fun _ => False) := by
  refine Met.ofW (cc := cX7_untilHome) (maxL := 7) (ret := (some .int)) (by decide) rfl ?_
  intro p e s m args below meth c s₁ B hml hv
  obtain ⟨rfl, hsz, hJ, hP, hK, hD0, hZ⟩ := hv
  have hx := B.exec
  have hb := B.bytes
  have hr := B.returns
  have hts := atoms_spec (ws := wsX7_untilHome) B.pre
  have hown : s.vm.findClass RX7 = some m.cls := findClass_of_methodNamed B.named
  have hlocks := B.notSynchronized
  have CF : CallFix p m c cX7_untilHome 7 s ([.ref a0, .int v1] : List Value).toArray wsX7_untilHome RX7 := ⟨hx, hb, hml, hown, hts⟩
  have C : CX p m c cX7_untilHome 7 s ([.ref a0, .int v1] : List Value).toArray wsX7_untilHome RX7 D Y := ⟨CF, hK, hZ⟩
  have hO : HO D Y (fR L sz) s.heap S s.heap [] := HO.entry hsz hJ hP hD0
  subst hsz
  have inX1 : ∀ w ∈ wsX10, w ∈ wsX7_untilHome := fun w h => List.mem_cons_of_mem _ (List.mem_append_left _ (List.mem_append_right _ h))
  have inX7 : ∀ w ∈ wsX70, w ∈ wsX7_untilHome := fun w h => List.mem_cons_of_mem _ (List.mem_append_left _ (List.mem_append_left _ (List.mem_append_right _ h)))
  have hl := lv_entry ([.ref a0, .int v1]) (n := 7) (Nat.le_of_ble_eq_true rfl)
  rw [lg_entry_eq]
  generalize (lg_sl ([.ref a0, .int v1]) ++ List.replicate (7 - (lg_sl ([.ref a0, .int v1])).length) Slot.unset).toArray = ls at hl ⊢
  have hl : lv_has ls 7 [(0, .ref a0), (1, .int v1)] := hl
  unfold wp_X7_untilHome at h
  refine lv_iload_n hx hb dX7_untilHome_0 rfl (lv_at hl 1 rfl) ?_
  refine lv_bipush (v := (nI 6)) hx hb dX7_untilHome_1 (by decide) ?_
  refine cS_si (As := [.int v1, .int (nI 6)]) (rest := []) (n := 2) CF hZ (c_X7_isBelow l v1 (nI 6) _ h) (va_cwS 2 hts gX7_untilHome_X7_isBelow rfl rfl rfl hdS_X7_isBelow ⟨Nat.le_of_ble_eq_true rfl, Nat.le_of_ble_eq_true rfl⟩) rfl hl.1 rfl (Nat.le_of_ble_eq_true rfl) dX7_untilHome_3 ⟨(Nat.le_of_ble_eq_true rfl), (Nat.le_of_ble_eq_true rfl)⟩ (fun i1 h => ?_)
  refine lv_if_ne (tgt := 11) hx hb dX7_untilHome_6 (by decide) (fun c2 => ?_) (fun c2 => ?_)
  · have h := h.2 c2
    refine lv_aload_n hx hb dX7_untilHome_11 rfl (lv_at hl 0 rfl) ?_
    obtain ⟨fs3, a4, e5, e5', h⟩ := h
    refine r_get C hO 5 0 rfl inX7 (Nat.le_of_ble_eq_true rfl) e5 e5' (List.mem_of_getElem? (i := 1) (by decide +kernel)) dX7_untilHome_12 ?_
    refine lv_iload_n hx hb dX7_untilHome_15 rfl (lv_at hl 1 rfl) ?_
    obtain ⟨fs8, e7, h⟩ := h
    refine cV_rl (As := [.int v1]) (rest := []) (n := 1) C hO (fun L => c_X1_wayOf l D Y L S s.heap.size a4 v1 _ h) 1 rfl e7 (cwV 1 hts gX7_untilHome_X1_wayOf rfl rfl rfl ⟨rfl, hdS_X1_wayOf⟩ ⟨Nat.le_of_ble_eq_true rfl, Nat.le_of_ble_eq_true rfl⟩) rfl hl.1 rfl (Nat.le_of_ble_eq_true rfl) dX7_untilHome_16 ⟨(Nat.le_of_ble_eq_true rfl), (Nat.le_of_ble_eq_true rfl)⟩ (fun j6 h => ?_)
    refine lv_lstore_n (lv' := [(2, .long j6), (0, .ref a0), (1, .int v1)]) hx hb dX7_untilHome_19 rfl hl (by decide) rfl (fun ls hl => ?_)
    refine lv_aload_n hx hb dX7_untilHome_20 rfl (lv_at hl 1 rfl) ?_
    obtain ⟨fs9, a10, e11, e11', h⟩ := h
    refine r_get C hO 5 0 rfl inX7 (Nat.le_of_ble_eq_true rfl) e11 e11' (List.mem_of_getElem? (i := 1) (by decide +kernel)) dX7_untilHome_21 ?_
    obtain ⟨fs12, j13, e14, e14', h⟩ := h
    refine r_get C hO 1 1 rfl inX1 (Nat.le_of_ble_eq_true rfl) e14 e14' (List.mem_of_getElem? (i := 2) (by decide +kernel)) dX7_untilHome_24 ?_
    refine lv_lstore (lv' := [(4, .long j13), (2, .long j6), (0, .ref a0), (1, .int v1)]) hx hb dX7_untilHome_27 hl (by decide) rfl (fun ls hl => ?_)
    refine lv_iconst (v := (nI 0)) hx hb dX7_untilHome_29 (by decide) ?_
    refine lv_istore (lv' := [(6, .int (nI 0)), (4, .long j13), (2, .long j6), (0, .ref a0), (1, .int v1)]) hx hb dX7_untilHome_30 hl (by decide) rfl (fun ls hl => ?_)
    obtain ⟨n21, h⟩ := h
    refine lp_P (nL := 7) (fun q => [(6, .int q.1), (4, .long q.2), (2, .long j6)]) h (lv_sub hl [0, 1, 2] rfl) (fun K32 ih32 q ls h hl => ?_)
    obtain ⟨i15, j16⟩ := q
    have h : wpb_X7_untilHome_32 j6 Post K32 i15 j16 := h
    have hl : lv_has ls 7 [(6, .int i15), (4, .long j16), (2, .long j6)] := hl
    unfold wpb_X7_untilHome_32 at h
    refine lv_iload hx hb dX7_untilHome_32 (lv_at hl 0 rfl) ?_
    refine lv_bipush (v := (nI 60)) hx hb dX7_untilHome_34 (by decide) ?_
    refine lv_icmp_ge (tgt := 65) hx hb dX7_untilHome_36 (by decide) (fun c17 => ?_) (fun c17 => ?_)
    · have h := h.1 c17
      refine lv_bipush (v := (-6 : Int32)) hx hb dX7_untilHome_65 (by decide) ?_
      exact W.iret hx hb hr (fun t ht hW => ⟨(-6 : Int32), rfl, h, ht⟩) no_locs dX7_untilHome_67
    · have h := h.2 c17
      refine lv_lload hx hb dX7_untilHome_39 (lv_at hl 1 rfl) ?_
      refine lv_ldc2 hx hb hown (hts _ (List.mem_of_getElem? (i := 3) (by decide +kernel : wsX7_untilHome[3]? = some (Cond.constantLong RX7 143 (205163983024656))))) dX7_untilHome_41 ?_
      refine W.lcmp hx hb dX7_untilHome_44 ?_
      refine lv_if_ne (tgt := 51) hx hb dX7_untilHome_45 (by decide) (fun c18 => ?_) (fun c18 => ?_)
      · have h := h.2 c18
        refine lv_lload hx hb dX7_untilHome_51 (lv_at hl 1 rfl) ?_
        refine lv_lload_n hx hb dX7_untilHome_53 rfl (lv_at hl 2 rfl) ?_
        refine cS_sl (As := [.long j16, .long j6]) (rest := []) (n := 2) CF hZ (c_X4_moved l j16 j6 _ h) (va_cwS 2 hts gX7_untilHome_X4_moved rfl rfl rfl hdS_X4_moved ⟨Nat.le_of_ble_eq_true rfl, Nat.le_of_ble_eq_true rfl⟩) rfl hl.1 rfl (Nat.le_of_ble_eq_true rfl) dX7_untilHome_54 ⟨(Nat.le_of_ble_eq_true rfl), (Nat.le_of_ble_eq_true rfl)⟩ (fun j19 h => ?_)
        refine lv_lstore (lv' := [(4, .long j19), (6, .int i15), (2, .long j6)]) hx hb dX7_untilHome_57 hl (by decide) rfl (fun ls hl => ?_)
        obtain ⟨i20, ei20⟩ : ∃ y : Int32, y = i15 + (nI 1) := ⟨_, rfl⟩
        have h := h i20 ei20
        refine lv_iinc (v := i20) (lv' := [(6, .int i20), (4, .long j19), (2, .long j6)]) hx hb dX7_untilHome_59 hl (k := 1) rfl (by rw [ei20]; rfl) (by decide) rfl (fun ls hl => ?_)
        refine lv_goto (tgt := 32) hx hb dX7_untilHome_62 (by decide) ?_
        exact ih32 (i20, j19) _ h (lv_sub hl [0, 1, 2] rfl)
      · have h := h.1 c18
        refine lv_iload hx hb dX7_untilHome_48 (lv_at hl 0 rfl) ?_
        exact W.iret hx hb hr (fun t ht hW => ⟨i15, rfl, h, ht⟩) no_locs dX7_untilHome_50
  · have h := h.1 c2
    refine lv_iconst (v := (-1 : Int32)) hx hb dX7_untilHome_9 (by decide) ?_
    exact W.iret hx hb hr (fun t ht hW => ⟨(-1 : Int32), rfl, h, ht⟩) no_locs dX7_untilHome_10
theorem hdS_X7_bestDraft : yX7_bestDraft.cls ≠ "java/lang/invoke/MethodHandle" ∧ yX7_bestDraft.cls ≠ "java/lang/invoke/VarHandle" ∧ (parseMethodDescriptor yX7_bestDraft.desc).map (fun d => d.parameters.length) = some 1 := by decide +kernel
set_option maxHeartbeats 4000000 in
set_option maxRecDepth 100000 in
theorem c_X7_bestDraft (l : Launch) (D : va_G) (Y : Nat → ClassId) (L : List Nat) (S : PS) (sz : Nat) (a0 : Nat) (v1 : Int32) (Post : Int32 → Prop) (h : wp_X7_bestDraft S a0 v1 Post) : Met l yX7_bestDraft wsX7_bestDraft ({ frames := 5, cells := 0, slots := 0, locals := 117 }) (va_Pc [.ref a0, .int v1] (PrO D Y L S sz)) (vp_Si Post) 0 0 (fun _ => False) := by
  refine Met.ofW (cc := cX7_bestDraft) (maxL := 6) (ret := (some .int)) (by decide) rfl ?_
  intro p e s m args below meth c s₁ B hml hv
  obtain ⟨rfl, hsz, hJ, hP, hK, hD0, hZ⟩ := hv
  have hx := B.exec
  have hb := B.bytes
  have hr := B.returns
  have hts := atoms_spec (ws := wsX7_bestDraft) B.pre
  have hown : s.vm.findClass RX7 = some m.cls := findClass_of_methodNamed B.named
  have hlocks := B.notSynchronized
  have CF : CallFix p m c cX7_bestDraft 6 s ([.ref a0, .int v1] : List Value).toArray wsX7_bestDraft RX7 := ⟨hx, hb, hml, hown, hts⟩
  have C : CX p m c cX7_bestDraft 6 s ([.ref a0, .int v1] : List Value).toArray wsX7_bestDraft RX7 D Y := ⟨CF, hK, hZ⟩
  have hO : HO D Y (fR L sz) s.heap S s.heap [] := HO.entry hsz hJ hP hD0
  subst hsz
  have inX1 : ∀ w ∈ wsX10, w ∈ wsX7_bestDraft := fun w h => List.mem_cons_of_mem _ (List.mem_append_left _ (List.mem_append_right _ h))
  have inX7 : ∀ w ∈ wsX70, w ∈ wsX7_bestDraft := fun w h => List.mem_cons_of_mem _ (List.mem_append_left _ (List.mem_append_left _ (List.mem_append_right _ h)))
  have hl := lv_entry ([.ref a0, .int v1]) (n := 6) (Nat.le_of_ble_eq_true rfl)
  rw [lg_entry_eq]
  generalize (lg_sl ([.ref a0, .int v1]) ++ List.replicate (6 - (lg_sl ([.ref a0, .int v1])).length) Slot.unset).toArray = ls at hl ⊢
  have hl : lv_has ls 6 [(0, .ref a0), (1, .int v1)] := hl
  unfold wp_X7_bestDraft at h
  refine lv_iload_n hx hb dX7_bestDraft_0 rfl (lv_at hl 1 rfl) ?_
  refine cut_P (nL := 6) (fun (q : Unit) => wpk_X7_bestDraft_12 S a0 v1 Post ) (fun q => [(0, .ref a0), (1, .int v1)]) 12 ?_ (fun kc12 => ?_)
  · intro q ls h hl
    have h : wpk_X7_bestDraft_12 S a0 v1 Post  := h
    have hl : lv_has ls 6 [(0, .ref a0), (1, .int v1)] := hl
    unfold wpk_X7_bestDraft_12 at h
    refine lv_iconst (v := (nI 0)) hx hb dX7_bestDraft_12 (by decide) ?_
    refine lv_istore_n (lv' := [(2, .int (nI 0)), (0, .ref a0), (1, .int v1)]) hx hb dX7_bestDraft_13 rfl hl (by decide) rfl (fun ls hl => ?_)
    refine lv_iconst (v := (-1 : Int32)) hx hb dX7_bestDraft_14 (by decide) ?_
    refine lv_istore_n (lv' := [(3, .int (-1 : Int32)), (2, .int (nI 0)), (0, .ref a0), (1, .int v1)]) hx hb dX7_bestDraft_15 rfl hl (by decide) rfl (fun ls hl => ?_)
    refine lv_iconst (v := (nI 0)) hx hb dX7_bestDraft_16 (by decide) ?_
    refine lv_istore (lv' := [(4, .int (nI 0)), (3, .int (-1 : Int32)), (2, .int (nI 0)), (0, .ref a0), (1, .int v1)]) hx hb dX7_bestDraft_17 hl (by decide) rfl (fun ls hl => ?_)
    obtain ⟨n23, h⟩ := h
    refine lp_P (nL := 6) (fun q => [(4, .int q.1), (3, .int q.2.1), (2, .int q.2.2), (0, .ref a0), (1, .int v1)]) h (lv_sub hl [0, 1, 2, 3, 4] rfl) (fun K19 ih19 q ls h hl => ?_)
    obtain ⟨i1, i2, i3⟩ := q
    have h : wpb_X7_bestDraft_19 S a0 v1 Post K19 i1 i2 i3 := h
    have hl : lv_has ls 6 [(4, .int i1), (3, .int i2), (2, .int i3), (0, .ref a0), (1, .int v1)] := hl
    unfold wpb_X7_bestDraft_19 at h
    refine lv_iload hx hb dX7_bestDraft_19 (lv_at hl 0 rfl) ?_
    refine lv_bipush (v := (nI 6)) hx hb dX7_bestDraft_21 (by decide) ?_
    refine lv_icmp_ge (tgt := 68) hx hb dX7_bestDraft_23 (by decide) (fun c4 => ?_) (fun c4 => ?_)
    · have h := h.1 c4
      refine lv_iload_n hx hb dX7_bestDraft_68 rfl (lv_at hl 4 rfl) ?_
      refine lv_if_ne (tgt := 76) hx hb dX7_bestDraft_69 (by decide) (fun c5 => ?_) (fun c5 => ?_)
      · have h := h.2 c5
        refine lv_iload_n hx hb dX7_bestDraft_76 rfl (lv_at hl 1 rfl) ?_
        exact W.iret hx hb hr (fun t ht hW => ⟨i2, rfl, h, ht⟩) no_locs dX7_bestDraft_77
      · have h := h.1 c5
        refine lv_iload_n hx hb dX7_bestDraft_72 rfl (lv_at hl 2 rfl) ?_
        refine lv_goto (tgt := 77) hx hb dX7_bestDraft_73 (by decide) ?_
        exact W.iret hx hb hr (fun t ht hW => ⟨i3, rfl, h, ht⟩) no_locs dX7_bestDraft_77
    · have h := h.2 c4
      refine lv_aload_n hx hb dX7_bestDraft_26 rfl (lv_at hl 3 rfl) ?_
      obtain ⟨fs6, a7, e8, e8', h⟩ := h
      refine r_get C hO 5 0 rfl inX7 (Nat.le_of_ble_eq_true rfl) e8 e8' (List.mem_of_getElem? (i := 1) (by decide +kernel)) dX7_bestDraft_27 ?_
      obtain ⟨fs9, j10, e11, e11', h⟩ := h
      refine r_get C hO 1 1 rfl inX1 (Nat.le_of_ble_eq_true rfl) e11 e11' (List.mem_of_getElem? (i := 2) (by decide +kernel)) dX7_bestDraft_30 ?_
      refine lv_aload_n hx hb dX7_bestDraft_33 rfl (lv_at hl 3 rfl) ?_
      obtain ⟨fs12, a13, e14, e14', h⟩ := h
      refine r_get C hO 5 0 rfl inX7 (Nat.le_of_ble_eq_true rfl) e14 e14' (List.mem_of_getElem? (i := 1) (by decide +kernel)) dX7_bestDraft_34 ?_
      refine lv_iload hx hb dX7_bestDraft_37 (lv_at hl 0 rfl) ?_
      obtain ⟨fs17, e16, h⟩ := h
      refine cV_rl (As := [.int i1]) (rest := [.long j10]) (n := 1) C hO (fun L => c_X1_wayOf l D Y L S s.heap.size a13 i1 _ h) 1 rfl e16 (cwV 1 hts gX7_bestDraft_X1_wayOf rfl rfl rfl ⟨rfl, hdS_X1_wayOf⟩ ⟨Nat.le_of_ble_eq_true rfl, Nat.le_of_ble_eq_true rfl⟩) rfl hl.1 rfl (Nat.le_of_ble_eq_true rfl) dX7_bestDraft_39 ⟨(Nat.le_of_ble_eq_true rfl), (Nat.le_of_ble_eq_true rfl)⟩ (fun j15 h => ?_)
      refine cS_sl (As := [.long j10, .long j15]) (rest := []) (n := 2) CF hZ (c_X4_moved l j10 j15 _ h) (va_cwS 2 hts gX7_bestDraft_X4_moved rfl rfl rfl hdS_X4_moved ⟨Nat.le_of_ble_eq_true rfl, Nat.le_of_ble_eq_true rfl⟩) rfl hl.1 rfl (Nat.le_of_ble_eq_true rfl) dX7_bestDraft_42 ⟨(Nat.le_of_ble_eq_true rfl), (Nat.le_of_ble_eq_true rfl)⟩ (fun j18 h => ?_)
      refine cS_si (As := [.long j18]) (rest := []) (n := 1) CF hZ (c_X6_staying l j18 _ h) (va_cwS 1 hts gX7_bestDraft_X6_staying rfl rfl rfl hdS_X6_staying ⟨Nat.le_of_ble_eq_true rfl, Nat.le_of_ble_eq_true rfl⟩) rfl hl.1 rfl (Nat.le_of_ble_eq_true rfl) dX7_bestDraft_45 ⟨(Nat.le_of_ble_eq_true rfl), (Nat.le_of_ble_eq_true rfl)⟩ (fun i19 h => ?_)
      refine lv_istore (lv' := [(5, .int i19), (4, .int i1), (3, .int i2), (2, .int i3), (0, .ref a0), (1, .int v1)]) hx hb dX7_bestDraft_48 hl (by decide) rfl (fun ls hl => ?_)
      refine lv_iload hx hb dX7_bestDraft_50 (lv_at hl 0 rfl) ?_
      refine lv_iload_n hx hb dX7_bestDraft_52 rfl (lv_at hl 2 rfl) ?_
      refine lv_icmp_le (tgt := 62) hx hb dX7_bestDraft_53 (by decide) (fun c20 => ?_) (fun c20 => ?_)
      · have h := h.1 c20
        obtain ⟨i21, ei21⟩ : ∃ y : Int32, y = i1 + (nI 1) := ⟨_, rfl⟩
        have h := h i21 ei21
        refine lv_iinc (v := i21) (lv' := [(4, .int i21), (5, .int i19), (3, .int i2), (2, .int i3), (0, .ref a0), (1, .int v1)]) hx hb dX7_bestDraft_62 hl (k := 1) rfl (by rw [ei21]; rfl) (by decide) rfl (fun ls hl => ?_)
        refine lv_goto (tgt := 19) hx hb dX7_bestDraft_65 (by decide) ?_
        exact ih19 (i21, i2, i3) _ h (lv_sub hl [0, 2, 3, 4, 5] rfl)
      · have h := h.2 c20
        refine lv_iload hx hb dX7_bestDraft_56 (lv_at hl 1 rfl) ?_
        refine lv_istore_n (lv' := [(2, .int i1), (5, .int i19), (4, .int i1), (3, .int i2), (0, .ref a0), (1, .int v1)]) hx hb dX7_bestDraft_58 rfl hl (by decide) rfl (fun ls hl => ?_)
        refine lv_iload hx hb dX7_bestDraft_59 (lv_at hl 1 rfl) ?_
        refine lv_istore_n (lv' := [(3, .int i19), (2, .int i1), (5, .int i19), (4, .int i1), (0, .ref a0), (1, .int v1)]) hx hb dX7_bestDraft_61 rfl hl (by decide) rfl (fun ls hl => ?_)
        obtain ⟨i22, ei22⟩ : ∃ y : Int32, y = i1 + (nI 1) := ⟨_, rfl⟩
        have h := h i22 ei22
        refine lv_iinc (v := i22) (lv' := [(4, .int i22), (3, .int i19), (2, .int i1), (5, .int i19), (0, .ref a0), (1, .int v1)]) hx hb dX7_bestDraft_62 hl (k := 3) rfl (by rw [ei22]; rfl) (by decide) rfl (fun ls hl => ?_)
        refine lv_goto (tgt := 19) hx hb dX7_bestDraft_65 (by decide) ?_
        exact ih19 (i22, i19, i1) _ h (lv_sub hl [0, 1, 2, 4, 5] rfl)
  refine lv_if_eq (tgt := 12) hx hb dX7_bestDraft_1 (by decide) (fun c24 => ?_) (fun c24 => ?_)
  · have h := h.1 c24
    exact kc12 () _ h (lv_sub hl [0, 1] rfl)
  · have h := h.2 c24
    refine lv_iload_n hx hb dX7_bestDraft_4 rfl (lv_at hl 1 rfl) ?_
    refine lv_iconst (v := (nI 1)) hx hb dX7_bestDraft_5 (by decide) ?_
    refine lv_icmp_eq (tgt := 12) hx hb dX7_bestDraft_6 (by decide) (fun c25 => ?_) (fun c25 => ?_)
    · have h := h.1 c25
      exact kc12 () _ h (lv_sub hl [0, 1] rfl)
    · have h := h.2 c25
      refine lv_bipush (v := (-2 : Int32)) hx hb dX7_bestDraft_9 (by decide) ?_
      exact W.iret hx hb hr (fun t ht hW => ⟨(-2 : Int32), rfl, h, ht⟩) no_locs dX7_bestDraft_11
theorem hdS_X7_write : yX7_write.cls ≠ "java/lang/invoke/MethodHandle" ∧ yX7_write.cls ≠ "java/lang/invoke/VarHandle" ∧ (parseMethodDescriptor yX7_write.desc).map (fun d => d.parameters.length) = some 1 := by decide +kernel
set_option maxHeartbeats 4000000 in
set_option maxRecDepth 100000 in
theorem c_X7_write (l : Launch) (D : va_G) (Y : Nat → ClassId) (L : List Nat) (S : PS) (sz : Nat) (a0 : Nat) (v1 : Int64) (Post : Int32 → PS → Prop) (h : wp_X7_write S a0 v1 Post) : Met l yX7_write wsX7_write ({ frames := 2, cells := 0, slots := 0, locals := 45 }) (va_Pc [.ref a0, .long v1] (PrO D Y L S sz)) (va_Qi Post (QtO D Y (fR L sz)) (fR L sz)) 0 0 (fR L sz) := by
  refine Met.ofW (cc := cX7_write) (maxL := 4) (ret := (some .int)) (by decide) rfl ?_
  intro p e s m args below meth c s₁ B hml hv
  obtain ⟨rfl, hsz, hJ, hP, hK, hD0, hZ⟩ := hv
  have hx := B.exec
  have hb := B.bytes
  have hr := B.returns
  have hts := atoms_spec (ws := wsX7_write) B.pre
  have hown : s.vm.findClass RX7 = some m.cls := findClass_of_methodNamed B.named
  have hlocks := B.notSynchronized
  have CF : CallFix p m c cX7_write 4 s ([.ref a0, .long v1] : List Value).toArray wsX7_write RX7 := ⟨hx, hb, hml, hown, hts⟩
  have C : CX p m c cX7_write 4 s ([.ref a0, .long v1] : List Value).toArray wsX7_write RX7 D Y := ⟨CF, hK, hZ⟩
  have hO : HO D Y (fR L sz) s.heap S s.heap [] := HO.entry hsz hJ hP hD0
  subst hsz
  have inX2 : ∀ w ∈ wsX20, w ∈ wsX7_write := fun w h => List.mem_cons_of_mem _ (List.mem_append_right _ h)
  have inX7 : ∀ w ∈ wsX70, w ∈ wsX7_write := fun w h => List.mem_cons_of_mem _ (List.mem_append_left _ (List.mem_append_right _ h))
  have hl := lv_entry ([.ref a0, .long v1]) (n := 4) (Nat.le_of_ble_eq_true rfl)
  rw [lg_entry_eq]
  generalize (lg_sl ([.ref a0, .long v1]) ++ List.replicate (4 - (lg_sl ([.ref a0, .long v1])).length) Slot.unset).toArray = ls at hl ⊢
  have hl : lv_has ls 4 [(0, .ref a0), (1, .long v1)] := hl
  unfold wp_X7_write at h
  refine lv_lload_n hx hb dX7_write_0 rfl (lv_at hl 1 rfl) ?_
  refine cS_si (As := [.long v1]) (rest := []) (n := 1) CF hZ (c_X2_signsIn l v1 _ h) (va_cwS 1 hts gX7_write_X2_signsIn rfl rfl rfl hdS_X2_signsIn ⟨Nat.le_of_ble_eq_true rfl, Nat.le_of_ble_eq_true rfl⟩) rfl hl.1 rfl (Nat.le_of_ble_eq_true rfl) dX7_write_1 ⟨(Nat.le_of_ble_eq_true rfl), (Nat.le_of_ble_eq_true rfl)⟩ (fun i1 h => ?_)
  refine lv_istore_n (lv' := [(3, .int i1), (0, .ref a0), (1, .long v1)]) hx hb dX7_write_4 rfl hl (by decide) rfl (fun ls hl => ?_)
  refine lv_iload_n hx hb dX7_write_5 rfl (lv_at hl 0 rfl) ?_
  refine lv_if_ne (tgt := 12) hx hb dX7_write_6 (by decide) (fun c2 => ?_) (fun c2 => ?_)
  · have h := h.2 c2
    refine lv_aload_n hx hb dX7_write_12 rfl (lv_at hl 1 rfl) ?_
    obtain ⟨fs3, a4, e5, e5', h⟩ := h
    refine r_get C hO 5 3 rfl inX7 (Nat.le_of_ble_eq_true rfl) e5 e5' (List.mem_of_getElem? (i := 1) (by decide +kernel)) dX7_write_13 ?_
    obtain ⟨fs6, i7, e8, e8', h⟩ := h
    refine r_get C hO 2 1 rfl inX2 (Nat.le_of_ble_eq_true rfl) e8 e8' (List.mem_of_getElem? (i := 2) (by decide +kernel)) dX7_write_16 ?_
    refine lv_iload_n hx hb dX7_write_19 rfl (lv_at hl 0 rfl) ?_
    refine lv_iadd hx hb dX7_write_20 ?_
    refine lv_bipush (v := (nI 40)) hx hb dX7_write_21 (by decide) ?_
    refine lv_icmp_le (tgt := 29) hx hb dX7_write_23 (by decide) (fun c9 => ?_) (fun c9 => ?_)
    · have h := h.1 c9
      refine lv_aload_n hx hb dX7_write_29 rfl (lv_at hl 1 rfl) ?_
      obtain ⟨fs10, a11, e12, e12', h⟩ := h
      refine r_get C hO 5 3 rfl inX7 (Nat.le_of_ble_eq_true rfl) e12 e12' (List.mem_of_getElem? (i := 1) (by decide +kernel)) dX7_write_30 ?_
      refine lv_lload_n hx hb dX7_write_33 rfl (lv_at hl 2 rfl) ?_
      refine lv_iload_n hx hb dX7_write_34 rfl (lv_at hl 0 rfl) ?_
      obtain ⟨fs15, e14, h⟩ := h
      refine cV_wv (As := [.long v1, .int i1]) (rest := []) (n := 2) C hO (fun L => c_X2_append l D Y L S s.heap.size a11 v1 i1 _ h) 2 rfl e14 (cwV 2 hts gX7_write_X2_append rfl rfl rfl ⟨rfl, hdS_X2_append⟩ ⟨Nat.le_of_ble_eq_true rfl, Nat.le_of_ble_eq_true rfl⟩) rfl hl.1 rfl (Nat.le_of_ble_eq_true rfl) dX7_write_35 ⟨(Nat.le_of_ble_eq_true rfl), (Nat.le_of_ble_eq_true rfl)⟩ (fun S13 H locs h hO => ?_)
      refine lv_aload_n hx hb dX7_write_38 rfl (lv_at hl 1 rfl) ?_
      obtain ⟨fs16, a17, e18, e18', h⟩ := h
      refine r_get C hO 5 3 rfl inX7 (Nat.le_of_ble_eq_true rfl) e18 e18' (List.mem_of_getElem? (i := 1) (by decide +kernel)) dX7_write_39 ?_
      obtain ⟨fs19, i20, e21, e21', h⟩ := h
      refine r_get C hO 2 1 rfl inX2 (Nat.le_of_ble_eq_true rfl) e21 e21' (List.mem_of_getElem? (i := 2) (by decide +kernel)) dX7_write_42 ?_
      exact W.iret hx hb hr (fun t ht hW => ⟨⟨i20, S13, rfl, h, hO.q ht⟩, hO.f ht⟩) hO.lc dX7_write_45
    · have h := h.2 c9
      refine lv_bipush (v := (-4 : Int32)) hx hb dX7_write_26 (by decide) ?_
      exact W.iret hx hb hr (fun t ht hW => ⟨⟨(-4 : Int32), S, rfl, h, hO.q ht⟩, hO.f ht⟩) hO.lc dX7_write_28
  · have h := h.1 c2
    refine lv_bipush (v := (-2 : Int32)) hx hb dX7_write_9 (by decide) ?_
    exact W.iret hx hb hr (fun t ht hW => ⟨⟨(-2 : Int32), S, rfl, h, hO.q ht⟩, hO.f ht⟩) hO.lc dX7_write_11
theorem hdS_X7_wipe : yX7_wipe.cls ≠ "java/lang/invoke/MethodHandle" ∧ yX7_wipe.cls ≠ "java/lang/invoke/VarHandle" ∧ (parseMethodDescriptor yX7_wipe.desc).map (fun d => d.parameters.length) = some 0 := by decide +kernel
set_option maxHeartbeats 4000000 in
set_option maxRecDepth 100000 in
theorem c_X7_wipe (l : Launch) (D : va_G) (Y : Nat → ClassId) (L : List Nat) (S : PS) (sz : Nat) (a0 : Nat) (Post : Int32 → PS → Prop) (h : wp_X7_wipe S a0 Post) : Met l yX7_wipe wsX7_wipe ({ frames := 0, cells := 0, slots := 0, locals := 0 }) (va_Pc [.ref a0] (PrO D Y L S sz)) (va_Qi Post (QtO D Y (fR L sz)) (fR L sz)) 0 0 (fR L sz) := by
  refine Met.ofW (cc := cX7_wipe) (maxL := 2) (ret := (some .int)) (by decide) rfl ?_
  intro p e s m args below meth c s₁ B hml hv
  obtain ⟨rfl, hsz, hJ, hP, hK, hD0, hZ⟩ := hv
  have hx := B.exec
  have hb := B.bytes
  have hr := B.returns
  have hts := atoms_spec (ws := wsX7_wipe) B.pre
  have hown : s.vm.findClass RX7 = some m.cls := findClass_of_methodNamed B.named
  have hlocks := B.notSynchronized
  have CF : CallFix p m c cX7_wipe 2 s ([.ref a0] : List Value).toArray wsX7_wipe RX7 := ⟨hx, hb, hml, hown, hts⟩
  have C : CX p m c cX7_wipe 2 s ([.ref a0] : List Value).toArray wsX7_wipe RX7 D Y := ⟨CF, hK, hZ⟩
  have hO : HO D Y (fR L sz) s.heap S s.heap [] := HO.entry hsz hJ hP hD0
  subst hsz
  have inX2 : ∀ w ∈ wsX20, w ∈ wsX7_wipe := fun w h => List.mem_cons_of_mem _ (List.mem_append_right _ h)
  have inX7 : ∀ w ∈ wsX70, w ∈ wsX7_wipe := fun w h => List.mem_cons_of_mem _ (List.mem_append_left _ (List.mem_append_right _ h))
  have hl := lv_entry ([.ref a0]) (n := 2) (Nat.le_of_ble_eq_true rfl)
  rw [lg_entry_eq]
  generalize (lg_sl ([.ref a0]) ++ List.replicate (2 - (lg_sl ([.ref a0])).length) Slot.unset).toArray = ls at hl ⊢
  have hl : lv_has ls 2 [(0, .ref a0)] := hl
  unfold wp_X7_wipe at h
  refine lv_aload_n hx hb dX7_wipe_0 rfl (lv_at hl 0 rfl) ?_
  obtain ⟨fs1, a2, e3, e3', h⟩ := h
  refine r_get C hO 5 3 rfl inX7 (Nat.le_of_ble_eq_true rfl) e3 e3' (List.mem_of_getElem? (i := 1) (by decide +kernel)) dX7_wipe_1 ?_
  obtain ⟨fs4, i5, e6, e6', h⟩ := h
  refine r_get C hO 2 1 rfl inX2 (Nat.le_of_ble_eq_true rfl) e6 e6' (List.mem_of_getElem? (i := 2) (by decide +kernel)) dX7_wipe_4 ?_
  refine lv_istore_n (lv' := [(1, .int i5), (0, .ref a0)]) hx hb dX7_wipe_7 rfl hl (by decide) rfl (fun ls hl => ?_)
  refine lv_aload_n hx hb dX7_wipe_8 rfl (lv_at hl 1 rfl) ?_
  obtain ⟨fs7, a8, e9, e9', h⟩ := h
  refine r_get C hO 5 3 rfl inX7 (Nat.le_of_ble_eq_true rfl) e9 e9' (List.mem_of_getElem? (i := 1) (by decide +kernel)) dX7_wipe_9 ?_
  refine lv_iconst (v := (nI 0)) hx hb dX7_wipe_12 (by decide) ?_
  obtain ⟨fs10, e11, e11', h⟩ := h
  refine r_put C hO 2 1 rfl inX2 tyX2_ok nmX2 (Nat.le_of_ble_eq_true rfl) rfl rfl rfl e11 e11' (List.mem_of_getElem? (i := 2) (by decide +kernel)) dX7_wipe_13 (fun H locs hO => ?_)
  obtain ⟨S12, eS12⟩ : ∃ Sx, Sx = va_up S a8 (.inl (2, fs10.set 1 (.int (nI 0)))) := ⟨_, rfl⟩
  rw [← eS12] at hO
  have h := h S12 eS12
  refine lv_iload_n hx hb dX7_wipe_16 rfl (lv_at hl 0 rfl) ?_
  exact W.iret hx hb hr (fun t ht hW => ⟨⟨i5, S12, rfl, h, hO.q ht⟩, hO.f ht⟩) hO.lc dX7_wipe_17
theorem hdS_X7_undo : yX7_undo.cls ≠ "java/lang/invoke/MethodHandle" ∧ yX7_undo.cls ≠ "java/lang/invoke/VarHandle" ∧ (parseMethodDescriptor yX7_undo.desc).map (fun d => d.parameters.length) = some 0 := by decide +kernel
set_option maxHeartbeats 4000000 in
set_option maxRecDepth 100000 in
theorem c_X7_undo (l : Launch) (D : va_G) (Y : Nat → ClassId) (L : List Nat) (S : PS) (sz : Nat) (a0 : Nat) (Post : Int32 → PS → Prop) (h : wp_X7_undo S a0 Post) : Met l yX7_undo wsX7_undo ({ frames := 4, cells := 0, slots := 0, locals := 85 }) (va_Pc [.ref a0] (PrO D Y L S sz)) (va_Qi Post (QtO D Y (fR L sz)) (fR L sz)) 0 0 (fR L sz) := by
  refine Met.ofW (cc := cX7_undo) (maxL := 1) (ret := (some .int)) (by decide) rfl ?_
  intro p e s m args below meth c s₁ B hml hv
  obtain ⟨rfl, hsz, hJ, hP, hK, hD0, hZ⟩ := hv
  have hx := B.exec
  have hb := B.bytes
  have hr := B.returns
  have hts := atoms_spec (ws := wsX7_undo) B.pre
  have hown : s.vm.findClass RX7 = some m.cls := findClass_of_methodNamed B.named
  have hlocks := B.notSynchronized
  have CF : CallFix p m c cX7_undo 1 s ([.ref a0] : List Value).toArray wsX7_undo RX7 := ⟨hx, hb, hml, hown, hts⟩
  have C : CX p m c cX7_undo 1 s ([.ref a0] : List Value).toArray wsX7_undo RX7 D Y := ⟨CF, hK, hZ⟩
  have hO : HO D Y (fR L sz) s.heap S s.heap [] := HO.entry hsz hJ hP hD0
  subst hsz
  have inX3 : ∀ w ∈ wsX30, w ∈ wsX7_undo := fun w h => List.mem_cons_of_mem _ (List.mem_append_left _ (List.mem_append_left _ (List.mem_append_right _ h)))
  have inX7 : ∀ w ∈ wsX70, w ∈ wsX7_undo := fun w h => List.mem_cons_of_mem _ (List.mem_append_left _ (List.mem_append_left _ (List.mem_append_left _ (List.mem_append_right _ h))))
  have hl := lv_entry ([.ref a0]) (n := 1) (Nat.le_of_ble_eq_true rfl)
  rw [lg_entry_eq]
  generalize (lg_sl ([.ref a0]) ++ List.replicate (1 - (lg_sl ([.ref a0])).length) Slot.unset).toArray = ls at hl ⊢
  have hl : lv_has ls 1 [(0, .ref a0)] := hl
  unfold wp_X7_undo at h
  refine lv_aload_n hx hb dX7_undo_0 rfl (lv_at hl 0 rfl) ?_
  obtain ⟨fs1, a2, e3, e3', h⟩ := h
  refine r_get C hO 5 1 rfl inX7 (Nat.le_of_ble_eq_true rfl) e3 e3' (List.mem_of_getElem? (i := 1) (by decide +kernel)) dX7_undo_1 ?_
  obtain ⟨fs4, i5, e6, e6', h⟩ := h
  refine r_get C hO 3 1 rfl inX3 (Nat.le_of_ble_eq_true rfl) e6 e6' (List.mem_of_getElem? (i := 2) (by decide +kernel)) dX7_undo_4 ?_
  refine lv_if_ne (tgt := 13) hx hb dX7_undo_7 (by decide) (fun c7 => ?_) (fun c7 => ?_)
  · have h := h.2 c7
    refine lv_aload_n hx hb dX7_undo_13 rfl (lv_at hl 0 rfl) ?_
    obtain ⟨fs8, a9, e10, e10', h⟩ := h
    refine r_get C hO 5 1 rfl inX7 (Nat.le_of_ble_eq_true rfl) e10 e10' (List.mem_of_getElem? (i := 1) (by decide +kernel)) dX7_undo_14 ?_
    refine lv_aload_n hx hb dX7_undo_17 rfl (lv_at hl 0 rfl) ?_
    obtain ⟨fs11, a12, e13, e13', h⟩ := h
    refine r_get C hO 5 0 rfl inX7 (Nat.le_of_ble_eq_true rfl) e13 e13' (List.mem_of_getElem? (i := 3) (by decide +kernel)) dX7_undo_18 ?_
    obtain ⟨fs16, e15, h⟩ := h
    refine cV_wv (As := [.ref a12]) (rest := []) (n := 1) C hO (fun L => c_X3_giveBack l D Y L S s.heap.size a9 a12 _ h) 3 rfl e15 (cwV 1 hts gX7_undo_X3_giveBack rfl rfl rfl ⟨rfl, hdS_X3_giveBack⟩ ⟨Nat.le_of_ble_eq_true rfl, Nat.le_of_ble_eq_true rfl⟩) rfl hl.1 rfl (Nat.le_of_ble_eq_true rfl) dX7_undo_21 ⟨(Nat.le_of_ble_eq_true rfl), (Nat.le_of_ble_eq_true rfl)⟩ (fun S14 H locs h hO => ?_)
    refine lv_aload_n hx hb dX7_undo_24 rfl (lv_at hl 0 rfl) ?_
    obtain ⟨fs17, a18, e19, e19', h⟩ := h
    refine r_get C hO 5 1 rfl inX7 (Nat.le_of_ble_eq_true rfl) e19 e19' (List.mem_of_getElem? (i := 1) (by decide +kernel)) dX7_undo_25 ?_
    obtain ⟨fs20, i21, e22, e22', h⟩ := h
    refine r_get C hO 3 1 rfl inX3 (Nat.le_of_ble_eq_true rfl) e22 e22' (List.mem_of_getElem? (i := 2) (by decide +kernel)) dX7_undo_28 ?_
    exact W.iret hx hb hr (fun t ht hW => ⟨⟨i21, S14, rfl, h, hO.q ht⟩, hO.f ht⟩) hO.lc dX7_undo_31
  · have h := h.1 c7
    refine lv_bipush (v := (-5 : Int32)) hx hb dX7_undo_10 (by decide) ?_
    exact W.iret hx hb hr (fun t ht hW => ⟨⟨(-5 : Int32), S, rfl, h, hO.q ht⟩, hO.f ht⟩) hO.lc dX7_undo_12
theorem hdS_L_low : yL_low.cls ≠ "java/lang/invoke/MethodHandle" ∧ yL_low.cls ≠ "java/lang/invoke/VarHandle" ∧ (parseMethodDescriptor yL_low.desc).map (fun d => d.parameters.length) = some 2 := by decide +kernel
set_option maxHeartbeats 4000000 in
set_option maxRecDepth 100000 in
theorem c_L_low (l : Launch) (v0 : Int32) (v1 : Int32) (Post : Int32 → Prop) (h : wp_L_low v0 v1 Post) : Met l yL_low wsL_low ({ frames := 0, cells := 0, slots := 0, locals := 0 }) (va_Pc [.int v0, .int v1] NZ) (vp_Si Post) 0 0 (fun _ => False) := by
  refine Met.ofW (cc := cL_low) (maxL := 2) (ret := (some .int)) (by decide) rfl ?_
  intro p e s m args below meth c s₁ B hml hv
  obtain ⟨rfl, hZ⟩ := hv
  have hx := B.exec
  have hb := B.bytes
  have hr := B.returns
  have hts := atoms_spec (ws := wsL_low) B.pre
  have hown : s.vm.findClass RL = some m.cls := findClass_of_methodNamed B.named
  have hlocks := B.notSynchronized
  have CF : CallFix p m c cL_low 2 s ([.int v0, .int v1] : List Value).toArray wsL_low RL := ⟨hx, hb, hml, hown, hts⟩
  have hl := lv_entry ([.int v0, .int v1]) (n := 2) (Nat.le_of_ble_eq_true rfl)
  rw [lg_entry_eq]
  generalize (lg_sl ([.int v0, .int v1]) ++ List.replicate (2 - (lg_sl ([.int v0, .int v1])).length) Slot.unset).toArray = ls at hl ⊢
  have hl : lv_has ls 2 [(0, .int v0), (1, .int v1)] := hl
  unfold wp_L_low at h
  refine lv_iload_n hx hb dL_low_0 rfl (lv_at hl 0 rfl) ?_
  refine lv_ldc hx hb hown (hts _ (List.mem_of_getElem? (i := 1) (by decide +kernel : wsL_low[1]? = some (Cond.constant RL 9 (2147483647))))) dL_low_1 ?_
  refine lv_iand hx hb dL_low_3 ?_
  refine lv_iload_n hx hb dL_low_4 rfl (lv_at hl 1 rfl) ?_
  obtain ⟨g1, h⟩ := h
  refine lv_irem hx hb dL_low_5 g1 ?_
  exact W.iret hx hb hr (fun t ht hW => ⟨((v0 &&& (2147483647 : Int32)) - (v0 &&& (2147483647 : Int32)) / v1 * v1), rfl, h, ht⟩) no_locs dL_low_6
theorem hdS_L_ones : yL_ones.cls ≠ "java/lang/invoke/MethodHandle" ∧ yL_ones.cls ≠ "java/lang/invoke/VarHandle" ∧ (parseMethodDescriptor yL_ones.desc).map (fun d => d.parameters.length) = some 1 := by decide +kernel
set_option maxHeartbeats 4000000 in
set_option maxRecDepth 100000 in
theorem c_L_ones (l : Launch) (v0 : Int32) (Post : Int32 → Prop) (h : wp_L_ones v0 Post) : Met l yL_ones wsL_ones ({ frames := 0, cells := 0, slots := 0, locals := 0 }) (va_Pc [.int v0] NZ) (vp_Si Post) 0 0 (fun _ => False) := by
  refine Met.ofW (cc := cL_ones) (maxL := 3) (ret := (some .int)) (by decide) rfl ?_
  intro p e s m args below meth c s₁ B hml hv
  obtain ⟨rfl, hZ⟩ := hv
  have hx := B.exec
  have hb := B.bytes
  have hr := B.returns
  have hts := atoms_spec (ws := wsL_ones) B.pre
  have hown : s.vm.findClass RL = some m.cls := findClass_of_methodNamed B.named
  have hlocks := B.notSynchronized
  have CF : CallFix p m c cL_ones 3 s ([.int v0] : List Value).toArray wsL_ones RL := ⟨hx, hb, hml, hown, hts⟩
  have hl := lv_entry ([.int v0]) (n := 3) (Nat.le_of_ble_eq_true rfl)
  rw [lg_entry_eq]
  generalize (lg_sl ([.int v0]) ++ List.replicate (3 - (lg_sl ([.int v0])).length) Slot.unset).toArray = ls at hl ⊢
  have hl : lv_has ls 3 [(0, .int v0)] := hl
  unfold wp_L_ones at h
  refine lv_iconst (v := (nI 0)) hx hb dL_ones_0 (by decide) ?_
  refine lv_istore_n (lv' := [(1, .int (nI 0)), (0, .int v0)]) hx hb dL_ones_1 rfl hl (by decide) rfl (fun ls hl => ?_)
  refine lv_iload_n hx hb dL_ones_2 rfl (lv_at hl 1 rfl) ?_
  refine lv_istore_n (lv' := [(2, .int v0), (1, .int (nI 0)), (0, .int v0)]) hx hb dL_ones_3 rfl hl (by decide) rfl (fun ls hl => ?_)
  obtain ⟨n6, h⟩ := h
  refine lp_P (nL := 3) (fun q => [(2, .int q.1), (1, .int q.2)]) h (lv_sub hl [0, 1] rfl) (fun K4 ih4 q ls h hl => ?_)
  obtain ⟨i1, i2⟩ := q
  have h : wpb_L_ones_4 Post K4 i1 i2 := h
  have hl : lv_has ls 3 [(2, .int i1), (1, .int i2)] := hl
  unfold wpb_L_ones_4 at h
  refine lv_iload_n hx hb dL_ones_4 rfl (lv_at hl 0 rfl) ?_
  refine lv_if_eq (tgt := 20) hx hb dL_ones_5 (by decide) (fun c3 => ?_) (fun c3 => ?_)
  · have h := h.1 c3
    refine lv_iload_n hx hb dL_ones_20 rfl (lv_at hl 1 rfl) ?_
    exact W.iret hx hb hr (fun t ht hW => ⟨i2, rfl, h, ht⟩) no_locs dL_ones_21
  · have h := h.2 c3
    obtain ⟨i4, ei4⟩ : ∃ y : Int32, y = i2 + (nI 1) := ⟨_, rfl⟩
    have h := h i4 ei4
    refine lv_iinc (v := i4) (lv' := [(1, .int i4), (2, .int i1)]) hx hb dL_ones_8 hl (k := 1) rfl (by rw [ei4]; rfl) (by decide) rfl (fun ls hl => ?_)
    refine lv_iload_n hx hb dL_ones_11 rfl (lv_at hl 1 rfl) ?_
    refine lv_iload_n hx hb dL_ones_12 rfl (lv_at hl 1 rfl) ?_
    refine lv_iconst (v := (nI 1)) hx hb dL_ones_13 (by decide) ?_
    refine lv_isub hx hb dL_ones_14 ?_
    refine lv_iand hx hb dL_ones_15 ?_
    refine lv_topi (fun i5 ei5 => ?_)
    have h := h i5 ei5
    refine lv_istore_n (lv' := [(2, .int i5), (1, .int i4)]) hx hb dL_ones_16 rfl hl (by decide) rfl (fun ls hl => ?_)
    refine lv_goto (tgt := 4) hx hb dL_ones_17 (by decide) ?_
    exact ih4 (i5, i4) _ h (lv_sub hl [0, 1] rfl)
theorem hdS_L_pressAt : yL_pressAt.cls ≠ "java/lang/invoke/MethodHandle" ∧ yL_pressAt.cls ≠ "java/lang/invoke/VarHandle" ∧ (parseMethodDescriptor yL_pressAt.desc).map (fun d => d.parameters.length) = some 3 := by decide +kernel
set_option maxHeartbeats 4000000 in
set_option maxRecDepth 100000 in
theorem c_L_pressAt (l : Launch) (D : va_G) (Y : Nat → ClassId) (L : List Nat) (S : PS) (sz : Nat) (v0 : Int32) (v1 : Int32) (v2 : Nat) (Post : Int32 → Prop) (h : wp_L_pressAt S v0 v1 v2 Post) : Met l yL_pressAt wsL_pressAt ({ frames := 0, cells := 0, slots := 0, locals := 0 }) (va_Pc [.int v0, .int v1, .ref v2] (PrO D Y L S sz)) (vp_Si Post) 0 0 (fun _ => False) := by
  refine Met.ofW (cc := cL_pressAt) (maxL := 3) (ret := (some .int)) (by decide) rfl ?_
  intro p e s m args below meth c s₁ B hml hv
  obtain ⟨rfl, hsz, hJ, hP, hK, hD0, hZ⟩ := hv
  have hx := B.exec
  have hb := B.bytes
  have hr := B.returns
  have hts := atoms_spec (ws := wsL_pressAt) B.pre
  have hown : s.vm.findClass RL = some m.cls := findClass_of_methodNamed B.named
  have hlocks := B.notSynchronized
  have CF : CallFix p m c cL_pressAt 3 s ([.int v0, .int v1, .ref v2] : List Value).toArray wsL_pressAt RL := ⟨hx, hb, hml, hown, hts⟩
  have C : CX p m c cL_pressAt 3 s ([.int v0, .int v1, .ref v2] : List Value).toArray wsL_pressAt RL D Y := ⟨CF, hK, hZ⟩
  have hO : HO D Y (fR L sz) s.heap S s.heap [] := HO.entry hsz hJ hP hD0
  subst hsz
  have hl := lv_entry ([.int v0, .int v1, .ref v2]) (n := 3) (Nat.le_of_ble_eq_true rfl)
  rw [lg_entry_eq]
  generalize (lg_sl ([.int v0, .int v1, .ref v2]) ++ List.replicate (3 - (lg_sl ([.int v0, .int v1, .ref v2])).length) Slot.unset).toArray = ls at hl ⊢
  have hl : lv_has ls 3 [(0, .int v0), (1, .int v1), (2, .ref v2)] := hl
  unfold wp_L_pressAt at h
  refine lv_aload_n hx hb dL_pressAt_0 rfl (lv_at hl 2 rfl) ?_
  refine lv_iconst (v := (nI 3)) hx hb dL_pressAt_1 (by decide) ?_
  refine lv_iload_n hx hb dL_pressAt_2 rfl (lv_at hl 0 rfl) ?_
  refine lv_imul hx hb dL_pressAt_3 ?_
  refine lv_iload_n hx hb dL_pressAt_4 rfl (lv_at hl 1 rfl) ?_
  refine lv_bipush (v := (nI 8)) hx hb dL_pressAt_5 (by decide) ?_
  refine lv_idiv hx hb dL_pressAt_7 (by decide) ?_
  refine lv_iadd hx hb dL_pressAt_8 ?_
  obtain ⟨n1, f2, i4, e3, e3', exi4, h⟩ := h
  refine r_iald C hO e3 e3' dL_pressAt_9 ?_
  rw [exi4]
  refine lv_iconst (v := (nI 4)) hx hb dL_pressAt_10 (by decide) ?_
  refine lv_iload_n hx hb dL_pressAt_11 rfl (lv_at hl 1 rfl) ?_
  refine lv_bipush (v := (nI 8)) hx hb dL_pressAt_12 (by decide) ?_
  refine lv_irem hx hb dL_pressAt_14 (by decide) ?_
  refine lv_imul hx hb dL_pressAt_15 ?_
  refine lv_ishr hx hb dL_pressAt_16 ?_
  refine lv_bipush (v := (nI 15)) hx hb dL_pressAt_17 (by decide) ?_
  refine lv_iand hx hb dL_pressAt_19 ?_
  exact W.iret hx hb hr (fun t ht hW => ⟨((i4 >>> (((nI 4) * (v1 - v1 / (nI 8) * (nI 8))) &&& 31)) &&& (nI 15)), rfl, h, ht⟩) no_locs dL_pressAt_20
theorem hdS_L_raised : yL_raised.cls ≠ "java/lang/invoke/MethodHandle" ∧ yL_raised.cls ≠ "java/lang/invoke/VarHandle" ∧ (parseMethodDescriptor yL_raised.desc).map (fun d => d.parameters.length) = some 3 := by decide +kernel
set_option maxHeartbeats 4000000 in
set_option maxRecDepth 100000 in
theorem c_L_raised (l : Launch) (D : va_G) (Y : Nat → ClassId) (L : List Nat) (S : PS) (sz : Nat) (v0 : Int32) (v1 : Nat) (v2 : Nat) (Post : Int32 → Prop) (h : wp_L_raised S v0 v1 v2 Post) : Met l yL_raised wsL_raised ({ frames := 0, cells := 0, slots := 0, locals := 0 }) (va_Pc [.int v0, .ref v1, .ref v2] (PrO D Y L S sz)) (vp_Si Post) 0 0 (fun _ => False) := by
  refine Met.ofW (cc := cL_raised) (maxL := 5) (ret := (some .int)) (by decide) rfl ?_
  intro p e s m args below meth c s₁ B hml hv
  obtain ⟨rfl, hsz, hJ, hP, hK, hD0, hZ⟩ := hv
  have hx := B.exec
  have hb := B.bytes
  have hr := B.returns
  have hts := atoms_spec (ws := wsL_raised) B.pre
  have hown : s.vm.findClass RL = some m.cls := findClass_of_methodNamed B.named
  have hlocks := B.notSynchronized
  have CF : CallFix p m c cL_raised 5 s ([.int v0, .ref v1, .ref v2] : List Value).toArray wsL_raised RL := ⟨hx, hb, hml, hown, hts⟩
  have C : CX p m c cL_raised 5 s ([.int v0, .ref v1, .ref v2] : List Value).toArray wsL_raised RL D Y := ⟨CF, hK, hZ⟩
  have hO : HO D Y (fR L sz) s.heap S s.heap [] := HO.entry hsz hJ hP hD0
  subst hsz
  have hl := lv_entry ([.int v0, .ref v1, .ref v2]) (n := 5) (Nat.le_of_ble_eq_true rfl)
  rw [lg_entry_eq]
  generalize (lg_sl ([.int v0, .ref v1, .ref v2]) ++ List.replicate (5 - (lg_sl ([.int v0, .ref v1, .ref v2])).length) Slot.unset).toArray = ls at hl ⊢
  have hl : lv_has ls 5 [(0, .int v0), (1, .ref v1), (2, .ref v2)] := hl
  unfold wp_L_raised at h
  refine lv_iconst (v := (nI 0)) hx hb dL_raised_0 (by decide) ?_
  refine lv_istore_n (lv' := [(3, .int (nI 0)), (0, .int v0), (1, .ref v1), (2, .ref v2)]) hx hb dL_raised_1 rfl hl (by decide) rfl (fun ls hl => ?_)
  refine lv_iconst (v := (nI 0)) hx hb dL_raised_2 (by decide) ?_
  refine lv_istore (lv' := [(4, .int (nI 0)), (3, .int (nI 0)), (0, .int v0), (1, .ref v1), (2, .ref v2)]) hx hb dL_raised_3 hl (by decide) rfl (fun ls hl => ?_)
  obtain ⟨n14, h⟩ := h
  refine lp_P (nL := 5) (fun q => [(4, .int q.1), (3, .int q.2), (0, .int v0), (1, .ref v1), (2, .ref v2)]) h (lv_sub hl [0, 1, 2, 3, 4] rfl) (fun K5 ih5 q ls h hl => ?_)
  obtain ⟨i1, i2⟩ := q
  have h : wpb_L_raised_5 S v0 v1 v2 Post K5 i1 i2 := h
  have hl : lv_has ls 5 [(4, .int i1), (3, .int i2), (0, .int v0), (1, .ref v1), (2, .ref v2)] := hl
  unfold wpb_L_raised_5 at h
  refine lv_iload hx hb dL_raised_5 (lv_at hl 0 rfl) ?_
  refine lv_bipush (v := (nI 12)) hx hb dL_raised_7 (by decide) ?_
  refine lv_icmp_ge (tgt := 34) hx hb dL_raised_9 (by decide) (fun c3 => ?_) (fun c3 => ?_)
  · have h := h.1 c3
    refine lv_iload_n hx hb dL_raised_34 rfl (lv_at hl 1 rfl) ?_
    exact W.iret hx hb hr (fun t ht hW => ⟨i2, rfl, h, ht⟩) no_locs dL_raised_35
  · have h := h.2 c3
    refine lv_iload_n hx hb dL_raised_12 rfl (lv_at hl 1 rfl) ?_
    refine lv_aload_n hx hb dL_raised_13 rfl (lv_at hl 4 rfl) ?_
    refine lv_iload_n hx hb dL_raised_14 rfl (lv_at hl 2 rfl) ?_
    obtain ⟨n4, f5, i7, e6, e6', exi7, h⟩ := h
    refine r_iald C hO e6 e6' dL_raised_15 ?_
    rw [exi7]
    refine lv_aload_n hx hb dL_raised_16 rfl (lv_at hl 3 rfl) ?_
    refine lv_iload hx hb dL_raised_17 (lv_at hl 0 rfl) ?_
    obtain ⟨n8, f9, i11, e10, e10', exi11, h⟩ := h
    refine r_iald C hO e10 e10' dL_raised_19 ?_
    rw [exi11]
    refine lv_ishr hx hb dL_raised_20 ?_
    refine lv_iconst (v := (nI 1)) hx hb dL_raised_21 (by decide) ?_
    refine lv_iand hx hb dL_raised_22 ?_
    refine lv_iload hx hb dL_raised_23 (lv_at hl 0 rfl) ?_
    refine lv_ishl hx hb dL_raised_25 ?_
    refine lv_ior hx hb dL_raised_26 ?_
    refine lv_topi (fun i12 ei12 => ?_)
    have h := h i12 ei12
    refine lv_istore_n (lv' := [(3, .int i12), (4, .int i1), (0, .int v0), (1, .ref v1), (2, .ref v2)]) hx hb dL_raised_27 rfl hl (by decide) rfl (fun ls hl => ?_)
    obtain ⟨i13, ei13⟩ : ∃ y : Int32, y = i1 + (nI 1) := ⟨_, rfl⟩
    have h := h i13 ei13
    refine lv_iinc (v := i13) (lv' := [(4, .int i13), (3, .int i12), (0, .int v0), (1, .ref v1), (2, .ref v2)]) hx hb dL_raised_28 hl (k := 1) rfl (by rw [ei13]; rfl) (by decide) rfl (fun ls hl => ?_)
    refine lv_goto (tgt := 5) hx hb dL_raised_31 (by decide) ?_
    exact ih5 (i13, i12) _ h (lv_sub hl [0, 1, 2, 3, 4] rfl)
