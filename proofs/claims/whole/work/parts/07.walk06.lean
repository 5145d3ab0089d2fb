theorem hdS_X8_raised : yX8_raised.cls ≠ "java/lang/invoke/MethodHandle" ∧ yX8_raised.cls ≠ "java/lang/invoke/VarHandle" ∧ (parseMethodDescriptor yX8_raised.desc).map (fun d => d.parameters.length) = some 1 := by decide +kernel
set_option maxHeartbeats 4000000 in
set_option maxRecDepth 100000 in
theorem c_X8_raised (l : Launch) (D : va_G) (Y : Nat → ClassId) (L : List Nat) (S : PS) (sz : Nat) (a0 : Nat) (v1 : Int32) (Post : Int32 → Prop) (h : wp_X8_raised S a0 v1 Post) : Met l yX8_raised wsX8_raised ({ frames := 0, cells := 0, slots := 0, locals := 0 }) (va_Pc [.ref a0, .int v1] (PrO D Y L S sz)) (vp_Si Post) 0 0 (fun _ => False) := by
  refine Met.ofW (cc := cX8_raised) (maxL := 4) (ret := (some .int)) (by decide) rfl ?_
  intro p e s m args below meth c s₁ B hml hv
  obtain ⟨rfl, hsz, hJ, hP, hK, hD0, hZ⟩ := hv
  have hx := B.exec
  have hb := B.bytes
  have hr := B.returns
  have hts := atoms_spec (ws := wsX8_raised) B.pre
  have hown : s.vm.findClass RX8 = some m.cls := findClass_of_methodNamed B.named
  have hlocks := B.notSynchronized
  have CF : CallFix p m c cX8_raised 4 s ([.ref a0, .int v1] : List Value).toArray wsX8_raised RX8 := ⟨hx, hb, hml, hown, hts⟩
  have C : CX p m c cX8_raised 4 s ([.ref a0, .int v1] : List Value).toArray wsX8_raised RX8 D Y := ⟨CF, hK, hZ⟩
  have hO : HO D Y (fR L sz) s.heap S s.heap [] := HO.entry hsz hJ hP hD0
  subst hsz
  have inX8 : ∀ w ∈ wsX80, w ∈ wsX8_raised := fun w h => List.mem_cons_of_mem _ (List.mem_append_right _ h)
  have hl := lv_entry ([.ref a0, .int v1]) (n := 4) (Nat.le_of_ble_eq_true rfl)
  rw [lg_entry_eq]
  generalize (lg_sl ([.ref a0, .int v1]) ++ List.replicate (4 - (lg_sl ([.ref a0, .int v1])).length) Slot.unset).toArray = ls at hl ⊢
  have hl : lv_has ls 4 [(0, .ref a0), (1, .int v1)] := hl
  unfold wp_X8_raised at h
  refine lv_iconst (v := (nI 0)) hx hb dX8_raised_0 (by decide) ?_
  refine lv_istore_n (lv' := [(2, .int (nI 0)), (0, .ref a0), (1, .int v1)]) hx hb dX8_raised_1 rfl hl (by decide) rfl (fun ls hl => ?_)
  refine lv_iconst (v := (nI 0)) hx hb dX8_raised_2 (by decide) ?_
  refine lv_istore_n (lv' := [(3, .int (nI 0)), (2, .int (nI 0)), (0, .ref a0), (1, .int v1)]) hx hb dX8_raised_3 rfl hl (by decide) rfl (fun ls hl => ?_)
  obtain ⟨n23, h⟩ := h
  refine lp_P (nL := 4) (fun q => [(3, .int q.1), (2, .int q.2), (0, .ref a0), (1, .int v1)]) h (lv_sub hl [0, 1, 2, 3] rfl) (fun K4 ih4 q ls h hl => ?_)
  obtain ⟨i1, i2⟩ := q
  have h : wpb_X8_raised_4 S a0 v1 Post K4 i1 i2 := h
  have hl : lv_has ls 4 [(3, .int i1), (2, .int i2), (0, .ref a0), (1, .int v1)] := hl
  unfold wpb_X8_raised_4 at h
  refine lv_iload_n hx hb dX8_raised_4 rfl (lv_at hl 0 rfl) ?_
  refine lv_bipush (v := (nI 12)) hx hb dX8_raised_5 (by decide) ?_
  refine lv_icmp_ge (tgt := 50) hx hb dX8_raised_7 (by decide) (fun c3 => ?_) (fun c3 => ?_)
  · have h := h.1 c3
    refine lv_iload_n hx hb dX8_raised_50 rfl (lv_at hl 1 rfl) ?_
    exact W.iret hx hb hr (fun t ht hW => ⟨i2, rfl, h, ht⟩) no_locs dX8_raised_51
  · have h := h.2 c3
    refine lv_iload_n hx hb dX8_raised_10 rfl (lv_at hl 1 rfl) ?_
    refine lv_aload_n hx hb dX8_raised_11 rfl (lv_at hl 2 rfl) ?_
    obtain ⟨fs4, a5, e6, e6', h⟩ := h
    refine r_get C hO 6 0 rfl inX8 (Nat.le_of_ble_eq_true rfl) e6 e6' (List.mem_of_getElem? (i := 1) (by decide +kernel)) dX8_raised_12 ?_
    refine lv_bipush (v := (nI 12)) hx hb dX8_raised_15 (by decide) ?_
    refine lv_iload_n hx hb dX8_raised_17 rfl (lv_at hl 3 rfl) ?_
    refine lv_iadd hx hb dX8_raised_18 ?_
    obtain ⟨n7, f8, i10, e9, e9', exi10, h⟩ := h
    refine r_iald C hO e9 e9' dX8_raised_19 ?_
    rw [exi10]
    refine lv_aload_n hx hb dX8_raised_20 rfl (lv_at hl 2 rfl) ?_
    obtain ⟨fs11, a12, e13, e13', h⟩ := h
    refine r_get C hO 6 0 rfl inX8 (Nat.le_of_ble_eq_true rfl) e13 e13' (List.mem_of_getElem? (i := 1) (by decide +kernel)) dX8_raised_21 ?_
    refine lv_iconst (v := (nI 0)) hx hb dX8_raised_24 (by decide) ?_
    refine lv_iload_n hx hb dX8_raised_25 rfl (lv_at hl 0 rfl) ?_
    refine lv_iadd hx hb dX8_raised_26 ?_
    obtain ⟨n14, f15, i17, e16, e16', exi17, h⟩ := h
    refine r_iald C hO e16 e16' dX8_raised_27 ?_
    rw [exi17]
    refine lv_ishr hx hb dX8_raised_28 ?_
    refine lv_iconst (v := (nI 1)) hx hb dX8_raised_29 (by decide) ?_
    refine lv_iand hx hb dX8_raised_30 ?_
    refine lv_iconst (v := (nI 1)) hx hb dX8_raised_31 (by decide) ?_
    refine lv_icmp_ne (tgt := 41) hx hb dX8_raised_32 (by decide) (fun c18 => ?_) (fun c18 => ?_)
    · have h := h.2 c18
      refine lv_iconst (v := (nI 0)) hx hb dX8_raised_41 (by decide) ?_
      refine lv_ior hx hb dX8_raised_42 ?_
      refine lv_topi (fun i19 ei19 => ?_)
      have h := h i19 ei19
      refine lv_istore_n (lv' := [(2, .int i19), (3, .int i1), (0, .ref a0), (1, .int v1)]) hx hb dX8_raised_43 rfl hl (by decide) rfl (fun ls hl => ?_)
      obtain ⟨i20, ei20⟩ : ∃ y : Int32, y = i1 + (nI 1) := ⟨_, rfl⟩
      have h := h i20 ei20
      refine lv_iinc (v := i20) (lv' := [(3, .int i20), (2, .int i19), (0, .ref a0), (1, .int v1)]) hx hb dX8_raised_44 hl (k := 1) rfl (by rw [ei20]; rfl) (by decide) rfl (fun ls hl => ?_)
      refine lv_goto (tgt := 4) hx hb dX8_raised_47 (by decide) ?_
      exact ih4 (i20, i19) _ h (lv_sub hl [0, 1, 2, 3] rfl)
    · have h := h.1 c18
      refine lv_iconst (v := (nI 1)) hx hb dX8_raised_35 (by decide) ?_
      refine lv_iload_n hx hb dX8_raised_36 rfl (lv_at hl 0 rfl) ?_
      refine lv_ishl hx hb dX8_raised_37 ?_
      refine lv_goto (tgt := 42) hx hb dX8_raised_38 (by decide) ?_
      refine lv_ior hx hb dX8_raised_42 ?_
      refine lv_topi (fun i21 ei21 => ?_)
      have h := h i21 ei21
      refine lv_istore_n (lv' := [(2, .int i21), (3, .int i1), (0, .ref a0), (1, .int v1)]) hx hb dX8_raised_43 rfl hl (by decide) rfl (fun ls hl => ?_)
      obtain ⟨i22, ei22⟩ : ∃ y : Int32, y = i1 + (nI 1) := ⟨_, rfl⟩
      have h := h i22 ei22
      refine lv_iinc (v := i22) (lv' := [(3, .int i22), (2, .int i21), (0, .ref a0), (1, .int v1)]) hx hb dX8_raised_44 hl (k := 1) rfl (by rw [ei22]; rfl) (by decide) rfl (fun ls hl => ?_)
      refine lv_goto (tgt := 4) hx hb dX8_raised_47 (by decide) ?_
      exact ih4 (i22, i21) _ h (lv_sub hl [0, 1, 2, 3] rfl)
theorem hdS_X8_pressed : yX8_pressed.cls ≠ "java/lang/invoke/MethodHandle" ∧ yX8_pressed.cls ≠ "java/lang/invoke/VarHandle" ∧ (parseMethodDescriptor yX8_pressed.desc).map (fun d => d.parameters.length) = some 2 := by decide +kernel
set_option maxHeartbeats 4000000 in
set_option maxRecDepth 100000 in
theorem c_X8_pressed (l : Launch) (D : va_G) (Y : Nat → ClassId) (L : List Nat) (S : PS) (sz : Nat) (a0 : Nat) (v1 : Int32) (v2 : Int32) (Post : Int32 → Prop) (h : wp_X8_pressed S a0 v1 v2 Post) : Met l yX8_pressed wsX8_pressed ({ frames := 1, cells := 0, slots := 0, locals := 23 }) (va_Pc [.ref a0, .int v1, .int v2] (PrO D Y L S sz)) (vp_Si Post) 0 0 (fun _ => False) := by
  refine Met.ofW (cc := cX8_pressed) (maxL := 6) (ret := (some .int)) (by decide) rfl ?_
  intro p e s m args below meth c s₁ B hml hv
  obtain ⟨rfl, hsz, hJ, hP, hK, hD0, hZ⟩ := hv
  have hx := B.exec
  have hb := B.bytes
  have hr := B.returns
  have hts := atoms_spec (ws := wsX8_pressed) B.pre
  have hown : s.vm.findClass RX8 = some m.cls := findClass_of_methodNamed B.named
  have hlocks := B.notSynchronized
  have CF : CallFix p m c cX8_pressed 6 s ([.ref a0, .int v1, .int v2] : List Value).toArray wsX8_pressed RX8 := ⟨hx, hb, hml, hown, hts⟩
  have C : CX p m c cX8_pressed 6 s ([.ref a0, .int v1, .int v2] : List Value).toArray wsX8_pressed RX8 D Y := ⟨CF, hK, hZ⟩
  have hO : HO D Y (fR L sz) s.heap S s.heap [] := HO.entry hsz hJ hP hD0
  subst hsz
  have hl := lv_entry ([.ref a0, .int v1, .int v2]) (n := 6) (Nat.le_of_ble_eq_true rfl)
  rw [lg_entry_eq]
  generalize (lg_sl ([.ref a0, .int v1, .int v2]) ++ List.replicate (6 - (lg_sl ([.ref a0, .int v1, .int v2])).length) Slot.unset).toArray = ls at hl ⊢
  have hl : lv_has ls 6 [(0, .ref a0), (1, .int v1), (2, .int v2)] := hl
  unfold wp_X8_pressed at h
  refine lv_aload_n hx hb dX8_pressed_0 rfl (lv_at hl 0 rfl) ?_
  refine lv_iload_n hx hb dX8_pressed_1 rfl (lv_at hl 2 rfl) ?_
  refine lv_bipush (v := (nI 6)) hx hb dX8_pressed_2 (by decide) ?_
  refine lv_irem hx hb dX8_pressed_4 (by decide) ?_
  obtain ⟨fs3, e2, h⟩ := h
  refine cV_ri (As := [.int (v2 - v2 / (nI 6) * (nI 6))]) (rest := []) (n := 1) C hO (fun L => c_X8_raised l D Y L S s.heap.size a0 ((v2 - v2 / (nI 6) * (nI 6))) _ h) 6 rfl e2 (cwV 1 hts gX8_pressed_X8_raised rfl rfl rfl ⟨rfl, hdS_X8_raised⟩ ⟨Nat.le_of_ble_eq_true rfl, Nat.le_of_ble_eq_true rfl⟩) rfl hl.1 rfl (Nat.le_of_ble_eq_true rfl) dX8_pressed_5 ⟨Nat.le_of_ble_eq_true rfl, Nat.le_of_ble_eq_true rfl⟩ (fun i1 h => ?_)
  refine lv_istore_n (lv' := [(3, .int i1), (0, .ref a0), (1, .int v1), (2, .int v2)]) hx hb dX8_pressed_8 rfl hl (by decide) rfl (fun ls hl => ?_)
  refine lv_iload_n hx hb dX8_pressed_9 rfl (lv_at hl 0 rfl) ?_
  refine lv_iload_n hx hb dX8_pressed_10 rfl (lv_at hl 2 rfl) ?_
  refine lv_ishr hx hb dX8_pressed_11 ?_
  refine lv_iconst (v := (nI 1)) hx hb dX8_pressed_12 (by decide) ?_
  refine lv_iand hx hb dX8_pressed_13 ?_
  refine lv_if_ne (tgt := 19) hx hb dX8_pressed_14 (by decide) (fun c4 => ?_) (fun c4 => ?_)
  · have h := h.2 c4
    refine lv_iload_n hx hb dX8_pressed_19 rfl (lv_at hl 3 rfl) ?_
    refine lv_bipush (v := (nI 6)) hx hb dX8_pressed_20 (by decide) ?_
    refine cut_P (nL := 6) (fun (q : Int32) => wpk_X8_pressed_33 v1 i1 Post q) (fun q => [(3, .int i1), (1, .int v1), (4, .int q)]) 33 ?_ (fun kc33 => ?_)
    · intro q ls h hl
      obtain ⟨i5, rfl⟩ : ∃ z, z = q := ⟨q, rfl⟩
      have h : wpk_X8_pressed_33 v1 i1 Post i5 := h
      have hl : lv_has ls 6 [(3, .int i1), (1, .int v1), (4, .int i5)] := hl
      unfold wpk_X8_pressed_33 at h
      refine lv_iload_n hx hb dX8_pressed_33 rfl (lv_at hl 1 rfl) ?_
      refine lv_iload hx hb dX8_pressed_34 (lv_at hl 2 rfl) ?_
      refine lv_iadd hx hb dX8_pressed_36 ?_
      refine lv_bipush (v := (nI 12)) hx hb dX8_pressed_37 (by decide) ?_
      refine lv_irem hx hb dX8_pressed_39 (by decide) ?_
      refine lv_topi (fun i6 ei6 => ?_)
      have h := h i6 ei6
      refine lv_istore (lv' := [(5, .int i6), (3, .int i1), (1, .int v1), (4, .int i5)]) hx hb dX8_pressed_40 hl (by decide) rfl (fun ls hl => ?_)
      obtain ⟨n10, h⟩ := h
      refine lp_P (nL := 6) (fun q => [(5, .int q), (3, .int i1), (4, .int i5)]) h (lv_sub hl [0, 1, 3] rfl) (fun K42 ih42 q ls h hl => ?_)
      obtain ⟨i7, rfl⟩ : ∃ z, z = q := ⟨q, rfl⟩
      have h : wpb_X8_pressed_42 i1 i5 Post K42 i7 := h
      have hl : lv_has ls 6 [(5, .int i7), (3, .int i1), (4, .int i5)] := hl
      unfold wpb_X8_pressed_42 at h
      refine lv_iload_n hx hb dX8_pressed_42 rfl (lv_at hl 1 rfl) ?_
      refine lv_iload hx hb dX8_pressed_43 (lv_at hl 0 rfl) ?_
      refine lv_ishr hx hb dX8_pressed_45 ?_
      refine lv_iconst (v := (nI 1)) hx hb dX8_pressed_46 (by decide) ?_
      refine lv_iand hx hb dX8_pressed_47 ?_
      refine lv_if_ne (tgt := 64) hx hb dX8_pressed_48 (by decide) (fun c8 => ?_) (fun c8 => ?_)
      · have h := h.2 c8
        refine lv_iload hx hb dX8_pressed_64 (lv_at hl 0 rfl) ?_
        exact W.iret hx hb hr (fun t ht hW => ⟨i7, rfl, h, ht⟩) no_locs dX8_pressed_66
      · have h := h.1 c8
        refine lv_iload hx hb dX8_pressed_51 (lv_at hl 0 rfl) ?_
        refine lv_iload hx hb dX8_pressed_53 (lv_at hl 2 rfl) ?_
        refine lv_iadd hx hb dX8_pressed_55 ?_
        refine lv_bipush (v := (nI 12)) hx hb dX8_pressed_56 (by decide) ?_
        refine lv_irem hx hb dX8_pressed_58 (by decide) ?_
        refine lv_topi (fun i9 ei9 => ?_)
        have h := h i9 ei9
        refine lv_istore (lv' := [(5, .int i9), (3, .int i1), (4, .int i5)]) hx hb dX8_pressed_59 hl (by decide) rfl (fun ls hl => ?_)
        refine lv_goto (tgt := 42) hx hb dX8_pressed_61 (by decide) ?_
        exact ih42 i9 _ h (lv_sub hl [0, 1, 2] rfl)
    refine lv_icmp_ge (tgt := 29) hx hb dX8_pressed_22 (by decide) (fun c11 => ?_) (fun c11 => ?_)
    · have h := h.1 c11
      refine lv_bipush (v := (nI 11)) hx hb dX8_pressed_29 (by decide) ?_
      refine lv_istore (lv' := [(4, .int (nI 11)), (3, .int i1), (0, .ref a0), (1, .int v1), (2, .int v2)]) hx hb dX8_pressed_31 hl (by decide) rfl (fun ls hl => ?_)
      exact kc33 (nI 11) _ h (lv_sub hl [1, 3, 0] rfl)
    · have h := h.2 c11
      refine lv_iconst (v := (nI 1)) hx hb dX8_pressed_25 (by decide) ?_
      refine lv_goto (tgt := 31) hx hb dX8_pressed_26 (by decide) ?_
      refine lv_istore (lv' := [(4, .int (nI 1)), (3, .int i1), (0, .ref a0), (1, .int v1), (2, .int v2)]) hx hb dX8_pressed_31 hl (by decide) rfl (fun ls hl => ?_)
      exact kc33 (nI 1) _ h (lv_sub hl [1, 3, 0] rfl)
  · have h := h.1 c4
    refine lv_iload_n hx hb dX8_pressed_17 rfl (lv_at hl 2 rfl) ?_
    exact W.iret hx hb hr (fun t ht hW => ⟨v1, rfl, h, ht⟩) no_locs dX8_pressed_18
theorem hdS_X8_lengthOf : yX8_lengthOf.cls ≠ "java/lang/invoke/MethodHandle" ∧ yX8_lengthOf.cls ≠ "java/lang/invoke/VarHandle" ∧ (parseMethodDescriptor yX8_lengthOf.desc).map (fun d => d.parameters.length) = some 1 := by decide +kernel
set_option maxHeartbeats 4000000 in
set_option maxRecDepth 100000 in
theorem c_X8_lengthOf (l : Launch) (D : va_G) (Y : Nat → ClassId) (L : List Nat) (S : PS) (sz : Nat) (a0 : Nat) (v1 : Int32) (Post : Int32 → Prop) (h : wp_X8_lengthOf S a0 v1 Post) : Met l yX8_lengthOf wsX8_lengthOf ({ frames := 0, cells := 0, slots := 0, locals := 0 }) (va_Pc [.ref a0, .int v1] (PrO D Y L S sz)) (vp_Si Post) 0 0 (fun _ => False) := by
  refine Met.ofW (cc := cX8_lengthOf) (maxL := 2) (ret := (some .int)) (by decide) rfl ?_
  intro p e s m args below meth c s₁ B hml hv
  obtain ⟨rfl, hsz, hJ, hP, hK, hD0, hZ⟩ := hv
  have hx := B.exec
  have hb := B.bytes
  have hr := B.returns
  have hts := atoms_spec (ws := wsX8_lengthOf) B.pre
  have hown : s.vm.findClass RX8 = some m.cls := findClass_of_methodNamed B.named
  have hlocks := B.notSynchronized
  have CF : CallFix p m c cX8_lengthOf 2 s ([.ref a0, .int v1] : List Value).toArray wsX8_lengthOf RX8 := ⟨hx, hb, hml, hown, hts⟩
  have C : CX p m c cX8_lengthOf 2 s ([.ref a0, .int v1] : List Value).toArray wsX8_lengthOf RX8 D Y := ⟨CF, hK, hZ⟩
  have hO : HO D Y (fR L sz) s.heap S s.heap [] := HO.entry hsz hJ hP hD0
  subst hsz
  have inX8 : ∀ w ∈ wsX80, w ∈ wsX8_lengthOf := fun w h => List.mem_cons_of_mem _ (List.mem_append_right _ h)
  have hl := lv_entry ([.ref a0, .int v1]) (n := 2) (Nat.le_of_ble_eq_true rfl)
  rw [lg_entry_eq]
  generalize (lg_sl ([.ref a0, .int v1]) ++ List.replicate (2 - (lg_sl ([.ref a0, .int v1])).length) Slot.unset).toArray = ls at hl ⊢
  have hl : lv_has ls 2 [(0, .ref a0), (1, .int v1)] := hl
  unfold wp_X8_lengthOf at h
  refine lv_aload_n hx hb dX8_lengthOf_0 rfl (lv_at hl 0 rfl) ?_
  obtain ⟨fs1, a2, e3, e3', h⟩ := h
  refine r_get C hO 6 0 rfl inX8 (Nat.le_of_ble_eq_true rfl) e3 e3' (List.mem_of_getElem? (i := 1) (by decide +kernel)) dX8_lengthOf_1 ?_
  refine lv_bipush (v := (nI 42)) hx hb dX8_lengthOf_4 (by decide) ?_
  refine lv_iload_n hx hb dX8_lengthOf_6 rfl (lv_at hl 1 rfl) ?_
  refine lv_iadd hx hb dX8_lengthOf_7 ?_
  obtain ⟨n4, f5, i7, e6, e6', exi7, h⟩ := h
  refine r_iald C hO e6 e6' dX8_lengthOf_8 ?_
  rw [exi7]
  exact W.iret hx hb hr (fun t ht hW => ⟨i7, rfl, h, ht⟩) no_locs dX8_lengthOf_9
theorem hdS_X8_pressOf : yX8_pressOf.cls ≠ "java/lang/invoke/MethodHandle" ∧ yX8_pressOf.cls ≠ "java/lang/invoke/VarHandle" ∧ (parseMethodDescriptor yX8_pressOf.desc).map (fun d => d.parameters.length) = some 2 := by decide +kernel
set_option maxHeartbeats 4000000 in
set_option maxRecDepth 100000 in
theorem c_X8_pressOf (l : Launch) (D : va_G) (Y : Nat → ClassId) (L : List Nat) (S : PS) (sz : Nat) (a0 : Nat) (v1 : Int32) (v2 : Int32) (Post : Int32 → Prop) (h : wp_X8_pressOf S a0 v1 v2 Post) : Met l yX8_pressOf wsX8_pressOf ({ frames := 0, cells := 0, slots := 0, locals := 0 }) (va_Pc [.ref a0, .int v1, .int v2] (PrO D Y L S sz)) (vp_Si Post) 0 0 (fun _ => False) := by
  refine Met.ofW (cc := cX8_pressOf) (maxL := 3) (ret := (some .int)) (by decide) rfl ?_
  intro p e s m args below meth c s₁ B hml hv
  obtain ⟨rfl, hsz, hJ, hP, hK, hD0, hZ⟩ := hv
  have hx := B.exec
  have hb := B.bytes
  have hr := B.returns
  have hts := atoms_spec (ws := wsX8_pressOf) B.pre
  have hown : s.vm.findClass RX8 = some m.cls := findClass_of_methodNamed B.named
  have hlocks := B.notSynchronized
  have CF : CallFix p m c cX8_pressOf 3 s ([.ref a0, .int v1, .int v2] : List Value).toArray wsX8_pressOf RX8 := ⟨hx, hb, hml, hown, hts⟩
  have C : CX p m c cX8_pressOf 3 s ([.ref a0, .int v1, .int v2] : List Value).toArray wsX8_pressOf RX8 D Y := ⟨CF, hK, hZ⟩
  have hO : HO D Y (fR L sz) s.heap S s.heap [] := HO.entry hsz hJ hP hD0
  subst hsz
  have inX8 : ∀ w ∈ wsX80, w ∈ wsX8_pressOf := fun w h => List.mem_cons_of_mem _ (List.mem_append_right _ h)
  have hl := lv_entry ([.ref a0, .int v1, .int v2]) (n := 3) (Nat.le_of_ble_eq_true rfl)
  rw [lg_entry_eq]
  generalize (lg_sl ([.ref a0, .int v1, .int v2]) ++ List.replicate (3 - (lg_sl ([.ref a0, .int v1, .int v2])).length) Slot.unset).toArray = ls at hl ⊢
  have hl : lv_has ls 3 [(0, .ref a0), (1, .int v1), (2, .int v2)] := hl
  unfold wp_X8_pressOf at h
  refine lv_aload_n hx hb dX8_pressOf_0 rfl (lv_at hl 0 rfl) ?_
  obtain ⟨fs1, a2, e3, e3', h⟩ := h
  refine r_get C hO 6 0 rfl inX8 (Nat.le_of_ble_eq_true rfl) e3 e3' (List.mem_of_getElem? (i := 1) (by decide +kernel)) dX8_pressOf_1 ?_
  refine lv_bipush (v := (nI 48)) hx hb dX8_pressOf_4 (by decide) ?_
  refine lv_bipush (v := (nI 24)) hx hb dX8_pressOf_6 (by decide) ?_
  refine lv_iload_n hx hb dX8_pressOf_8 rfl (lv_at hl 1 rfl) ?_
  refine lv_imul hx hb dX8_pressOf_9 ?_
  refine lv_iadd hx hb dX8_pressOf_10 ?_
  refine lv_iload_n hx hb dX8_pressOf_11 rfl (lv_at hl 2 rfl) ?_
  refine lv_iadd hx hb dX8_pressOf_12 ?_
  obtain ⟨n4, f5, i7, e6, e6', exi7, h⟩ := h
  refine r_iald C hO e6 e6' dX8_pressOf_13 ?_
  rw [exi7]
  exact W.iret hx hb hr (fun t ht hW => ⟨i7, rfl, h, ht⟩) no_locs dX8_pressOf_14
theorem hdS_X8_lay : yX8_lay.cls ≠ "java/lang/invoke/MethodHandle" ∧ yX8_lay.cls ≠ "java/lang/invoke/VarHandle" ∧ (parseMethodDescriptor yX8_lay.desc).map (fun d => d.parameters.length) = some 1 := by decide +kernel
set_option maxHeartbeats 4000000 in
set_option maxRecDepth 100000 in
theorem c_X8_lay (l : Launch) (D : va_G) (Y : Nat → ClassId) (L : List Nat) (S : PS) (sz : Nat) (a0 : Nat) (v1 : Int32) (Post : PS → Prop) (h : wp_X8_lay S a0 v1 Post) : Met l yX8_lay wsX8_lay ({ frames := 2, cells := 0, slots := 0, locals := 48 }) (va_Pc [.ref a0, .int v1] (PrO D Y L S sz)) (va_Qv Post (QtO D Y (fR L sz)) (fR L sz)) 0 0 (fR L sz) := by
  refine Met.ofW (cc := cX8_lay) (maxL := 5) (ret := none) (by decide) rfl ?_
  intro p e s m args below meth c s₁ B hml hv
  obtain ⟨rfl, hsz, hJ, hP, hK, hD0, hZ⟩ := hv
  have hx := B.exec
  have hb := B.bytes
  have hr := B.returns
  have hts := atoms_spec (ws := wsX8_lay) B.pre
  have hown : s.vm.findClass RX8 = some m.cls := findClass_of_methodNamed B.named
  have hlocks := B.notSynchronized
  have CF : CallFix p m c cX8_lay 5 s ([.ref a0, .int v1] : List Value).toArray wsX8_lay RX8 := ⟨hx, hb, hml, hown, hts⟩
  have C : CX p m c cX8_lay 5 s ([.ref a0, .int v1] : List Value).toArray wsX8_lay RX8 D Y := ⟨CF, hK, hZ⟩
  have hO : HO D Y (fR L sz) s.heap S s.heap [] := HO.entry hsz hJ hP hD0
  subst hsz
  have inX8 : ∀ w ∈ wsX80, w ∈ wsX8_lay := fun w h => List.mem_cons_of_mem _ (List.mem_append_right _ h)
  have hl := lv_entry ([.ref a0, .int v1]) (n := 5) (Nat.le_of_ble_eq_true rfl)
  rw [lg_entry_eq]
  generalize (lg_sl ([.ref a0, .int v1]) ++ List.replicate (5 - (lg_sl ([.ref a0, .int v1])).length) Slot.unset).toArray = ls at hl ⊢
  have hl : lv_has ls 5 [(0, .ref a0), (1, .int v1)] := hl
  unfold wp_X8_lay at h
  refine lv_iconst (v := (nI 0)) hx hb dX8_lay_0 (by decide) ?_
  refine lv_istore_n (lv' := [(2, .int (nI 0)), (0, .ref a0), (1, .int v1)]) hx hb dX8_lay_1 rfl hl (by decide) rfl (fun ls hl => ?_)
  obtain ⟨n26, h⟩ := h
  refine lp_W (nL := 5) (fun q => [(2, .int q.1), (0, .ref a0), (1, .int v1)]) (fun q => q.2) h (lv_sub hl [0, 1, 2] rfl) hO (fun K2 ih2 q ls H locs h hl hO => ?_)
  obtain ⟨i1, S2⟩ := q
  have h : wpb_X8_lay_2 a0 v1 Post K2 i1 S2 := h
  have hl : lv_has ls 5 [(2, .int i1), (0, .ref a0), (1, .int v1)] := hl
  have hO : HO D Y (fR L s.heap.size) s.heap S2 H locs := hO
  unfold wpb_X8_lay_2 at h
  refine lv_iload_n hx hb dX8_lay_2 rfl (lv_at hl 0 rfl) ?_
  refine lv_bipush (v := (nI 12)) hx hb dX8_lay_3 (by decide) ?_
  refine lv_icmp_ge (tgt := 60) hx hb dX8_lay_5 (by decide) (fun c3 => ?_) (fun c3 => ?_)
  · have h := h.1 c3
    exact W.vret hx hb hr (fun t ht hW => ⟨⟨S2, rfl, h, hO.q ht⟩, hO.f ht⟩) hO.lc dX8_lay_60
  · have h := h.2 c3
    refine lv_iload_n hx hb dX8_lay_8 rfl (lv_at hl 0 rfl) ?_
    refine lv_istore_n (lv' := [(3, .int i1), (2, .int i1), (0, .ref a0), (1, .int v1)]) hx hb dX8_lay_9 rfl hl (by decide) rfl (fun ls hl => ?_)
    refine lv_iconst (v := (nI 0)) hx hb dX8_lay_10 (by decide) ?_
    refine lv_istore (lv' := [(4, .int (nI 0)), (3, .int i1), (2, .int i1), (0, .ref a0), (1, .int v1)]) hx hb dX8_lay_11 hl (by decide) rfl (fun ls hl => ?_)
    obtain ⟨n25, h⟩ := h
    refine lp_P (nL := 5) (fun q => [(4, .int q.1), (3, .int q.2), (2, .int i1), (0, .ref a0), (1, .int v1)]) h (lv_sub hl [0, 1, 2, 3, 4] rfl) (fun K13 ih13 q ls h hl => ?_)
    obtain ⟨i4, i5⟩ := q
    have h : wpb_X8_lay_13 a0 v1 i1 S2 K2 K13 i4 i5 := h
    have hl : lv_has ls 5 [(4, .int i4), (3, .int i5), (2, .int i1), (0, .ref a0), (1, .int v1)] := hl
    unfold wpb_X8_lay_13 at h
    refine lv_iload hx hb dX8_lay_13 (lv_at hl 0 rfl) ?_
    refine lv_aload_n hx hb dX8_lay_15 rfl (lv_at hl 3 rfl) ?_
    refine lv_iload_n hx hb dX8_lay_16 rfl (lv_at hl 4 rfl) ?_
    obtain ⟨fs8, e7, h⟩ := h
    refine cV_ri (As := [.int v1]) (rest := [.int i4]) (n := 1) C hO (fun L => c_X8_lengthOf l D Y L S2 H.size a0 v1 _ h) 6 rfl e7 (cwV 1 hts gX8_lay_X8_lengthOf rfl rfl rfl ⟨rfl, hdS_X8_lengthOf⟩ ⟨Nat.le_of_ble_eq_true rfl, Nat.le_of_ble_eq_true rfl⟩) rfl hl.1 rfl (Nat.le_of_ble_eq_true rfl) dX8_lay_17 ⟨Nat.le_of_ble_eq_true rfl, Nat.le_of_ble_eq_true rfl⟩ (fun i6 h => ?_)
    refine lv_icmp_ge (tgt := 42) hx hb dX8_lay_20 (by decide) (fun c9 => ?_) (fun c9 => ?_)
    · have h := h.1 c9
      refine lv_aload_n hx hb dX8_lay_42 rfl (lv_at hl 3 rfl) ?_
      obtain ⟨fs10, a11, e12, e12', h⟩ := h
      refine r_get C hO 6 10 rfl inX8 (Nat.le_of_ble_eq_true rfl) e12 e12' (List.mem_of_getElem? (i := 1) (by decide +kernel)) dX8_lay_43 ?_
      refine lv_bipush (v := (nI 12)) hx hb dX8_lay_46 (by decide) ?_
      refine lv_iload_n hx hb dX8_lay_48 rfl (lv_at hl 4 rfl) ?_
      refine lv_imul hx hb dX8_lay_49 ?_
      refine lv_iload_n hx hb dX8_lay_50 rfl (lv_at hl 2 rfl) ?_
      refine lv_iadd hx hb dX8_lay_51 ?_
      refine lv_iload_n hx hb dX8_lay_52 rfl (lv_at hl 1 rfl) ?_
      obtain ⟨n13, f14, e15, e15', h⟩ := h
      refine r_iast C hO e15 e15' dX8_lay_53 (fun H locs hO => ?_)
      obtain ⟨S16, eS16⟩ : ∃ Sx, Sx = va_up S2 a11 (aI n13 (upd f14 ((((nI 12) * v1) + i1)).toNatClampNeg i5)) := ⟨_, rfl⟩
      rw [← eS16] at hO
      have h := h S16 eS16
      obtain ⟨i17, ei17⟩ : ∃ y : Int32, y = i1 + (nI 1) := ⟨_, rfl⟩
      have h := h i17 ei17
      refine lv_iinc (v := i17) (lv' := [(2, .int i17), (4, .int i4), (3, .int i5), (0, .ref a0), (1, .int v1)]) hx hb dX8_lay_54 hl (k := 2) rfl (by rw [ei17]; rfl) (by decide) rfl (fun ls hl => ?_)
      refine lv_goto (tgt := 2) hx hb dX8_lay_57 (by decide) ?_
      exact ih2 (i17, S16) _ _ _ h (lv_sub hl [0, 3, 4] rfl) hO
    · have h := h.2 c9
      refine lv_aload_n hx hb dX8_lay_23 rfl (lv_at hl 3 rfl) ?_
      refine lv_iload_n hx hb dX8_lay_24 rfl (lv_at hl 1 rfl) ?_
      refine lv_aload_n hx hb dX8_lay_25 rfl (lv_at hl 3 rfl) ?_
      refine lv_iload_n hx hb dX8_lay_26 rfl (lv_at hl 4 rfl) ?_
      refine lv_iload hx hb dX8_lay_27 (lv_at hl 0 rfl) ?_
      obtain ⟨fs20, e19, h⟩ := h
      refine cV_ri (As := [.int v1, .int i4]) (rest := [.int i5, .ref a0]) (n := 2) C hO (fun L => c_X8_pressOf l D Y L S2 H.size a0 v1 i4 _ h) 6 rfl e19 (cwV 2 hts gX8_lay_X8_pressOf rfl rfl rfl ⟨rfl, hdS_X8_pressOf⟩ ⟨Nat.le_of_ble_eq_true rfl, Nat.le_of_ble_eq_true rfl⟩) rfl hl.1 rfl (Nat.le_of_ble_eq_true rfl) dX8_lay_29 ⟨Nat.le_of_ble_eq_true rfl, Nat.le_of_ble_eq_true rfl⟩ (fun i18 h => ?_)
      obtain ⟨fs23, e22, h⟩ := h
      refine cV_ri (As := [.int i5, .int i18]) (rest := []) (n := 2) C hO (fun L => c_X8_pressed l D Y L S2 H.size a0 i5 i18 _ h) 6 rfl e22 (cwV 2 hts gX8_lay_X8_pressed rfl rfl rfl ⟨rfl, hdS_X8_pressed⟩ ⟨Nat.le_of_ble_eq_true rfl, Nat.le_of_ble_eq_true rfl⟩) rfl hl.1 rfl (Nat.le_of_ble_eq_true rfl) dX8_lay_32 ⟨Nat.le_of_ble_eq_true rfl, Nat.le_of_ble_eq_true rfl⟩ (fun i21 h => ?_)
      refine lv_istore_n (lv' := [(3, .int i21), (4, .int i4), (2, .int i1), (0, .ref a0), (1, .int v1)]) hx hb dX8_lay_35 rfl hl (by decide) rfl (fun ls hl => ?_)
      obtain ⟨i24, ei24⟩ : ∃ y : Int32, y = i4 + (nI 1) := ⟨_, rfl⟩
      have h := h i24 ei24
      refine lv_iinc (v := i24) (lv' := [(4, .int i24), (3, .int i21), (2, .int i1), (0, .ref a0), (1, .int v1)]) hx hb dX8_lay_36 hl (k := 1) rfl (by rw [ei24]; rfl) (by decide) rfl (fun ls hl => ?_)
      refine lv_goto (tgt := 13) hx hb dX8_lay_39 (by decide) ?_
      exact ih13 (i24, i21) _ h (lv_sub hl [0, 1, 2, 3, 4] rfl)
theorem hdS_X8_comesBy : yX8_comesBy.cls ≠ "java/lang/invoke/MethodHandle" ∧ yX8_comesBy.cls ≠ "java/lang/invoke/VarHandle" ∧ (parseMethodDescriptor yX8_comesBy.desc).map (fun d => d.parameters.length) = some 2 := by decide +kernel
set_option maxHeartbeats 4000000 in
set_option maxRecDepth 100000 in
theorem c_X8_comesBy (l : Launch) (D : va_G) (Y : Nat → ClassId) (L : List Nat) (S : PS) (sz : Nat) (a0 : Nat) (v1 : Int32) (v2 : Int32) (Post : Int32 → Prop) (h : wp_X8_comesBy S a0 v1 v2 Post) : Met l yX8_comesBy wsX8_comesBy ({ frames := 0, cells := 0, slots := 0, locals := 0 }) (va_Pc [.ref a0, .int v1, .int v2] (PrO D Y L S sz)) (vp_Si Post) 0 0 (fun _ => False) := by
  refine Met.ofW (cc := cX8_comesBy) (maxL := 3) (ret := (some .int)) (by decide) rfl ?_
  intro p e s m args below meth c s₁ B hml hv
  obtain ⟨rfl, hsz, hJ, hP, hK, hD0, hZ⟩ := hv
  have hx := B.exec
  have hb := B.bytes
  have hr := B.returns
  have hts := atoms_spec (ws := wsX8_comesBy) B.pre
  have hown : s.vm.findClass RX8 = some m.cls := findClass_of_methodNamed B.named
  have hlocks := B.notSynchronized
  have CF : CallFix p m c cX8_comesBy 3 s ([.ref a0, .int v1, .int v2] : List Value).toArray wsX8_comesBy RX8 := ⟨hx, hb, hml, hown, hts⟩
  have C : CX p m c cX8_comesBy 3 s ([.ref a0, .int v1, .int v2] : List Value).toArray wsX8_comesBy RX8 D Y := ⟨CF, hK, hZ⟩
  have hO : HO D Y (fR L sz) s.heap S s.heap [] := HO.entry hsz hJ hP hD0
  subst hsz
  have inX8 : ∀ w ∈ wsX80, w ∈ wsX8_comesBy := fun w h => List.mem_cons_of_mem _ (List.mem_append_right _ h)
  have hl := lv_entry ([.ref a0, .int v1, .int v2]) (n := 3) (Nat.le_of_ble_eq_true rfl)
  rw [lg_entry_eq]
  generalize (lg_sl ([.ref a0, .int v1, .int v2]) ++ List.replicate (3 - (lg_sl ([.ref a0, .int v1, .int v2])).length) Slot.unset).toArray = ls at hl ⊢
  have hl : lv_has ls 3 [(0, .ref a0), (1, .int v1), (2, .int v2)] := hl
  unfold wp_X8_comesBy at h
  refine lv_aload_n hx hb dX8_comesBy_0 rfl (lv_at hl 0 rfl) ?_
  obtain ⟨fs1, a2, e3, e3', h⟩ := h
  refine r_get C hO 6 10 rfl inX8 (Nat.le_of_ble_eq_true rfl) e3 e3' (List.mem_of_getElem? (i := 1) (by decide +kernel)) dX8_comesBy_1 ?_
  refine lv_bipush (v := (nI 12)) hx hb dX8_comesBy_4 (by decide) ?_
  refine lv_iload_n hx hb dX8_comesBy_6 rfl (lv_at hl 1 rfl) ?_
  refine lv_imul hx hb dX8_comesBy_7 ?_
  refine lv_iload_n hx hb dX8_comesBy_8 rfl (lv_at hl 2 rfl) ?_
  refine lv_iadd hx hb dX8_comesBy_9 ?_
  obtain ⟨n4, f5, i7, e6, e6', exi7, h⟩ := h
  refine r_iald C hO e6 e6' dX8_comesBy_10 ?_
  rw [exi7]
  exact W.iret hx hb hr (fun t ht hW => ⟨i7, rfl, h, ht⟩) no_locs dX8_comesBy_11
theorem hdS_X8_layAll : yX8_layAll.cls ≠ "java/lang/invoke/MethodHandle" ∧ yX8_layAll.cls ≠ "java/lang/invoke/VarHandle" ∧ (parseMethodDescriptor yX8_layAll.desc).map (fun d => d.parameters.length) = some 0 := by decide +kernel
set_option maxHeartbeats 4000000 in
set_option maxRecDepth 100000 in
theorem c_X8_layAll (l : Launch) (D : va_G) (Y : Nat → ClassId) (L : List Nat) (S : PS) (sz : Nat) (a0 : Nat) (Post : PS → Prop) (h : wp_X8_layAll S a0 Post) : Met l yX8_layAll wsX8_layAll ({ frames := 3, cells := 0, slots := 0, locals := 72 }) (va_Pc [.ref a0] (PrO D Y L S sz)) (va_Qv Post (QtO D Y (fR L sz)) (fR L sz)) 0 0 (fR L sz) := by
  refine Met.ofW (cc := cX8_layAll) (maxL := 2) (ret := none) (by decide) rfl ?_
  intro p e s m args below meth c s₁ B hml hv
  obtain ⟨rfl, hsz, hJ, hP, hK, hD0, hZ⟩ := hv
  have hx := B.exec
  have hb := B.bytes
  have hr := B.returns
  have hts := atoms_spec (ws := wsX8_layAll) B.pre
  have hown : s.vm.findClass RX8 = some m.cls := findClass_of_methodNamed B.named
  have hlocks := B.notSynchronized
  have CF : CallFix p m c cX8_layAll 2 s ([.ref a0] : List Value).toArray wsX8_layAll RX8 := ⟨hx, hb, hml, hown, hts⟩
  have C : CX p m c cX8_layAll 2 s ([.ref a0] : List Value).toArray wsX8_layAll RX8 D Y := ⟨CF, hK, hZ⟩
  have hO : HO D Y (fR L sz) s.heap S s.heap [] := HO.entry hsz hJ hP hD0
  subst hsz
  have hl := lv_entry ([.ref a0]) (n := 2) (Nat.le_of_ble_eq_true rfl)
  rw [lg_entry_eq]
  generalize (lg_sl ([.ref a0]) ++ List.replicate (2 - (lg_sl ([.ref a0])).length) Slot.unset).toArray = ls at hl ⊢
  have hl : lv_has ls 2 [(0, .ref a0)] := hl
  unfold wp_X8_layAll at h
  refine lv_iconst (v := (nI 0)) hx hb dX8_layAll_0 (by decide) ?_
  refine lv_istore_n (lv' := [(1, .int (nI 0)), (0, .ref a0)]) hx hb dX8_layAll_1 rfl hl (by decide) rfl (fun ls hl => ?_)
  obtain ⟨n8, h⟩ := h
  refine lp_W (nL := 2) (fun q => [(1, .int q.1), (0, .ref a0)]) (fun q => q.2) h (lv_sub hl [0, 1] rfl) hO (fun K2 ih2 q ls H locs h hl hO => ?_)
  obtain ⟨i1, S2⟩ := q
  have h : wpb_X8_layAll_2 a0 Post K2 i1 S2 := h
  have hl : lv_has ls 2 [(1, .int i1), (0, .ref a0)] := hl
  have hO : HO D Y (fR L s.heap.size) s.heap S2 H locs := hO
  unfold wpb_X8_layAll_2 at h
  refine lv_iload_n hx hb dX8_layAll_2 rfl (lv_at hl 0 rfl) ?_
  refine lv_bipush (v := (nI 6)) hx hb dX8_layAll_3 (by decide) ?_
  refine lv_icmp_ge (tgt := 19) hx hb dX8_layAll_5 (by decide) (fun c3 => ?_) (fun c3 => ?_)
  · have h := h.1 c3
    exact W.vret hx hb hr (fun t ht hW => ⟨⟨S2, rfl, h, hO.q ht⟩, hO.f ht⟩) hO.lc dX8_layAll_19
  · have h := h.2 c3
    refine lv_aload_n hx hb dX8_layAll_8 rfl (lv_at hl 1 rfl) ?_
    refine lv_iload_n hx hb dX8_layAll_9 rfl (lv_at hl 0 rfl) ?_
    obtain ⟨fs6, e5, h⟩ := h
    refine cV_wv (As := [.int i1]) (rest := []) (n := 1) C hO (fun L => c_X8_lay l D Y L S2 H.size a0 i1 _ h) 6 rfl e5 (cwV 1 hts gX8_layAll_X8_lay rfl rfl rfl ⟨rfl, hdS_X8_lay⟩ ⟨Nat.le_of_ble_eq_true rfl, Nat.le_of_ble_eq_true rfl⟩) rfl hl.1 rfl (Nat.le_of_ble_eq_true rfl) dX8_layAll_10 ⟨Nat.le_of_ble_eq_true rfl, Nat.le_of_ble_eq_true rfl⟩ (fun S4 H locs h hO => ?_)
    obtain ⟨i7, ei7⟩ : ∃ y : Int32, y = i1 + (nI 1) := ⟨_, rfl⟩
    have h := h i7 ei7
    refine lv_iinc (v := i7) (lv' := [(1, .int i7), (0, .ref a0)]) hx hb dX8_layAll_13 hl (k := 0) rfl (by rw [ei7]; rfl) (by decide) rfl (fun ls hl => ?_)
    refine lv_goto (tgt := 2) hx hb dX8_layAll_16 (by decide) ?_
    exact ih2 (i7, S4) _ _ _ h (lv_sub hl [0, 1] rfl) hO
theorem hdS_X8_stays : yX8_stays.cls ≠ "java/lang/invoke/MethodHandle" ∧ yX8_stays.cls ≠ "java/lang/invoke/VarHandle" ∧ (parseMethodDescriptor yX8_stays.desc).map (fun d => d.parameters.length) = some 1 := by decide +kernel
set_option maxHeartbeats 4000000 in
set_option maxRecDepth 100000 in
theorem c_X8_stays (l : Launch) (D : va_G) (Y : Nat → ClassId) (L : List Nat) (S : PS) (sz : Nat) (a0 : Nat) (v1 : Int32) (Post : Int32 → Prop) (h : wp_X8_stays S a0 v1 Post) : Met l yX8_stays wsX8_stays ({ frames := 1, cells := 0, slots := 0, locals := 22 }) (va_Pc [.ref a0, .int v1] (PrO D Y L S sz)) (vp_Si Post) 0 0 (fun _ => False) := by
  refine Met.ofW (cc := cX8_stays) (maxL := 4) (ret := (some .int)) (by decide) rfl ?_
  intro p e s m args below meth c s₁ B hml hv
  obtain ⟨rfl, hsz, hJ, hP, hK, hD0, hZ⟩ := hv
  have hx := B.exec
  have hb := B.bytes
  have hr := B.returns
  have hts := atoms_spec (ws := wsX8_stays) B.pre
  have hown : s.vm.findClass RX8 = some m.cls := findClass_of_methodNamed B.named
  have hlocks := B.notSynchronized
  have CF : CallFix p m c cX8_stays 4 s ([.ref a0, .int v1] : List Value).toArray wsX8_stays RX8 := ⟨hx, hb, hml, hown, hts⟩
  have C : CX p m c cX8_stays 4 s ([.ref a0, .int v1] : List Value).toArray wsX8_stays RX8 D Y := ⟨CF, hK, hZ⟩
  have hO : HO D Y (fR L sz) s.heap S s.heap [] := HO.entry hsz hJ hP hD0
  subst hsz
  have hl := lv_entry ([.ref a0, .int v1]) (n := 4) (Nat.le_of_ble_eq_true rfl)
  rw [lg_entry_eq]
  generalize (lg_sl ([.ref a0, .int v1]) ++ List.replicate (4 - (lg_sl ([.ref a0, .int v1])).length) Slot.unset).toArray = ls at hl ⊢
  have hl : lv_has ls 4 [(0, .ref a0), (1, .int v1)] := hl
  unfold wp_X8_stays at h
  refine lv_iconst (v := (nI 0)) hx hb dX8_stays_0 (by decide) ?_
  refine lv_istore_n (lv' := [(2, .int (nI 0)), (0, .ref a0), (1, .int v1)]) hx hb dX8_stays_1 rfl hl (by decide) rfl (fun ls hl => ?_)
  refine lv_iconst (v := (nI 0)) hx hb dX8_stays_2 (by decide) ?_
  refine lv_istore_n (lv' := [(3, .int (nI 0)), (2, .int (nI 0)), (0, .ref a0), (1, .int v1)]) hx hb dX8_stays_3 rfl hl (by decide) rfl (fun ls hl => ?_)
  obtain ⟨n12, h⟩ := h
  refine lp_P (nL := 4) (fun q => [(3, .int q.1), (2, .int q.2), (0, .ref a0), (1, .int v1)]) h (lv_sub hl [0, 1, 2, 3] rfl) (fun K4 ih4 q ls h hl => ?_)
  obtain ⟨i1, i2⟩ := q
  have h : wpb_X8_stays_4 S a0 v1 Post K4 i1 i2 := h
  have hl : lv_has ls 4 [(3, .int i1), (2, .int i2), (0, .ref a0), (1, .int v1)] := hl
  unfold wpb_X8_stays_4 at h
  refine lv_iload_n hx hb dX8_stays_4 rfl (lv_at hl 0 rfl) ?_
  refine lv_bipush (v := (nI 12)) hx hb dX8_stays_5 (by decide) ?_
  refine lv_icmp_ge (tgt := 36) hx hb dX8_stays_7 (by decide) (fun c3 => ?_) (fun c3 => ?_)
  · have h := h.1 c3
    refine lv_iload_n hx hb dX8_stays_36 rfl (lv_at hl 1 rfl) ?_
    exact W.iret hx hb hr (fun t ht hW => ⟨i2, rfl, h, ht⟩) no_locs dX8_stays_37
  · have h := h.2 c3
    refine lv_iload_n hx hb dX8_stays_10 rfl (lv_at hl 1 rfl) ?_
    refine lv_aload_n hx hb dX8_stays_11 rfl (lv_at hl 2 rfl) ?_
    refine lv_iload_n hx hb dX8_stays_12 rfl (lv_at hl 3 rfl) ?_
    refine lv_iload_n hx hb dX8_stays_13 rfl (lv_at hl 0 rfl) ?_
    obtain ⟨fs6, e5, h⟩ := h
    refine cV_ri (As := [.int v1, .int i1]) (rest := [.int i2]) (n := 2) C hO (fun L => c_X8_comesBy l D Y L S s.heap.size a0 v1 i1 _ h) 6 rfl e5 (cwV 2 hts gX8_stays_X8_comesBy rfl rfl rfl ⟨rfl, hdS_X8_comesBy⟩ ⟨Nat.le_of_ble_eq_true rfl, Nat.le_of_ble_eq_true rfl⟩) rfl hl.1 rfl (Nat.le_of_ble_eq_true rfl) dX8_stays_14 ⟨Nat.le_of_ble_eq_true rfl, Nat.le_of_ble_eq_true rfl⟩ (fun i4 h => ?_)
    refine lv_iload_n hx hb dX8_stays_17 rfl (lv_at hl 0 rfl) ?_
    refine lv_icmp_ne (tgt := 27) hx hb dX8_stays_18 (by decide) (fun c7 => ?_) (fun c7 => ?_)
    · have h := h.2 c7
      refine lv_iconst (v := (nI 0)) hx hb dX8_stays_27 (by decide) ?_
      refine lv_ior hx hb dX8_stays_28 ?_
      refine lv_topi (fun i8 ei8 => ?_)
      have h := h i8 ei8
      refine lv_istore_n (lv' := [(2, .int i8), (3, .int i1), (0, .ref a0), (1, .int v1)]) hx hb dX8_stays_29 rfl hl (by decide) rfl (fun ls hl => ?_)
      obtain ⟨i9, ei9⟩ : ∃ y : Int32, y = i1 + (nI 1) := ⟨_, rfl⟩
      have h := h i9 ei9
      refine lv_iinc (v := i9) (lv' := [(3, .int i9), (2, .int i8), (0, .ref a0), (1, .int v1)]) hx hb dX8_stays_30 hl (k := 1) rfl (by rw [ei9]; rfl) (by decide) rfl (fun ls hl => ?_)
      refine lv_goto (tgt := 4) hx hb dX8_stays_33 (by decide) ?_
      exact ih4 (i9, i8) _ h (lv_sub hl [0, 1, 2, 3] rfl)
    · have h := h.1 c7
      refine lv_iconst (v := (nI 1)) hx hb dX8_stays_21 (by decide) ?_
      refine lv_iload_n hx hb dX8_stays_22 rfl (lv_at hl 0 rfl) ?_
      refine lv_ishl hx hb dX8_stays_23 ?_
      refine lv_goto (tgt := 28) hx hb dX8_stays_24 (by decide) ?_
      refine lv_ior hx hb dX8_stays_28 ?_
      refine lv_topi (fun i10 ei10 => ?_)
      have h := h i10 ei10
      refine lv_istore_n (lv' := [(2, .int i10), (3, .int i1), (0, .ref a0), (1, .int v1)]) hx hb dX8_stays_29 rfl hl (by decide) rfl (fun ls hl => ?_)
      obtain ⟨i11, ei11⟩ : ∃ y : Int32, y = i1 + (nI 1) := ⟨_, rfl⟩
      have h := h i11 ei11
      refine lv_iinc (v := i11) (lv' := [(3, .int i11), (2, .int i10), (0, .ref a0), (1, .int v1)]) hx hb dX8_stays_30 hl (k := 1) rfl (by rw [ei11]; rfl) (by decide) rfl (fun ls hl => ?_)
      refine lv_goto (tgt := 4) hx hb dX8_stays_33 (by decide) ?_
      exact ih4 (i11, i10) _ h (lv_sub hl [0, 1, 2, 3] rfl)
theorem hdS_X8_cycleOf : yX8_cycleOf.cls ≠ "java/lang/invoke/MethodHandle" ∧ yX8_cycleOf.cls ≠ "java/lang/invoke/VarHandle" ∧ (parseMethodDescriptor yX8_cycleOf.desc).map (fun d => d.parameters.length) = some 2 := by decide +kernel
set_option maxHeartbeats 4000000 in
set_option maxRecDepth 100000 in
theorem c_X8_cycleOf (l : Launch) (D : va_G) (Y : Nat → ClassId) (L : List Nat) (S : PS) (sz : Nat) (a0 : Nat) (v1 : Int32) (v2 : Int32) (Post : Int32 → Prop) (h : wp_X8_cycleOf S a0 v1 v2 Post) : Met l yX8_cycleOf wsX8_cycleOf ({ frames := 1, cells := 0, slots := 0, locals := 22 }) (va_Pc [.ref a0, .int v1, .int v2] (PrO D Y L S sz)) (vp_Si Post) 0 0 (fun _ => False) := by
  refine Met.ofW (cc := cX8_cycleOf) (maxL := 5) (ret := (some .int)) (by decide) rfl ?_
  intro p e s m args below meth c s₁ B hml hv
  obtain ⟨rfl, hsz, hJ, hP, hK, hD0, hZ⟩ := hv
  have hx := B.exec
  have hb := B.bytes
  have hr := B.returns
  have hts := atoms_spec (ws := wsX8_cycleOf) B.pre
  have hown : s.vm.findClass RX8 = some m.cls := findClass_of_methodNamed B.named
  have hlocks := B.notSynchronized
  have CF : CallFix p m c cX8_cycleOf 5 s ([.ref a0, .int v1, .int v2] : List Value).toArray wsX8_cycleOf RX8 := ⟨hx, hb, hml, hown, hts⟩
  have C : CX p m c cX8_cycleOf 5 s ([.ref a0, .int v1, .int v2] : List Value).toArray wsX8_cycleOf RX8 D Y := ⟨CF, hK, hZ⟩
  have hO : HO D Y (fR L sz) s.heap S s.heap [] := HO.entry hsz hJ hP hD0
  subst hsz
  have hl := lv_entry ([.ref a0, .int v1, .int v2]) (n := 5) (Nat.le_of_ble_eq_true rfl)
  rw [lg_entry_eq]
  generalize (lg_sl ([.ref a0, .int v1, .int v2]) ++ List.replicate (5 - (lg_sl ([.ref a0, .int v1, .int v2])).length) Slot.unset).toArray = ls at hl ⊢
  have hl : lv_has ls 5 [(0, .ref a0), (1, .int v1), (2, .int v2)] := hl
  unfold wp_X8_cycleOf at h
  refine lv_iconst (v := (nI 1)) hx hb dX8_cycleOf_0 (by decide) ?_
  refine lv_istore_n (lv' := [(3, .int (nI 1)), (0, .ref a0), (1, .int v1), (2, .int v2)]) hx hb dX8_cycleOf_1 rfl hl (by decide) rfl (fun ls hl => ?_)
  refine lv_aload_n hx hb dX8_cycleOf_2 rfl (lv_at hl 1 rfl) ?_
  refine lv_iload_n hx hb dX8_cycleOf_3 rfl (lv_at hl 2 rfl) ?_
  refine lv_iload_n hx hb dX8_cycleOf_4 rfl (lv_at hl 3 rfl) ?_
  obtain ⟨fs3, e2, h⟩ := h
  refine cV_ri (As := [.int v1, .int v2]) (rest := []) (n := 2) C hO (fun L => c_X8_comesBy l D Y L S s.heap.size a0 v1 v2 _ h) 6 rfl e2 (cwV 2 hts gX8_cycleOf_X8_comesBy rfl rfl rfl ⟨rfl, hdS_X8_comesBy⟩ ⟨Nat.le_of_ble_eq_true rfl, Nat.le_of_ble_eq_true rfl⟩) rfl hl.1 rfl (Nat.le_of_ble_eq_true rfl) dX8_cycleOf_5 ⟨Nat.le_of_ble_eq_true rfl, Nat.le_of_ble_eq_true rfl⟩ (fun i1 h => ?_)
  refine lv_istore (lv' := [(4, .int i1), (3, .int (nI 1)), (0, .ref a0), (1, .int v1), (2, .int v2)]) hx hb dX8_cycleOf_8 hl (by decide) rfl (fun ls hl => ?_)
  obtain ⟨n11, h⟩ := h
  refine lp_P (nL := 5) (fun q => [(4, .int q.1), (3, .int q.2), (0, .ref a0), (1, .int v1), (2, .int v2)]) h (lv_sub hl [0, 1, 2, 3, 4] rfl) (fun K10 ih10 q ls h hl => ?_)
  obtain ⟨i4, i5⟩ := q
  have h : wpb_X8_cycleOf_10 S a0 v1 v2 Post K10 i4 i5 := h
  have hl : lv_has ls 5 [(4, .int i4), (3, .int i5), (0, .ref a0), (1, .int v1), (2, .int v2)] := hl
  unfold wpb_X8_cycleOf_10 at h
  refine lv_iload hx hb dX8_cycleOf_10 (lv_at hl 0 rfl) ?_
  refine lv_iload_n hx hb dX8_cycleOf_12 rfl (lv_at hl 4 rfl) ?_
  refine lv_icmp_eq (tgt := 31) hx hb dX8_cycleOf_13 (by decide) (fun c6 => ?_) (fun c6 => ?_)
  · have h := h.1 c6
    refine lv_iload_n hx hb dX8_cycleOf_31 rfl (lv_at hl 1 rfl) ?_
    exact W.iret hx hb hr (fun t ht hW => ⟨i5, rfl, h, ht⟩) no_locs dX8_cycleOf_32
  · have h := h.2 c6
    obtain ⟨i7, ei7⟩ : ∃ y : Int32, y = i5 + (nI 1) := ⟨_, rfl⟩
    have h := h i7 ei7
    refine lv_iinc (v := i7) (lv' := [(3, .int i7), (4, .int i4), (0, .ref a0), (1, .int v1), (2, .int v2)]) hx hb dX8_cycleOf_16 hl (k := 1) rfl (by rw [ei7]; rfl) (by decide) rfl (fun ls hl => ?_)
    refine lv_aload_n hx hb dX8_cycleOf_19 rfl (lv_at hl 2 rfl) ?_
    refine lv_iload_n hx hb dX8_cycleOf_20 rfl (lv_at hl 3 rfl) ?_
    refine lv_iload hx hb dX8_cycleOf_21 (lv_at hl 1 rfl) ?_
    obtain ⟨fs10, e9, h⟩ := h
    refine cV_ri (As := [.int v1, .int i4]) (rest := []) (n := 2) C hO (fun L => c_X8_comesBy l D Y L S s.heap.size a0 v1 i4 _ h) 6 rfl e9 (cwV 2 hts gX8_cycleOf_X8_comesBy rfl rfl rfl ⟨rfl, hdS_X8_comesBy⟩ ⟨Nat.le_of_ble_eq_true rfl, Nat.le_of_ble_eq_true rfl⟩) rfl hl.1 rfl (Nat.le_of_ble_eq_true rfl) dX8_cycleOf_23 ⟨Nat.le_of_ble_eq_true rfl, Nat.le_of_ble_eq_true rfl⟩ (fun i8 h => ?_)
    refine lv_istore (lv' := [(4, .int i8), (3, .int i7), (0, .ref a0), (1, .int v1), (2, .int v2)]) hx hb dX8_cycleOf_26 hl (by decide) rfl (fun ls hl => ?_)
    refine lv_goto (tgt := 10) hx hb dX8_cycleOf_28 (by decide) ?_
    exact ih10 (i8, i7) _ h (lv_sub hl [0, 1, 2, 3, 4] rfl)
theorem hdS_X8_orderOf : yX8_orderOf.cls ≠ "java/lang/invoke/MethodHandle" ∧ yX8_orderOf.cls ≠ "java/lang/invoke/VarHandle" ∧ (parseMethodDescriptor yX8_orderOf.desc).map (fun d => d.parameters.length) = some 1 := by decide +kernel
set_option maxHeartbeats 4000000 in
set_option maxRecDepth 100000 in
theorem c_X8_orderOf (l : Launch) (D : va_G) (Y : Nat → ClassId) (L : List Nat) (S : PS) (sz : Nat) (a0 : Nat) (v1 : Int32) (Post : Int32 → Prop) (h : wp_X8_orderOf S a0 v1 Post) : Met l yX8_orderOf wsX8_orderOf ({ frames := 2, cells := 0, slots := 0, locals := 46 }) (va_Pc [.ref a0, .int v1] (PrO D Y L S sz)) (vp_Si Post) 0 0 (fun _ => False) := by
  refine Met.ofW (cc := cX8_orderOf) (maxL := 5) (ret := (some .int)) (by decide) rfl ?_
  intro p e s m args below meth c s₁ B hml hv
  obtain ⟨rfl, hsz, hJ, hP, hK, hD0, hZ⟩ := hv
  have hx := B.exec
  have hb := B.bytes
  have hr := B.returns
  have hts := atoms_spec (ws := wsX8_orderOf) B.pre
  have hown : s.vm.findClass RX8 = some m.cls := findClass_of_methodNamed B.named
  have hlocks := B.notSynchronized
  have CF : CallFix p m c cX8_orderOf 5 s ([.ref a0, .int v1] : List Value).toArray wsX8_orderOf RX8 := ⟨hx, hb, hml, hown, hts⟩
  have C : CX p m c cX8_orderOf 5 s ([.ref a0, .int v1] : List Value).toArray wsX8_orderOf RX8 D Y := ⟨CF, hK, hZ⟩
  have hO : HO D Y (fR L sz) s.heap S s.heap [] := HO.entry hsz hJ hP hD0
  subst hsz
  have hl := lv_entry ([.ref a0, .int v1]) (n := 5) (Nat.le_of_ble_eq_true rfl)
  rw [lg_entry_eq]
  generalize (lg_sl ([.ref a0, .int v1]) ++ List.replicate (5 - (lg_sl ([.ref a0, .int v1])).length) Slot.unset).toArray = ls at hl ⊢
  have hl : lv_has ls 5 [(0, .ref a0), (1, .int v1)] := hl
  unfold wp_X8_orderOf at h
  refine lv_iconst (v := (nI 0)) hx hb dX8_orderOf_0 (by decide) ?_
  refine lv_istore_n (lv' := [(2, .int (nI 0)), (0, .ref a0), (1, .int v1)]) hx hb dX8_orderOf_1 rfl hl (by decide) rfl (fun ls hl => ?_)
  refine lv_iconst (v := (nI 0)) hx hb dX8_orderOf_2 (by decide) ?_
  refine lv_istore_n (lv' := [(3, .int (nI 0)), (2, .int (nI 0)), (0, .ref a0), (1, .int v1)]) hx hb dX8_orderOf_3 rfl hl (by decide) rfl (fun ls hl => ?_)
  obtain ⟨n18, h⟩ := h
  refine lp_P (nL := 5) (fun q => [(3, .int q.1), (2, .int q.2), (0, .ref a0), (1, .int v1)]) h (lv_sub hl [0, 1, 2, 3] rfl) (fun K4 ih4 q ls h hl => ?_)
  obtain ⟨i1, i2⟩ := q
  have h : wpb_X8_orderOf_4 S a0 v1 Post K4 i1 i2 := h
  have hl : lv_has ls 5 [(3, .int i1), (2, .int i2), (0, .ref a0), (1, .int v1)] := hl
  unfold wpb_X8_orderOf_4 at h
  refine lv_iload_n hx hb dX8_orderOf_4 rfl (lv_at hl 0 rfl) ?_
  refine lv_if_ne (tgt := 54) hx hb dX8_orderOf_5 (by decide) (fun c3 => ?_) (fun c3 => ?_)
  · have h := h.2 c3
    refine lv_iload_n hx hb dX8_orderOf_54 rfl (lv_at hl 1 rfl) ?_
    exact W.iret hx hb hr (fun t ht hW => ⟨i2, rfl, h, ht⟩) no_locs dX8_orderOf_55
  · have h := h.1 c3
    obtain ⟨i4, ei4⟩ : ∃ y : Int32, y = i2 + (nI 1) := ⟨_, rfl⟩
    have h := h i4 ei4
    refine lv_iinc (v := i4) (lv' := [(2, .int i4), (3, .int i1), (0, .ref a0), (1, .int v1)]) hx hb dX8_orderOf_8 hl (k := 1) rfl (by rw [ei4]; rfl) (by decide) rfl (fun ls hl => ?_)
    refine lv_iconst (v := (nI 1)) hx hb dX8_orderOf_11 (by decide) ?_
    refine lv_istore_n (lv' := [(3, .int (nI 1)), (2, .int i4), (0, .ref a0), (1, .int v1)]) hx hb dX8_orderOf_12 rfl hl (by decide) rfl (fun ls hl => ?_)
    refine lv_iconst (v := (nI 0)) hx hb dX8_orderOf_13 (by decide) ?_
    refine lv_istore (lv' := [(4, .int (nI 0)), (3, .int (nI 1)), (2, .int i4), (0, .ref a0), (1, .int v1)]) hx hb dX8_orderOf_14 hl (by decide) rfl (fun ls hl => ?_)
    obtain ⟨n17, h⟩ := h
    refine lp_P (nL := 5) (fun q => [(4, .int q.1), (3, .int q.2), (2, .int i4), (0, .ref a0), (1, .int v1)]) h (lv_sub hl [0, 1, 2, 3, 4] rfl) (fun K16 ih16 q ls h hl => ?_)
    obtain ⟨i5, i6⟩ := q
    have h : wpb_X8_orderOf_16 S a0 v1 i4 K4 K16 i5 i6 := h
    have hl : lv_has ls 5 [(4, .int i5), (3, .int i6), (2, .int i4), (0, .ref a0), (1, .int v1)] := hl
    unfold wpb_X8_orderOf_16 at h
    refine lv_iload hx hb dX8_orderOf_16 (lv_at hl 0 rfl) ?_
    refine lv_bipush (v := (nI 12)) hx hb dX8_orderOf_18 (by decide) ?_
    refine lv_icmp_ge (tgt := 51) hx hb dX8_orderOf_20 (by decide) (fun c7 => ?_) (fun c7 => ?_)
    · have h := h.1 c7
      refine lv_goto (tgt := 4) hx hb dX8_orderOf_51 (by decide) ?_
      exact ih4 (i6, i4) _ h (lv_sub hl [1, 2, 3, 4] rfl)
    · have h := h.2 c7
      refine lv_iload_n hx hb dX8_orderOf_23 rfl (lv_at hl 1 rfl) ?_
      refine lv_if_eq (tgt := 43) hx hb dX8_orderOf_24 (by decide) (fun c8 => ?_) (fun c8 => ?_)
      · have h := h.1 c8
        refine lv_iconst (v := (nI 0)) hx hb dX8_orderOf_43 (by decide) ?_
        refine lv_istore_n (lv' := [(3, .int (nI 0)), (4, .int i5), (2, .int i4), (0, .ref a0), (1, .int v1)]) hx hb dX8_orderOf_44 rfl hl (by decide) rfl (fun ls hl => ?_)
        obtain ⟨i9, ei9⟩ : ∃ y : Int32, y = i5 + (nI 1) := ⟨_, rfl⟩
        have h := h i9 ei9
        refine lv_iinc (v := i9) (lv' := [(4, .int i9), (3, .int (nI 0)), (2, .int i4), (0, .ref a0), (1, .int v1)]) hx hb dX8_orderOf_45 hl (k := 1) rfl (by rw [ei9]; rfl) (by decide) rfl (fun ls hl => ?_)
        refine lv_goto (tgt := 16) hx hb dX8_orderOf_48 (by decide) ?_
        exact ih16 (i9, (nI 0)) _ h (lv_sub hl [0, 1, 2, 3, 4] rfl)
      · have h := h.2 c8
        refine lv_iload_n hx hb dX8_orderOf_27 rfl (lv_at hl 2 rfl) ?_
        refine lv_aload_n hx hb dX8_orderOf_28 rfl (lv_at hl 3 rfl) ?_
        refine lv_iload_n hx hb dX8_orderOf_29 rfl (lv_at hl 4 rfl) ?_
        refine lv_iload hx hb dX8_orderOf_30 (lv_at hl 0 rfl) ?_
        obtain ⟨fs12, e11, h⟩ := h
        refine cV_ri (As := [.int v1, .int i5]) (rest := [.int i4]) (n := 2) C hO (fun L => c_X8_cycleOf l D Y L S s.heap.size a0 v1 i5 _ h) 6 rfl e11 (cwV 2 hts gX8_orderOf_X8_cycleOf rfl rfl rfl ⟨rfl, hdS_X8_cycleOf⟩ ⟨Nat.le_of_ble_eq_true rfl, Nat.le_of_ble_eq_true rfl⟩) rfl hl.1 rfl (Nat.le_of_ble_eq_true rfl) dX8_orderOf_32 ⟨Nat.le_of_ble_eq_true rfl, Nat.le_of_ble_eq_true rfl⟩ (fun i10 h => ?_)
        obtain ⟨g13, h⟩ := h
        refine lv_irem hx hb dX8_orderOf_35 g13 ?_
        refine lv_if_ne (tgt := 43) hx hb dX8_orderOf_36 (by decide) (fun c14 => ?_) (fun c14 => ?_)
        · have h := h.2 c14
          refine lv_iconst (v := (nI 0)) hx hb dX8_orderOf_43 (by decide) ?_
          refine lv_istore_n (lv' := [(3, .int (nI 0)), (4, .int i5), (2, .int i4), (0, .ref a0), (1, .int v1)]) hx hb dX8_orderOf_44 rfl hl (by decide) rfl (fun ls hl => ?_)
          obtain ⟨i15, ei15⟩ : ∃ y : Int32, y = i5 + (nI 1) := ⟨_, rfl⟩
          have h := h i15 ei15
          refine lv_iinc (v := i15) (lv' := [(4, .int i15), (3, .int (nI 0)), (2, .int i4), (0, .ref a0), (1, .int v1)]) hx hb dX8_orderOf_45 hl (k := 1) rfl (by rw [ei15]; rfl) (by decide) rfl (fun ls hl => ?_)
          refine lv_goto (tgt := 16) hx hb dX8_orderOf_48 (by decide) ?_
          exact ih16 (i15, (nI 0)) _ h (lv_sub hl [0, 1, 2, 3, 4] rfl)
        · have h := h.1 c14
          refine lv_iconst (v := (nI 1)) hx hb dX8_orderOf_39 (by decide) ?_
          refine lv_goto (tgt := 44) hx hb dX8_orderOf_40 (by decide) ?_
          refine lv_istore_n (lv' := [(3, .int (nI 1)), (4, .int i5), (2, .int i4), (0, .ref a0), (1, .int v1)]) hx hb dX8_orderOf_44 rfl hl (by decide) rfl (fun ls hl => ?_)
          obtain ⟨i16, ei16⟩ : ∃ y : Int32, y = i5 + (nI 1) := ⟨_, rfl⟩
          have h := h i16 ei16
          refine lv_iinc (v := i16) (lv' := [(4, .int i16), (3, .int (nI 1)), (2, .int i4), (0, .ref a0), (1, .int v1)]) hx hb dX8_orderOf_45 hl (k := 1) rfl (by rw [ei16]; rfl) (by decide) rfl (fun ls hl => ?_)
          refine lv_goto (tgt := 16) hx hb dX8_orderOf_48 (by decide) ?_
          exact ih16 (i16, (nI 1)) _ h (lv_sub hl [0, 1, 2, 3, 4] rfl)
theorem hdS_X8_cycles : yX8_cycles.cls ≠ "java/lang/invoke/MethodHandle" ∧ yX8_cycles.cls ≠ "java/lang/invoke/VarHandle" ∧ (parseMethodDescriptor yX8_cycles.desc).map (fun d => d.parameters.length) = some 1 := by decide +kernel
set_option maxHeartbeats 4000000 in
set_option maxRecDepth 100000 in
theorem c_X8_cycles (l : Launch) (D : va_G) (Y : Nat → ClassId) (L : List Nat) (S : PS) (sz : Nat) (a0 : Nat) (v1 : Int32) (Post : Int32 → Prop) (h : wp_X8_cycles S a0 v1 Post) : Met l yX8_cycles wsX8_cycles ({ frames := 2, cells := 0, slots := 0, locals := 46 }) (va_Pc [.ref a0, .int v1] (PrO D Y L S sz)) (vp_Si Post) 0 0 (fun _ => False) := by
  refine Met.ofW (cc := cX8_cycles) (maxL := 6) (ret := (some .int)) (by decide) rfl ?_
  intro p e s m args below meth c s₁ B hml hv
  obtain ⟨rfl, hsz, hJ, hP, hK, hD0, hZ⟩ := hv
  have hx := B.exec
  have hb := B.bytes
  have hr := B.returns
  have hts := atoms_spec (ws := wsX8_cycles) B.pre
  have hown : s.vm.findClass RX8 = some m.cls := findClass_of_methodNamed B.named
  have hlocks := B.notSynchronized
  have CF : CallFix p m c cX8_cycles 6 s ([.ref a0, .int v1] : List Value).toArray wsX8_cycles RX8 := ⟨hx, hb, hml, hown, hts⟩
  have C : CX p m c cX8_cycles 6 s ([.ref a0, .int v1] : List Value).toArray wsX8_cycles RX8 D Y := ⟨CF, hK, hZ⟩
  have hO : HO D Y (fR L sz) s.heap S s.heap [] := HO.entry hsz hJ hP hD0
  subst hsz
  have hl := lv_entry ([.ref a0, .int v1]) (n := 6) (Nat.le_of_ble_eq_true rfl)
  rw [lg_entry_eq]
  generalize (lg_sl ([.ref a0, .int v1]) ++ List.replicate (6 - (lg_sl ([.ref a0, .int v1])).length) Slot.unset).toArray = ls at hl ⊢
  have hl : lv_has ls 6 [(0, .ref a0), (1, .int v1)] := hl
  unfold wp_X8_cycles at h
  refine lv_iconst (v := (nI 0)) hx hb dX8_cycles_0 (by decide) ?_
  refine lv_istore_n (lv' := [(2, .int (nI 0)), (0, .ref a0), (1, .int v1)]) hx hb dX8_cycles_1 rfl hl (by decide) rfl (fun ls hl => ?_)
  refine lv_iconst (v := (nI 2)) hx hb dX8_cycles_2 (by decide) ?_
  refine lv_istore_n (lv' := [(3, .int (nI 2)), (2, .int (nI 0)), (0, .ref a0), (1, .int v1)]) hx hb dX8_cycles_3 rfl hl (by decide) rfl (fun ls hl => ?_)
  obtain ⟨n19, h⟩ := h
  refine lp_P (nL := 6) (fun q => [(3, .int q.1), (2, .int q.2), (0, .ref a0), (1, .int v1)]) h (lv_sub hl [0, 1, 2, 3] rfl) (fun K4 ih4 q ls h hl => ?_)
  obtain ⟨i1, i2⟩ := q
  have h : wpb_X8_cycles_4 S a0 v1 Post K4 i1 i2 := h
  have hl : lv_has ls 6 [(3, .int i1), (2, .int i2), (0, .ref a0), (1, .int v1)] := hl
  unfold wpb_X8_cycles_4 at h
  refine lv_iload_n hx hb dX8_cycles_4 rfl (lv_at hl 0 rfl) ?_
  refine lv_bipush (v := (nI 12)) hx hb dX8_cycles_5 (by decide) ?_
  refine lv_icmp_gt (tgt := 63) hx hb dX8_cycles_7 (by decide) (fun c3 => ?_) (fun c3 => ?_)
  · have h := h.1 c3
    refine lv_iload_n hx hb dX8_cycles_63 rfl (lv_at hl 1 rfl) ?_
    exact W.iret hx hb hr (fun t ht hW => ⟨i2, rfl, h, ht⟩) no_locs dX8_cycles_64
  · have h := h.2 c3
    refine lv_iconst (v := (nI 0)) hx hb dX8_cycles_10 (by decide) ?_
    refine lv_istore (lv' := [(4, .int (nI 0)), (3, .int i1), (2, .int i2), (0, .ref a0), (1, .int v1)]) hx hb dX8_cycles_11 hl (by decide) rfl (fun ls hl => ?_)
    refine lv_iconst (v := (nI 0)) hx hb dX8_cycles_13 (by decide) ?_
    refine lv_istore (lv' := [(5, .int (nI 0)), (4, .int (nI 0)), (3, .int i1), (2, .int i2), (0, .ref a0), (1, .int v1)]) hx hb dX8_cycles_14 hl (by decide) rfl (fun ls hl => ?_)
    obtain ⟨n18, h⟩ := h
    refine lp_P (nL := 6) (fun q => [(5, .int q.1), (4, .int q.2), (3, .int i1), (2, .int i2), (0, .ref a0), (1, .int v1)]) h (lv_sub hl [0, 1, 2, 3, 4, 5] rfl) (fun K16 ih16 q ls h hl => ?_)
    obtain ⟨i4, i5⟩ := q
    have h : wpb_X8_cycles_16 S a0 v1 i1 i2 K4 K16 i4 i5 := h
    have hl : lv_has ls 6 [(5, .int i4), (4, .int i5), (3, .int i1), (2, .int i2), (0, .ref a0), (1, .int v1)] := hl
    unfold wpb_X8_cycles_16 at h
    refine lv_iload hx hb dX8_cycles_16 (lv_at hl 0 rfl) ?_
    refine lv_bipush (v := (nI 12)) hx hb dX8_cycles_18 (by decide) ?_
    refine lv_icmp_ge (tgt := 50) hx hb dX8_cycles_20 (by decide) (fun c6 => ?_) (fun c6 => ?_)
    · have h := h.1 c6
      refine lv_iload_n hx hb dX8_cycles_50 rfl (lv_at hl 3 rfl) ?_
      refine lv_iload hx hb dX8_cycles_51 (lv_at hl 1 rfl) ?_
      refine lv_iload_n hx hb dX8_cycles_53 rfl (lv_at hl 2 rfl) ?_
      obtain ⟨g7, h⟩ := h
      refine lv_idiv hx hb dX8_cycles_54 g7 ?_
      refine lv_iadd hx hb dX8_cycles_55 ?_
      refine lv_topi (fun i8 ei8 => ?_)
      have h := h i8 ei8
      refine lv_istore_n (lv' := [(2, .int i8), (5, .int i4), (4, .int i5), (3, .int i1), (0, .ref a0), (1, .int v1)]) hx hb dX8_cycles_56 rfl hl (by decide) rfl (fun ls hl => ?_)
      obtain ⟨i9, ei9⟩ : ∃ y : Int32, y = i1 + (nI 1) := ⟨_, rfl⟩
      have h := h i9 ei9
      refine lv_iinc (v := i9) (lv' := [(3, .int i9), (2, .int i8), (5, .int i4), (4, .int i5), (0, .ref a0), (1, .int v1)]) hx hb dX8_cycles_57 hl (k := 3) rfl (by rw [ei9]; rfl) (by decide) rfl (fun ls hl => ?_)
      refine lv_goto (tgt := 4) hx hb dX8_cycles_60 (by decide) ?_
      exact ih4 (i9, i8) _ h (lv_sub hl [0, 1, 4, 5] rfl)
    · have h := h.2 c6
      refine lv_iload hx hb dX8_cycles_23 (lv_at hl 1 rfl) ?_
      refine lv_aload_n hx hb dX8_cycles_25 rfl (lv_at hl 4 rfl) ?_
      refine lv_iload_n hx hb dX8_cycles_26 rfl (lv_at hl 5 rfl) ?_
      refine lv_iload hx hb dX8_cycles_27 (lv_at hl 0 rfl) ?_
      obtain ⟨fs12, e11, h⟩ := h
      refine cV_ri (As := [.int v1, .int i4]) (rest := [.int i5]) (n := 2) C hO (fun L => c_X8_cycleOf l D Y L S s.heap.size a0 v1 i4 _ h) 6 rfl e11 (cwV 2 hts gX8_cycles_X8_cycleOf rfl rfl rfl ⟨rfl, hdS_X8_cycleOf⟩ ⟨Nat.le_of_ble_eq_true rfl, Nat.le_of_ble_eq_true rfl⟩) rfl hl.1 rfl (Nat.le_of_ble_eq_true rfl) dX8_cycles_29 ⟨Nat.le_of_ble_eq_true rfl, Nat.le_of_ble_eq_true rfl⟩ (fun i10 h => ?_)
      refine lv_iload_n hx hb dX8_cycles_32 rfl (lv_at hl 2 rfl) ?_
      refine lv_icmp_ne (tgt := 40) hx hb dX8_cycles_33 (by decide) (fun c13 => ?_) (fun c13 => ?_)
      · have h := h.2 c13
        refine lv_iconst (v := (nI 0)) hx hb dX8_cycles_40 (by decide) ?_
        refine lv_iadd hx hb dX8_cycles_41 ?_
        refine lv_topi (fun i14 ei14 => ?_)
        have h := h i14 ei14
        refine lv_istore (lv' := [(4, .int i14), (5, .int i4), (3, .int i1), (2, .int i2), (0, .ref a0), (1, .int v1)]) hx hb dX8_cycles_42 hl (by decide) rfl (fun ls hl => ?_)
        obtain ⟨i15, ei15⟩ : ∃ y : Int32, y = i4 + (nI 1) := ⟨_, rfl⟩
        have h := h i15 ei15
        refine lv_iinc (v := i15) (lv' := [(5, .int i15), (4, .int i14), (3, .int i1), (2, .int i2), (0, .ref a0), (1, .int v1)]) hx hb dX8_cycles_44 hl (k := 1) rfl (by rw [ei15]; rfl) (by decide) rfl (fun ls hl => ?_)
        refine lv_goto (tgt := 16) hx hb dX8_cycles_47 (by decide) ?_
        exact ih16 (i15, i14) _ h (lv_sub hl [0, 1, 2, 3, 4, 5] rfl)
      · have h := h.1 c13
        refine lv_iconst (v := (nI 1)) hx hb dX8_cycles_36 (by decide) ?_
        refine lv_goto (tgt := 41) hx hb dX8_cycles_37 (by decide) ?_
        refine lv_iadd hx hb dX8_cycles_41 ?_
        refine lv_topi (fun i16 ei16 => ?_)
        have h := h i16 ei16
        refine lv_istore (lv' := [(4, .int i16), (5, .int i4), (3, .int i1), (2, .int i2), (0, .ref a0), (1, .int v1)]) hx hb dX8_cycles_42 hl (by decide) rfl (fun ls hl => ?_)
        obtain ⟨i17, ei17⟩ : ∃ y : Int32, y = i4 + (nI 1) := ⟨_, rfl⟩
        have h := h i17 ei17
        refine lv_iinc (v := i17) (lv' := [(5, .int i17), (4, .int i16), (3, .int i1), (2, .int i2), (0, .ref a0), (1, .int v1)]) hx hb dX8_cycles_44 hl (k := 1) rfl (by rw [ei17]; rfl) (by decide) rfl (fun ls hl => ?_)
        refine lv_goto (tgt := 16) hx hb dX8_cycles_47 (by decide) ?_
        exact ih16 (i17, i16) _ h (lv_sub hl [0, 1, 2, 3, 4, 5] rfl)
theorem hdS_X8_longest : yX8_longest.cls ≠ "java/lang/invoke/MethodHandle" ∧ yX8_longest.cls ≠ "java/lang/invoke/VarHandle" ∧ (parseMethodDescriptor yX8_longest.desc).map (fun d => d.parameters.length) = some 1 := by decide +kernel
set_option maxHeartbeats 4000000 in
set_option maxRecDepth 100000 in
theorem c_X8_longest (l : Launch) (D : va_G) (Y : Nat → ClassId) (L : List Nat) (S : PS) (sz : Nat) (a0 : Nat) (v1 : Int32) (Post : Int32 → Prop) (h : wp_X8_longest S a0 v1 Post) : Met l yX8_longest wsX8_longest ({ frames := 2, cells := 0, slots := 0, locals := 46 }) (va_Pc [.ref a0, .int v1] (PrO D Y L S sz)) (vp_Si Post) 0 0 (fun _ => False) := by
  refine Met.ofW (cc := cX8_longest) (maxL := 4) (ret := (some .int)) (by decide) rfl ?_
  intro p e s m args below meth c s₁ B hml hv
  obtain ⟨rfl, hsz, hJ, hP, hK, hD0, hZ⟩ := hv
  have hx := B.exec
  have hb := B.bytes
  have hr := B.returns
  have hts := atoms_spec (ws := wsX8_longest) B.pre
  have hown : s.vm.findClass RX8 = some m.cls := findClass_of_methodNamed B.named
  have hlocks := B.notSynchronized
  have CF : CallFix p m c cX8_longest 4 s ([.ref a0, .int v1] : List Value).toArray wsX8_longest RX8 := ⟨hx, hb, hml, hown, hts⟩
  have C : CX p m c cX8_longest 4 s ([.ref a0, .int v1] : List Value).toArray wsX8_longest RX8 D Y := ⟨CF, hK, hZ⟩
  have hO : HO D Y (fR L sz) s.heap S s.heap [] := HO.entry hsz hJ hP hD0
  subst hsz
  have hl := lv_entry ([.ref a0, .int v1]) (n := 4) (Nat.le_of_ble_eq_true rfl)
  rw [lg_entry_eq]
  generalize (lg_sl ([.ref a0, .int v1]) ++ List.replicate (4 - (lg_sl ([.ref a0, .int v1])).length) Slot.unset).toArray = ls at hl ⊢
  have hl : lv_has ls 4 [(0, .ref a0), (1, .int v1)] := hl
  unfold wp_X8_longest at h
  refine lv_iconst (v := (nI 0)) hx hb dX8_longest_0 (by decide) ?_
  refine lv_istore_n (lv' := [(2, .int (nI 0)), (0, .ref a0), (1, .int v1)]) hx hb dX8_longest_1 rfl hl (by decide) rfl (fun ls hl => ?_)
  refine lv_iconst (v := (nI 0)) hx hb dX8_longest_2 (by decide) ?_
  refine lv_istore_n (lv' := [(3, .int (nI 0)), (2, .int (nI 0)), (0, .ref a0), (1, .int v1)]) hx hb dX8_longest_3 rfl hl (by decide) rfl (fun ls hl => ?_)
  obtain ⟨n14, h⟩ := h
  refine lp_P (nL := 4) (fun q => [(3, .int q.1), (2, .int q.2), (0, .ref a0), (1, .int v1)]) h (lv_sub hl [0, 1, 2, 3] rfl) (fun K4 ih4 q ls h hl => ?_)
  obtain ⟨i1, i2⟩ := q
  have h : wpb_X8_longest_4 S a0 v1 Post K4 i1 i2 := h
  have hl : lv_has ls 4 [(3, .int i1), (2, .int i2), (0, .ref a0), (1, .int v1)] := hl
  unfold wpb_X8_longest_4 at h
  refine lv_iload_n hx hb dX8_longest_4 rfl (lv_at hl 0 rfl) ?_
  refine lv_bipush (v := (nI 12)) hx hb dX8_longest_5 (by decide) ?_
  refine lv_icmp_ge (tgt := 37) hx hb dX8_longest_7 (by decide) (fun c3 => ?_) (fun c3 => ?_)
  · have h := h.1 c3
    refine lv_iload_n hx hb dX8_longest_37 rfl (lv_at hl 1 rfl) ?_
    refine lv_iconst (v := (nI 1)) hx hb dX8_longest_38 (by decide) ?_
    refine lv_icmp_le (tgt := 46) hx hb dX8_longest_39 (by decide) (fun c4 => ?_) (fun c4 => ?_)
    · have h := h.1 c4
      refine lv_iconst (v := (nI 0)) hx hb dX8_longest_46 (by decide) ?_
      exact W.iret hx hb hr (fun t ht hW => ⟨(nI 0), rfl, h, ht⟩) no_locs dX8_longest_47
    · have h := h.2 c4
      refine lv_iload_n hx hb dX8_longest_42 rfl (lv_at hl 1 rfl) ?_
      refine lv_goto (tgt := 47) hx hb dX8_longest_43 (by decide) ?_
      exact W.iret hx hb hr (fun t ht hW => ⟨i2, rfl, h, ht⟩) no_locs dX8_longest_47
  · have h := h.2 c3
    refine lv_aload_n hx hb dX8_longest_10 rfl (lv_at hl 2 rfl) ?_
    refine lv_iload_n hx hb dX8_longest_11 rfl (lv_at hl 3 rfl) ?_
    refine lv_iload_n hx hb dX8_longest_12 rfl (lv_at hl 0 rfl) ?_
    obtain ⟨fs7, e6, h⟩ := h
    refine cV_ri (As := [.int v1, .int i1]) (rest := []) (n := 2) C hO (fun L => c_X8_cycleOf l D Y L S s.heap.size a0 v1 i1 _ h) 6 rfl e6 (cwV 2 hts gX8_longest_X8_cycleOf rfl rfl rfl ⟨rfl, hdS_X8_cycleOf⟩ ⟨Nat.le_of_ble_eq_true rfl, Nat.le_of_ble_eq_true rfl⟩) rfl hl.1 rfl (Nat.le_of_ble_eq_true rfl) dX8_longest_13 ⟨Nat.le_of_ble_eq_true rfl, Nat.le_of_ble_eq_true rfl⟩ (fun i5 h => ?_)
    refine lv_iload_n hx hb dX8_longest_16 rfl (lv_at hl 1 rfl) ?_
    refine lv_icmp_le (tgt := 29) hx hb dX8_longest_17 (by decide) (fun c8 => ?_) (fun c8 => ?_)
    · have h := h.1 c8
      refine lv_iload_n hx hb dX8_longest_29 rfl (lv_at hl 1 rfl) ?_
      refine lv_istore_n (lv' := [(2, .int i2), (3, .int i1), (0, .ref a0), (1, .int v1)]) hx hb dX8_longest_30 rfl hl (by decide) rfl (fun ls hl => ?_)
      obtain ⟨i9, ei9⟩ : ∃ y : Int32, y = i1 + (nI 1) := ⟨_, rfl⟩
      have h := h i9 ei9
      refine lv_iinc (v := i9) (lv' := [(3, .int i9), (2, .int i2), (0, .ref a0), (1, .int v1)]) hx hb dX8_longest_31 hl (k := 1) rfl (by rw [ei9]; rfl) (by decide) rfl (fun ls hl => ?_)
      refine lv_goto (tgt := 4) hx hb dX8_longest_34 (by decide) ?_
      exact ih4 (i9, i2) _ h (lv_sub hl [0, 1, 2, 3] rfl)
    · have h := h.2 c8
      refine lv_aload_n hx hb dX8_longest_20 rfl (lv_at hl 2 rfl) ?_
      refine lv_iload_n hx hb dX8_longest_21 rfl (lv_at hl 3 rfl) ?_
      refine lv_iload_n hx hb dX8_longest_22 rfl (lv_at hl 0 rfl) ?_
      obtain ⟨fs12, e11, h⟩ := h
      refine cV_ri (As := [.int v1, .int i1]) (rest := []) (n := 2) C hO (fun L => c_X8_cycleOf l D Y L S s.heap.size a0 v1 i1 _ h) 6 rfl e11 (cwV 2 hts gX8_longest_X8_cycleOf rfl rfl rfl ⟨rfl, hdS_X8_cycleOf⟩ ⟨Nat.le_of_ble_eq_true rfl, Nat.le_of_ble_eq_true rfl⟩) rfl hl.1 rfl (Nat.le_of_ble_eq_true rfl) dX8_longest_23 ⟨Nat.le_of_ble_eq_true rfl, Nat.le_of_ble_eq_true rfl⟩ (fun i10 h => ?_)
      refine lv_goto (tgt := 30) hx hb dX8_longest_26 (by decide) ?_
      refine lv_istore_n (lv' := [(2, .int i10), (3, .int i1), (0, .ref a0), (1, .int v1)]) hx hb dX8_longest_30 rfl hl (by decide) rfl (fun ls hl => ?_)
      obtain ⟨i13, ei13⟩ : ∃ y : Int32, y = i1 + (nI 1) := ⟨_, rfl⟩
      have h := h i13 ei13
      refine lv_iinc (v := i13) (lv' := [(3, .int i13), (2, .int i10), (0, .ref a0), (1, .int v1)]) hx hb dX8_longest_31 hl (k := 1) rfl (by rw [ei13]; rfl) (by decide) rfl (fun ls hl => ?_)
      refine lv_goto (tgt := 4) hx hb dX8_longest_34 (by decide) ?_
      exact ih4 (i13, i10) _ h (lv_sub hl [0, 1, 2, 3] rfl)
theorem hdS_X8_turnedPairs : yX8_turnedPairs.cls ≠ "java/lang/invoke/MethodHandle" ∧ yX8_turnedPairs.cls ≠ "java/lang/invoke/VarHandle" ∧ (parseMethodDescriptor yX8_turnedPairs.desc).map (fun d => d.parameters.length) = some 1 := by decide +kernel
set_option maxHeartbeats 4000000 in
set_option maxRecDepth 100000 in
theorem c_X8_turnedPairs (l : Launch) (D : va_G) (Y : Nat → ClassId) (L : List Nat) (S : PS) (sz : Nat) (a0 : Nat) (v1 : Int32) (Post : Int32 → Prop) (h : wp_X8_turnedPairs S a0 v1 Post) : Met l yX8_turnedPairs wsX8_turnedPairs ({ frames := 1, cells := 0, slots := 0, locals := 22 }) (va_Pc [.ref a0, .int v1] (PrO D Y L S sz)) (vp_Si Post) 0 0 (fun _ => False) := by
  refine Met.ofW (cc := cX8_turnedPairs) (maxL := 5) (ret := (some .int)) (by decide) rfl ?_
  intro p e s m args below meth c s₁ B hml hv
  obtain ⟨rfl, hsz, hJ, hP, hK, hD0, hZ⟩ := hv
  have hx := B.exec
  have hb := B.bytes
  have hr := B.returns
  have hts := atoms_spec (ws := wsX8_turnedPairs) B.pre
  have hown : s.vm.findClass RX8 = some m.cls := findClass_of_methodNamed B.named
  have hlocks := B.notSynchronized
  have CF : CallFix p m c cX8_turnedPairs 5 s ([.ref a0, .int v1] : List Value).toArray wsX8_turnedPairs RX8 := ⟨hx, hb, hml, hown, hts⟩
  have C : CX p m c cX8_turnedPairs 5 s ([.ref a0, .int v1] : List Value).toArray wsX8_turnedPairs RX8 D Y := ⟨CF, hK, hZ⟩
  have hO : HO D Y (fR L sz) s.heap S s.heap [] := HO.entry hsz hJ hP hD0
  subst hsz
  have hl := lv_entry ([.ref a0, .int v1]) (n := 5) (Nat.le_of_ble_eq_true rfl)
  rw [lg_entry_eq]
  generalize (lg_sl ([.ref a0, .int v1]) ++ List.replicate (5 - (lg_sl ([.ref a0, .int v1])).length) Slot.unset).toArray = ls at hl ⊢
  have hl : lv_has ls 5 [(0, .ref a0), (1, .int v1)] := hl
  unfold wp_X8_turnedPairs at h
  refine lv_iconst (v := (nI 0)) hx hb dX8_turnedPairs_0 (by decide) ?_
  refine lv_istore_n (lv' := [(2, .int (nI 0)), (0, .ref a0), (1, .int v1)]) hx hb dX8_turnedPairs_1 rfl hl (by decide) rfl (fun ls hl => ?_)
  refine lv_iconst (v := (nI 0)) hx hb dX8_turnedPairs_2 (by decide) ?_
  refine lv_istore_n (lv' := [(3, .int (nI 0)), (2, .int (nI 0)), (0, .ref a0), (1, .int v1)]) hx hb dX8_turnedPairs_3 rfl hl (by decide) rfl (fun ls hl => ?_)
  obtain ⟨n21, h⟩ := h
  refine lp_P (nL := 5) (fun q => [(3, .int q.1), (2, .int q.2), (0, .ref a0), (1, .int v1)]) h (lv_sub hl [0, 1, 2, 3] rfl) (fun K4 ih4 q ls h hl => ?_)
  obtain ⟨i1, i2⟩ := q
  have h : wpb_X8_turnedPairs_4 S a0 v1 Post K4 i1 i2 := h
  have hl : lv_has ls 5 [(3, .int i1), (2, .int i2), (0, .ref a0), (1, .int v1)] := hl
  unfold wpb_X8_turnedPairs_4 at h
  refine lv_iload_n hx hb dX8_turnedPairs_4 rfl (lv_at hl 0 rfl) ?_
  refine lv_bipush (v := (nI 12)) hx hb dX8_turnedPairs_5 (by decide) ?_
  refine lv_icmp_ge (tgt := 58) hx hb dX8_turnedPairs_7 (by decide) (fun c3 => ?_) (fun c3 => ?_)
  · have h := h.1 c3
    refine lv_iload_n hx hb dX8_turnedPairs_58 rfl (lv_at hl 1 rfl) ?_
    exact W.iret hx hb hr (fun t ht hW => ⟨i2, rfl, h, ht⟩) no_locs dX8_turnedPairs_59
  · have h := h.2 c3
    refine lv_iload_n hx hb dX8_turnedPairs_10 rfl (lv_at hl 0 rfl) ?_
    refine lv_iconst (v := (nI 1)) hx hb dX8_turnedPairs_11 (by decide) ?_
    refine lv_iadd hx hb dX8_turnedPairs_12 ?_
    refine lv_topi (fun i4 ei4 => ?_)
    have h := h i4 ei4
    refine lv_istore (lv' := [(4, .int i4), (3, .int i1), (2, .int i2), (0, .ref a0), (1, .int v1)]) hx hb dX8_turnedPairs_13 hl (by decide) rfl (fun ls hl => ?_)
    obtain ⟨n20, h⟩ := h
    refine lp_P (nL := 5) (fun q => [(4, .int q.1), (3, .int i1), (2, .int q.2), (0, .ref a0), (1, .int v1)]) h (lv_sub hl [0, 1, 2, 3, 4] rfl) (fun K15 ih15 q ls h hl => ?_)
    obtain ⟨i5, i6⟩ := q
    have h : wpb_X8_turnedPairs_15 S a0 v1 i1 K4 K15 i5 i6 := h
    have hl : lv_has ls 5 [(4, .int i5), (3, .int i1), (2, .int i6), (0, .ref a0), (1, .int v1)] := hl
    unfold wpb_X8_turnedPairs_15 at h
    refine lv_iload hx hb dX8_turnedPairs_15 (lv_at hl 0 rfl) ?_
    refine lv_bipush (v := (nI 12)) hx hb dX8_turnedPairs_17 (by decide) ?_
    refine lv_icmp_ge (tgt := 52) hx hb dX8_turnedPairs_19 (by decide) (fun c7 => ?_) (fun c7 => ?_)
    · have h := h.1 c7
      obtain ⟨i8, ei8⟩ : ∃ y : Int32, y = i1 + (nI 1) := ⟨_, rfl⟩
      have h := h i8 ei8
      refine lv_iinc (v := i8) (lv' := [(3, .int i8), (4, .int i5), (2, .int i6), (0, .ref a0), (1, .int v1)]) hx hb dX8_turnedPairs_52 hl (k := 1) rfl (by rw [ei8]; rfl) (by decide) rfl (fun ls hl => ?_)
      refine lv_goto (tgt := 4) hx hb dX8_turnedPairs_55 (by decide) ?_
      exact ih4 (i8, i6) _ h (lv_sub hl [0, 2, 3, 4] rfl)
    · have h := h.2 c7
      refine lv_iload_n hx hb dX8_turnedPairs_22 rfl (lv_at hl 2 rfl) ?_
      refine lv_aload_n hx hb dX8_turnedPairs_23 rfl (lv_at hl 3 rfl) ?_
      refine lv_iload_n hx hb dX8_turnedPairs_24 rfl (lv_at hl 4 rfl) ?_
      refine lv_iload_n hx hb dX8_turnedPairs_25 rfl (lv_at hl 1 rfl) ?_
      obtain ⟨fs11, e10, h⟩ := h
      refine cV_ri (As := [.int v1, .int i1]) (rest := [.int i6]) (n := 2) C hO (fun L => c_X8_comesBy l D Y L S s.heap.size a0 v1 i1 _ h) 6 rfl e10 (cwV 2 hts gX8_turnedPairs_X8_comesBy rfl rfl rfl ⟨rfl, hdS_X8_comesBy⟩ ⟨Nat.le_of_ble_eq_true rfl, Nat.le_of_ble_eq_true rfl⟩) rfl hl.1 rfl (Nat.le_of_ble_eq_true rfl) dX8_turnedPairs_26 ⟨Nat.le_of_ble_eq_true rfl, Nat.le_of_ble_eq_true rfl⟩ (fun i9 h => ?_)
      refine lv_aload_n hx hb dX8_turnedPairs_29 rfl (lv_at hl 3 rfl) ?_
      refine lv_iload_n hx hb dX8_turnedPairs_30 rfl (lv_at hl 4 rfl) ?_
      refine lv_iload hx hb dX8_turnedPairs_31 (lv_at hl 0 rfl) ?_
      obtain ⟨fs14, e13, h⟩ := h
      refine cV_ri (As := [.int v1, .int i5]) (rest := [.int i9, .int i6]) (n := 2) C hO (fun L => c_X8_comesBy l D Y L S s.heap.size a0 v1 i5 _ h) 6 rfl e13 (cwV 2 hts gX8_turnedPairs_X8_comesBy rfl rfl rfl ⟨rfl, hdS_X8_comesBy⟩ ⟨Nat.le_of_ble_eq_true rfl, Nat.le_of_ble_eq_true rfl⟩) rfl hl.1 rfl (Nat.le_of_ble_eq_true rfl) dX8_turnedPairs_33 ⟨Nat.le_of_ble_eq_true rfl, Nat.le_of_ble_eq_true rfl⟩ (fun i12 h => ?_)
      refine lv_icmp_le (tgt := 43) hx hb dX8_turnedPairs_36 (by decide) (fun c15 => ?_) (fun c15 => ?_)
      · have h := h.1 c15
        refine lv_iconst (v := (nI 0)) hx hb dX8_turnedPairs_43 (by decide) ?_
        refine lv_iadd hx hb dX8_turnedPairs_44 ?_
        refine lv_topi (fun i16 ei16 => ?_)
        have h := h i16 ei16
        refine lv_istore_n (lv' := [(2, .int i16), (4, .int i5), (3, .int i1), (0, .ref a0), (1, .int v1)]) hx hb dX8_turnedPairs_45 rfl hl (by decide) rfl (fun ls hl => ?_)
        obtain ⟨i17, ei17⟩ : ∃ y : Int32, y = i5 + (nI 1) := ⟨_, rfl⟩
        have h := h i17 ei17
        refine lv_iinc (v := i17) (lv' := [(4, .int i17), (2, .int i16), (3, .int i1), (0, .ref a0), (1, .int v1)]) hx hb dX8_turnedPairs_46 hl (k := 1) rfl (by rw [ei17]; rfl) (by decide) rfl (fun ls hl => ?_)
        refine lv_goto (tgt := 15) hx hb dX8_turnedPairs_49 (by decide) ?_
        exact ih15 (i17, i16) _ h (lv_sub hl [0, 2, 1, 3, 4] rfl)
      · have h := h.2 c15
        refine lv_iconst (v := (nI 1)) hx hb dX8_turnedPairs_39 (by decide) ?_
        refine lv_goto (tgt := 44) hx hb dX8_turnedPairs_40 (by decide) ?_
        refine lv_iadd hx hb dX8_turnedPairs_44 ?_
        refine lv_topi (fun i18 ei18 => ?_)
        have h := h i18 ei18
        refine lv_istore_n (lv' := [(2, .int i18), (4, .int i5), (3, .int i1), (0, .ref a0), (1, .int v1)]) hx hb dX8_turnedPairs_45 rfl hl (by decide) rfl (fun ls hl => ?_)
        obtain ⟨i19, ei19⟩ : ∃ y : Int32, y = i5 + (nI 1) := ⟨_, rfl⟩
        have h := h i19 ei19
        refine lv_iinc (v := i19) (lv' := [(4, .int i19), (2, .int i18), (3, .int i1), (0, .ref a0), (1, .int v1)]) hx hb dX8_turnedPairs_46 hl (k := 1) rfl (by rw [ei19]; rfl) (by decide) rfl (fun ls hl => ?_)
        refine lv_goto (tgt := 15) hx hb dX8_turnedPairs_49 (by decide) ?_
        exact ih15 (i19, i18) _ h (lv_sub hl [0, 2, 1, 3, 4] rfl)
theorem hdS_X8_takeThreads : yX8_takeThreads.cls ≠ "java/lang/invoke/MethodHandle" ∧ yX8_takeThreads.cls ≠ "java/lang/invoke/VarHandle" ∧ (parseMethodDescriptor yX8_takeThreads.desc).map (fun d => d.parameters.length) = some 0 := by decide +kernel
set_option maxHeartbeats 4000000 in
set_option maxRecDepth 100000 in
theorem c_X8_takeThreads (l : Launch) (D : va_G) (Y : Nat → ClassId) (L : List Nat) (S : PS) (sz : Nat) (a0 : Nat) (Post : PS → Prop) (h : wp_X8_takeThreads S a0 Post) : Met l yX8_takeThreads wsX8_takeThreads ({ frames := 0, cells := 0, slots := 0, locals := 0 }) (va_Pc [.ref a0] (PrO D Y L S sz)) (va_Qv Post (QtO D Y (fR L sz)) (fR L sz)) 0 0 (fR L sz) := by
  refine Met.ofW (cc := cX8_takeThreads) (maxL := 2) (ret := none) (by decide) rfl ?_
  intro p e s m args below meth c s₁ B hml hv
  obtain ⟨rfl, hsz, hJ, hP, hK, hD0, hZ⟩ := hv
  have hx := B.exec
  have hb := B.bytes
  have hr := B.returns
  have hts := atoms_spec (ws := wsX8_takeThreads) B.pre
  have hown : s.vm.findClass RX8 = some m.cls := findClass_of_methodNamed B.named
  have hlocks := B.notSynchronized
  have CF : CallFix p m c cX8_takeThreads 2 s ([.ref a0] : List Value).toArray wsX8_takeThreads RX8 := ⟨hx, hb, hml, hown, hts⟩
  have C : CX p m c cX8_takeThreads 2 s ([.ref a0] : List Value).toArray wsX8_takeThreads RX8 D Y := ⟨CF, hK, hZ⟩
  have hO : HO D Y (fR L sz) s.heap S s.heap [] := HO.entry hsz hJ hP hD0
  subst hsz
  have inX8 : ∀ w ∈ wsX80, w ∈ wsX8_takeThreads := fun w h => List.mem_cons_of_mem _ (List.mem_append_right _ h)
  have hl := lv_entry ([.ref a0]) (n := 2) (Nat.le_of_ble_eq_true rfl)
  rw [lg_entry_eq]
  generalize (lg_sl ([.ref a0]) ++ List.replicate (2 - (lg_sl ([.ref a0])).length) Slot.unset).toArray = ls at hl ⊢
  have hl : lv_has ls 2 [(0, .ref a0)] := hl
  unfold wp_X8_takeThreads at h
  refine lv_iconst (v := (nI 0)) hx hb dX8_takeThreads_0 (by decide) ?_
  refine lv_istore_n (lv' := [(1, .int (nI 0)), (0, .ref a0)]) hx hb dX8_takeThreads_1 rfl hl (by decide) rfl (fun ls hl => ?_)
  obtain ⟨n19, h⟩ := h
  refine lp_W (nL := 2) (fun q => [(1, .int q.1), (0, .ref a0)]) (fun q => q.2) h (lv_sub hl [0, 1] rfl) hO (fun K2 ih2 q ls H locs h hl hO => ?_)
  obtain ⟨i1, S2⟩ := q
  have h : wpb_X8_takeThreads_2 a0 Post K2 i1 S2 := h
  have hl : lv_has ls 2 [(1, .int i1), (0, .ref a0)] := hl
  have hO : HO D Y (fR L s.heap.size) s.heap S2 H locs := hO
  unfold wpb_X8_takeThreads_2 at h
  refine lv_iload_n hx hb dX8_takeThreads_2 rfl (lv_at hl 0 rfl) ?_
  refine lv_bipush (v := (nI 12)) hx hb dX8_takeThreads_3 (by decide) ?_
  refine lv_icmp_ge (tgt := 29) hx hb dX8_takeThreads_5 (by decide) (fun c3 => ?_) (fun c3 => ?_)
  · have h := h.1 c3
    exact W.vret hx hb hr (fun t ht hW => ⟨⟨S2, rfl, h, hO.q ht⟩, hO.f ht⟩) hO.lc dX8_takeThreads_29
  · have h := h.2 c3
    refine lv_aload_n hx hb dX8_takeThreads_8 rfl (lv_at hl 1 rfl) ?_
    obtain ⟨fs4, a5, e6, e6', h⟩ := h
    refine r_get C hO 6 11 rfl inX8 (Nat.le_of_ble_eq_true rfl) e6 e6' (List.mem_of_getElem? (i := 1) (by decide +kernel)) dX8_takeThreads_9 ?_
    refine lv_iload_n hx hb dX8_takeThreads_12 rfl (lv_at hl 0 rfl) ?_
    refine lv_aload_n hx hb dX8_takeThreads_13 rfl (lv_at hl 1 rfl) ?_
    obtain ⟨fs7, a8, e9, e9', h⟩ := h
    refine r_get C hO 6 0 rfl inX8 (Nat.le_of_ble_eq_true rfl) e9 e9' (List.mem_of_getElem? (i := 2) (by decide +kernel)) dX8_takeThreads_14 ?_
    refine lv_bipush (v := (nI 18)) hx hb dX8_takeThreads_17 (by decide) ?_
    refine lv_iload_n hx hb dX8_takeThreads_19 rfl (lv_at hl 0 rfl) ?_
    refine lv_iadd hx hb dX8_takeThreads_20 ?_
    obtain ⟨n10, f11, i13, e12, e12', exi13, h⟩ := h
    refine r_iald C hO e12 e12' dX8_takeThreads_21 ?_
    rw [exi13]
    obtain ⟨n14, f15, e16, e16', h⟩ := h
    refine r_iast C hO e16 e16' dX8_takeThreads_22 (fun H locs hO => ?_)
    obtain ⟨S17, eS17⟩ : ∃ Sx, Sx = va_up S2 a5 (aI n14 (upd f15 (i1).toNatClampNeg i13)) := ⟨_, rfl⟩
    rw [← eS17] at hO
    have h := h S17 eS17
    obtain ⟨i18, ei18⟩ : ∃ y : Int32, y = i1 + (nI 1) := ⟨_, rfl⟩
    have h := h i18 ei18
    refine lv_iinc (v := i18) (lv' := [(1, .int i18), (0, .ref a0)]) hx hb dX8_takeThreads_23 hl (k := 0) rfl (by rw [ei18]; rfl) (by decide) rfl (fun ls hl => ?_)
    refine lv_goto (tgt := 2) hx hb dX8_takeThreads_26 (by decide) ?_
    exact ih2 (i18, S17) _ _ _ h (lv_sub hl [0, 1] rfl) hO
theorem hdS_X8_weaveOnce : yX8_weaveOnce.cls ≠ "java/lang/invoke/MethodHandle" ∧ yX8_weaveOnce.cls ≠ "java/lang/invoke/VarHandle" ∧ (parseMethodDescriptor yX8_weaveOnce.desc).map (fun d => d.parameters.length) = some 1 := by decide +kernel
set_option maxHeartbeats 4000000 in
set_option maxRecDepth 100000 in
theorem c_X8_weaveOnce (l : Launch) (D : va_G) (Y : Nat → ClassId) (L : List Nat) (S : PS) (sz : Nat) (a0 : Nat) (v1 : Int32) (Post : PS → Prop) (h : wp_X8_weaveOnce S a0 v1 Post) : Met l yX8_weaveOnce wsX8_weaveOnce ({ frames := 1, cells := 0, slots := 0, locals := 22 }) (va_Pc [.ref a0, .int v1] (PrO D Y L S sz)) (va_Qv Post (QtO D Y (fR L sz)) (fR L sz)) 0 0 (fR L sz) := by
  refine Met.ofW (cc := cX8_weaveOnce) (maxL := 3) (ret := none) (by decide) rfl ?_
  intro p e s m args below meth c s₁ B hml hv
  obtain ⟨rfl, hsz, hJ, hP, hK, hD0, hZ⟩ := hv
  have hx := B.exec
  have hb := B.bytes
  have hr := B.returns
  have hts := atoms_spec (ws := wsX8_weaveOnce) B.pre
  have hown : s.vm.findClass RX8 = some m.cls := findClass_of_methodNamed B.named
  have hlocks := B.notSynchronized
  have CF : CallFix p m c cX8_weaveOnce 3 s ([.ref a0, .int v1] : List Value).toArray wsX8_weaveOnce RX8 := ⟨hx, hb, hml, hown, hts⟩
  have C : CX p m c cX8_weaveOnce 3 s ([.ref a0, .int v1] : List Value).toArray wsX8_weaveOnce RX8 D Y := ⟨CF, hK, hZ⟩
  have hO : HO D Y (fR L sz) s.heap S s.heap [] := HO.entry hsz hJ hP hD0
  subst hsz
  have inX8 : ∀ w ∈ wsX80, w ∈ wsX8_weaveOnce := fun w h => List.mem_cons_of_mem _ (List.mem_append_right _ h)
  have hl := lv_entry ([.ref a0, .int v1]) (n := 3) (Nat.le_of_ble_eq_true rfl)
  rw [lg_entry_eq]
  generalize (lg_sl ([.ref a0, .int v1]) ++ List.replicate (3 - (lg_sl ([.ref a0, .int v1])).length) Slot.unset).toArray = ls at hl ⊢
  have hl : lv_has ls 3 [(0, .ref a0), (1, .int v1)] := hl
  unfold wp_X8_weaveOnce at h
  refine lv_iconst (v := (nI 0)) hx hb dX8_weaveOnce_0 (by decide) ?_
  refine lv_istore_n (lv' := [(2, .int (nI 0)), (0, .ref a0), (1, .int v1)]) hx hb dX8_weaveOnce_1 rfl hl (by decide) rfl (fun ls hl => ?_)
  obtain ⟨n41, h⟩ := h
  refine lp_W (nL := 3) (fun q => [(2, .int q.1), (0, .ref a0), (1, .int v1)]) (fun q => q.2) h (lv_sub hl [0, 1, 2] rfl) hO (fun K2 ih2 q ls H locs h hl hO => ?_)
  obtain ⟨i1, S2⟩ := q
  have h : wpb_X8_weaveOnce_2 a0 v1 Post K2 i1 S2 := h
  have hl : lv_has ls 3 [(2, .int i1), (0, .ref a0), (1, .int v1)] := hl
  have hO : HO D Y (fR L s.heap.size) s.heap S2 H locs := hO
  unfold wpb_X8_weaveOnce_2 at h
  refine lv_iload_n hx hb dX8_weaveOnce_2 rfl (lv_at hl 0 rfl) ?_
  refine lv_bipush (v := (nI 12)) hx hb dX8_weaveOnce_3 (by decide) ?_
  refine lv_icmp_ge (tgt := 31) hx hb dX8_weaveOnce_5 (by decide) (fun c3 => ?_) (fun c3 => ?_)
  · have h := h.1 c3
    refine lv_iconst (v := (nI 0)) hx hb dX8_weaveOnce_31 (by decide) ?_
    refine lv_istore_n (lv' := [(2, .int (nI 0)), (0, .ref a0), (1, .int v1)]) hx hb dX8_weaveOnce_32 rfl hl (by decide) rfl (fun ls hl => ?_)
    obtain ⟨n22, h⟩ := h
    refine lp_W (nL := 3) (fun q => [(2, .int q.1), (0, .ref a0)]) (fun q => q.2) h (lv_sub hl [0, 1] rfl) hO (fun K33 ih33 q ls H locs h hl hO => ?_)
    obtain ⟨i4, S5⟩ := q
    have h : wpb_X8_weaveOnce_33 a0 Post K33 i4 S5 := h
    have hl : lv_has ls 3 [(2, .int i4), (0, .ref a0)] := hl
    have hO : HO D Y (fR L s.heap.size) s.heap S5 H locs := hO
    unfold wpb_X8_weaveOnce_33 at h
    refine lv_iload_n hx hb dX8_weaveOnce_33 rfl (lv_at hl 0 rfl) ?_
    refine lv_bipush (v := (nI 12)) hx hb dX8_weaveOnce_34 (by decide) ?_
    refine lv_icmp_ge (tgt := 57) hx hb dX8_weaveOnce_36 (by decide) (fun c6 => ?_) (fun c6 => ?_)
    · have h := h.1 c6
      exact W.vret hx hb hr (fun t ht hW => ⟨⟨S5, rfl, h, hO.q ht⟩, hO.f ht⟩) hO.lc dX8_weaveOnce_57
    · have h := h.2 c6
      refine lv_aload_n hx hb dX8_weaveOnce_39 rfl (lv_at hl 1 rfl) ?_
      obtain ⟨fs7, a8, e9, e9', h⟩ := h
      refine r_get C hO 6 11 rfl inX8 (Nat.le_of_ble_eq_true rfl) e9 e9' (List.mem_of_getElem? (i := 2) (by decide +kernel)) dX8_weaveOnce_40 ?_
      refine lv_iload_n hx hb dX8_weaveOnce_43 rfl (lv_at hl 0 rfl) ?_
      refine lv_aload_n hx hb dX8_weaveOnce_44 rfl (lv_at hl 1 rfl) ?_
      obtain ⟨fs10, a11, e12, e12', h⟩ := h
      refine r_get C hO 6 12 rfl inX8 (Nat.le_of_ble_eq_true rfl) e12 e12' (List.mem_of_getElem? (i := 1) (by decide +kernel)) dX8_weaveOnce_45 ?_
      refine lv_iload_n hx hb dX8_weaveOnce_48 rfl (lv_at hl 0 rfl) ?_
      obtain ⟨n13, f14, i16, e15, e15', exi16, h⟩ := h
      refine r_iald C hO e15 e15' dX8_weaveOnce_49 ?_
      rw [exi16]
      obtain ⟨n17, f18, e19, e19', h⟩ := h
      refine r_iast C hO e19 e19' dX8_weaveOnce_50 (fun H locs hO => ?_)
      obtain ⟨S20, eS20⟩ : ∃ Sx, Sx = va_up S5 a8 (aI n17 (upd f18 (i4).toNatClampNeg i16)) := ⟨_, rfl⟩
      rw [← eS20] at hO
      have h := h S20 eS20
      obtain ⟨i21, ei21⟩ : ∃ y : Int32, y = i4 + (nI 1) := ⟨_, rfl⟩
      have h := h i21 ei21
      refine lv_iinc (v := i21) (lv' := [(2, .int i21), (0, .ref a0)]) hx hb dX8_weaveOnce_51 hl (k := 0) rfl (by rw [ei21]; rfl) (by decide) rfl (fun ls hl => ?_)
      refine lv_goto (tgt := 33) hx hb dX8_weaveOnce_54 (by decide) ?_
      exact ih33 (i21, S20) _ _ _ h (lv_sub hl [0, 1] rfl) hO
  · have h := h.2 c3
    refine lv_aload_n hx hb dX8_weaveOnce_8 rfl (lv_at hl 1 rfl) ?_
    obtain ⟨fs23, a24, e25, e25', h⟩ := h
    refine r_get C hO 6 12 rfl inX8 (Nat.le_of_ble_eq_true rfl) e25 e25' (List.mem_of_getElem? (i := 1) (by decide +kernel)) dX8_weaveOnce_9 ?_
    refine lv_aload_n hx hb dX8_weaveOnce_12 rfl (lv_at hl 1 rfl) ?_
    refine lv_iload_n hx hb dX8_weaveOnce_13 rfl (lv_at hl 2 rfl) ?_
    refine lv_iload_n hx hb dX8_weaveOnce_14 rfl (lv_at hl 0 rfl) ?_
    obtain ⟨fs28, e27, h⟩ := h
    refine cV_ri (As := [.int v1, .int i1]) (rest := [.ref a24]) (n := 2) C hO (fun L => c_X8_comesBy l D Y L S2 H.size a0 v1 i1 _ h) 6 rfl e27 (cwV 2 hts gX8_weaveOnce_X8_comesBy rfl rfl rfl ⟨rfl, hdS_X8_comesBy⟩ ⟨Nat.le_of_ble_eq_true rfl, Nat.le_of_ble_eq_true rfl⟩) rfl hl.1 rfl (Nat.le_of_ble_eq_true rfl) dX8_weaveOnce_15 ⟨Nat.le_of_ble_eq_true rfl, Nat.le_of_ble_eq_true rfl⟩ (fun i26 h => ?_)
    refine lv_aload_n hx hb dX8_weaveOnce_18 rfl (lv_at hl 1 rfl) ?_
    obtain ⟨fs29, a30, e31, e31', h⟩ := h
    refine r_get C hO 6 11 rfl inX8 (Nat.le_of_ble_eq_true rfl) e31 e31' (List.mem_of_getElem? (i := 2) (by decide +kernel)) dX8_weaveOnce_19 ?_
    refine lv_iload_n hx hb dX8_weaveOnce_22 rfl (lv_at hl 0 rfl) ?_
    obtain ⟨n32, f33, i35, e34, e34', exi35, h⟩ := h
    refine r_iald C hO e34 e34' dX8_weaveOnce_23 ?_
    rw [exi35]
    obtain ⟨n36, f37, e38, e38', h⟩ := h
    refine r_iast C hO e38 e38' dX8_weaveOnce_24 (fun H locs hO => ?_)
    obtain ⟨S39, eS39⟩ : ∃ Sx, Sx = va_up S2 a24 (aI n36 (upd f37 (i26).toNatClampNeg i35)) := ⟨_, rfl⟩
    rw [← eS39] at hO
    have h := h S39 eS39
    obtain ⟨i40, ei40⟩ : ∃ y : Int32, y = i1 + (nI 1) := ⟨_, rfl⟩
    have h := h i40 ei40
    refine lv_iinc (v := i40) (lv' := [(2, .int i40), (0, .ref a0), (1, .int v1)]) hx hb dX8_weaveOnce_25 hl (k := 0) rfl (by rw [ei40]; rfl) (by decide) rfl (fun ls hl => ?_)
    refine lv_goto (tgt := 2) hx hb dX8_weaveOnce_28 (by decide) ?_
    exact ih2 (i40, S39) _ _ _ h (lv_sub hl [0, 1, 2] rfl) hO
theorem hdS_X8_isSameCloth : yX8_isSameCloth.cls ≠ "java/lang/invoke/MethodHandle" ∧ yX8_isSameCloth.cls ≠ "java/lang/invoke/VarHandle" ∧ (parseMethodDescriptor yX8_isSameCloth.desc).map (fun d => d.parameters.length) = some 0 := by decide +kernel
set_option maxHeartbeats 4000000 in
set_option maxRecDepth 100000 in
theorem c_X8_isSameCloth (l : Launch) (D : va_G) (Y : Nat → ClassId) (L : List Nat) (S : PS) (sz : Nat) (a0 : Nat) (Post : Int32 → Prop) (h : wp_X8_isSameCloth S a0 Post) : Met l yX8_isSameCloth wsX8_isSameCloth ({ frames := 0, cells := 0, slots := 0, locals := 0 }) (va_Pc [.ref a0] (PrO D Y L S sz)) (vp_Si Post) 0 0 (fun _ => False) := by
  refine Met.ofW (cc := cX8_isSameCloth) (maxL := 3) (ret := (some .boolean)) (by decide) rfl ?_
  intro p e s m args below meth c s₁ B hml hv
  obtain ⟨rfl, hsz, hJ, hP, hK, hD0, hZ⟩ := hv
  have hx := B.exec
  have hb := B.bytes
  have hr := B.returns
  have hts := atoms_spec (ws := wsX8_isSameCloth) B.pre
  have hown : s.vm.findClass RX8 = some m.cls := findClass_of_methodNamed B.named
  have hlocks := B.notSynchronized
  have CF : CallFix p m c cX8_isSameCloth 3 s ([.ref a0] : List Value).toArray wsX8_isSameCloth RX8 := ⟨hx, hb, hml, hown, hts⟩
  have C : CX p m c cX8_isSameCloth 3 s ([.ref a0] : List Value).toArray wsX8_isSameCloth RX8 D Y := ⟨CF, hK, hZ⟩
  have hO : HO D Y (fR L sz) s.heap S s.heap [] := HO.entry hsz hJ hP hD0
  subst hsz
  have inX8 : ∀ w ∈ wsX80, w ∈ wsX8_isSameCloth := fun w h => List.mem_cons_of_mem _ (List.mem_append_right _ h)
  have hl := lv_entry ([.ref a0]) (n := 3) (Nat.le_of_ble_eq_true rfl)
  rw [lg_entry_eq]
  generalize (lg_sl ([.ref a0]) ++ List.replicate (3 - (lg_sl ([.ref a0])).length) Slot.unset).toArray = ls at hl ⊢
  have hl : lv_has ls 3 [(0, .ref a0)] := hl
  unfold wp_X8_isSameCloth at h
  refine lv_iconst (v := (nI 1)) hx hb dX8_isSameCloth_0 (by decide) ?_
  refine lv_istore_n (lv' := [(1, .int (nI 1)), (0, .ref a0)]) hx hb dX8_isSameCloth_1 rfl hl (by decide) rfl (fun ls hl => ?_)
  refine lv_iconst (v := (nI 0)) hx hb dX8_isSameCloth_2 (by decide) ?_
  refine lv_istore_n (lv' := [(2, .int (nI 0)), (1, .int (nI 1)), (0, .ref a0)]) hx hb dX8_isSameCloth_3 rfl hl (by decide) rfl (fun ls hl => ?_)
  obtain ⟨n37, h⟩ := h
  refine lp_P (nL := 3) (fun q => [(2, .int q.1), (1, .int q.2), (0, .ref a0)]) h (lv_sub hl [0, 1, 2] rfl) (fun K4 ih4 q ls h hl => ?_)
  obtain ⟨i1, i2⟩ := q
  have h : wpb_X8_isSameCloth_4 S a0 Post K4 i1 i2 := h
  have hl : lv_has ls 3 [(2, .int i1), (1, .int i2), (0, .ref a0)] := hl
  unfold wpb_X8_isSameCloth_4 at h
  refine lv_iload_n hx hb dX8_isSameCloth_4 rfl (lv_at hl 0 rfl) ?_
  refine lv_bipush (v := (nI 12)) hx hb dX8_isSameCloth_5 (by decide) ?_
  refine lv_icmp_ge (tgt := 60) hx hb dX8_isSameCloth_7 (by decide) (fun c3 => ?_) (fun c3 => ?_)
  · have h := h.1 c3
    refine lv_iload_n hx hb dX8_isSameCloth_60 rfl (lv_at hl 1 rfl) ?_
    obtain ⟨gz, h⟩ := h
    exact W.zret hx hb hr (congrArg Value.int gz) (fun t ht hW => ⟨i2, rfl, h, ht⟩) no_locs dX8_isSameCloth_61
  · have h := h.2 c3
    refine lv_iload_n hx hb dX8_isSameCloth_10 rfl (lv_at hl 1 rfl) ?_
    refine lv_if_eq (tgt := 52) hx hb dX8_isSameCloth_11 (by decide) (fun c4 => ?_) (fun c4 => ?_)
    · have h := h.1 c4
      refine lv_iconst (v := (nI 0)) hx hb dX8_isSameCloth_52 (by decide) ?_
      refine lv_istore_n (lv' := [(1, .int (nI 0)), (2, .int i1), (0, .ref a0)]) hx hb dX8_isSameCloth_53 rfl hl (by decide) rfl (fun ls hl => ?_)
      obtain ⟨i5, ei5⟩ : ∃ y : Int32, y = i1 + (nI 1) := ⟨_, rfl⟩
      have h := h i5 ei5
      refine lv_iinc (v := i5) (lv' := [(2, .int i5), (1, .int (nI 0)), (0, .ref a0)]) hx hb dX8_isSameCloth_54 hl (k := 1) rfl (by rw [ei5]; rfl) (by decide) rfl (fun ls hl => ?_)
      refine lv_goto (tgt := 4) hx hb dX8_isSameCloth_57 (by decide) ?_
      exact ih4 (i5, (nI 0)) _ h (lv_sub hl [0, 1, 2] rfl)
    · have h := h.2 c4
      refine lv_aload_n hx hb dX8_isSameCloth_14 rfl (lv_at hl 2 rfl) ?_
      obtain ⟨fs6, a7, e8, e8', h⟩ := h
      refine r_get C hO 6 0 rfl inX8 (Nat.le_of_ble_eq_true rfl) e8 e8' (List.mem_of_getElem? (i := 1) (by decide +kernel)) dX8_isSameCloth_15 ?_
      refine lv_bipush (v := (nI 30)) hx hb dX8_isSameCloth_18 (by decide) ?_
      refine lv_aload_n hx hb dX8_isSameCloth_20 rfl (lv_at hl 2 rfl) ?_
      obtain ⟨fs9, a10, e11, e11', h⟩ := h
      refine r_get C hO 6 11 rfl inX8 (Nat.le_of_ble_eq_true rfl) e11 e11' (List.mem_of_getElem? (i := 2) (by decide +kernel)) dX8_isSameCloth_21 ?_
      refine lv_iload_n hx hb dX8_isSameCloth_24 rfl (lv_at hl 0 rfl) ?_
      obtain ⟨n12, f13, i15, e14, e14', exi15, h⟩ := h
      refine r_iald C hO e14 e14' dX8_isSameCloth_25 ?_
      rw [exi15]
      refine lv_iadd hx hb dX8_isSameCloth_26 ?_
      obtain ⟨n16, f17, i19, e18, e18', exi19, h⟩ := h
      refine r_iald C hO e18 e18' dX8_isSameCloth_27 ?_
      rw [exi19]
      refine lv_aload_n hx hb dX8_isSameCloth_28 rfl (lv_at hl 2 rfl) ?_
      obtain ⟨fs20, a21, e22, e22', h⟩ := h
      refine r_get C hO 6 0 rfl inX8 (Nat.le_of_ble_eq_true rfl) e22 e22' (List.mem_of_getElem? (i := 1) (by decide +kernel)) dX8_isSameCloth_29 ?_
      refine lv_bipush (v := (nI 30)) hx hb dX8_isSameCloth_32 (by decide) ?_
      refine lv_aload_n hx hb dX8_isSameCloth_34 rfl (lv_at hl 2 rfl) ?_
      obtain ⟨fs23, a24, e25, e25', h⟩ := h
      refine r_get C hO 6 0 rfl inX8 (Nat.le_of_ble_eq_true rfl) e25 e25' (List.mem_of_getElem? (i := 1) (by decide +kernel)) dX8_isSameCloth_35 ?_
      refine lv_bipush (v := (nI 18)) hx hb dX8_isSameCloth_38 (by decide) ?_
      refine lv_iload_n hx hb dX8_isSameCloth_40 rfl (lv_at hl 0 rfl) ?_
      refine lv_iadd hx hb dX8_isSameCloth_41 ?_
      obtain ⟨n26, f27, i29, e28, e28', exi29, h⟩ := h
      refine r_iald C hO e28 e28' dX8_isSameCloth_42 ?_
      rw [exi29]
      refine lv_iadd hx hb dX8_isSameCloth_43 ?_
      obtain ⟨n30, f31, i33, e32, e32', exi33, h⟩ := h
      refine r_iald C hO e32 e32' dX8_isSameCloth_44 ?_
      rw [exi33]
      refine lv_icmp_ne (tgt := 52) hx hb dX8_isSameCloth_45 (by decide) (fun c34 => ?_) (fun c34 => ?_)
      · have h := h.2 c34
        refine lv_iconst (v := (nI 0)) hx hb dX8_isSameCloth_52 (by decide) ?_
        refine lv_istore_n (lv' := [(1, .int (nI 0)), (2, .int i1), (0, .ref a0)]) hx hb dX8_isSameCloth_53 rfl hl (by decide) rfl (fun ls hl => ?_)
        obtain ⟨i35, ei35⟩ : ∃ y : Int32, y = i1 + (nI 1) := ⟨_, rfl⟩
        have h := h i35 ei35
        refine lv_iinc (v := i35) (lv' := [(2, .int i35), (1, .int (nI 0)), (0, .ref a0)]) hx hb dX8_isSameCloth_54 hl (k := 1) rfl (by rw [ei35]; rfl) (by decide) rfl (fun ls hl => ?_)
        refine lv_goto (tgt := 4) hx hb dX8_isSameCloth_57 (by decide) ?_
        exact ih4 (i35, (nI 0)) _ h (lv_sub hl [0, 1, 2] rfl)
      · have h := h.1 c34
        refine lv_iconst (v := (nI 1)) hx hb dX8_isSameCloth_48 (by decide) ?_
        refine lv_goto (tgt := 53) hx hb dX8_isSameCloth_49 (by decide) ?_
        refine lv_istore_n (lv' := [(1, .int (nI 1)), (2, .int i1), (0, .ref a0)]) hx hb dX8_isSameCloth_53 rfl hl (by decide) rfl (fun ls hl => ?_)
        obtain ⟨i36, ei36⟩ : ∃ y : Int32, y = i1 + (nI 1) := ⟨_, rfl⟩
        have h := h i36 ei36
        refine lv_iinc (v := i36) (lv' := [(2, .int i36), (1, .int (nI 1)), (0, .ref a0)]) hx hb dX8_isSameCloth_54 hl (k := 1) rfl (by rw [ei36]; rfl) (by decide) rfl (fun ls hl => ?_)
        refine lv_goto (tgt := 4) hx hb dX8_isSameCloth_57 (by decide) ?_
        exact ih4 (i36, (nI 1)) _ h (lv_sub hl [0, 1, 2] rfl)
