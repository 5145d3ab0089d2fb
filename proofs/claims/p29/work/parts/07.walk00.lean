theorem hdS_X0_init : yX0_init.cls ≠ "java/lang/invoke/MethodHandle" ∧ yX0_init.cls ≠ "java/lang/invoke/VarHandle" ∧ (parseMethodDescriptor yX0_init.desc).map (fun d => d.parameters.length) = some 0 := by decide +kernel
set_option maxHeartbeats 4000000 in
set_option maxRecDepth 100000 in
theorem c_X0_init (l : Launch) (D : va_G) (Y : Nat → ClassId) (L : List Nat) (S : PS) (sz : Nat) (a0 : Nat) (Post : PS → Prop) (h : wp_X0_init S a0 Post) : Met l yX0_init wsX0_init ({ frames := 1, cells := 1, slots := 24, locals := 12 }) (va_Pc [.ref a0] (PrO D Y L S sz)) (va_Qv Post (QtO D Y (fR L sz)) (fR L sz)) 1 24 (fR L sz) := by
  refine Met.ofW (cc := cX0_init) (maxL := 1) (ret := none) (by decide) rfl ?_
  intro p e s m args below meth c s₁ B hml hv
  obtain ⟨rfl, hsz, hJ, hP, hK, hD0, hZ⟩ := hv
  have hx := B.exec
  have hb := B.bytes
  have hr := B.returns
  have hts := atoms_spec (ws := wsX0_init) B.pre
  have hown : s.vm.findClass RX0 = some m.cls := findClass_of_methodNamed B.named
  have hlocks := B.notSynchronized
  have hin : meth.name = "<init>" := (name_of_methodNamed B.named B.method).1
  have CF : CallFix p m c cX0_init 1 s ([.ref a0] : List Value).toArray wsX0_init RX0 := ⟨hx, hb, hml, hown, hts⟩
  have C : CX p m c cX0_init 1 s ([.ref a0] : List Value).toArray wsX0_init RX0 D Y := ⟨CF, hK, hZ⟩
  have hO : HO D Y (fR L sz) s.heap S s.heap [] := HO.entry hsz hJ hP hD0
  subst hsz
  have inX0 : ∀ w ∈ wsX00, w ∈ wsX0_init := fun w h => List.mem_cons_of_mem _ (List.mem_append_right _ h)
  have hl := lv_entry ([.ref a0]) (n := 1) (Nat.le_of_ble_eq_true rfl)
  rw [lg_entry_eq]
  generalize (lg_sl ([.ref a0]) ++ List.replicate (1 - (lg_sl ([.ref a0])).length) Slot.unset).toArray = ls at hl ⊢
  have hl : lv_has ls 1 [(0, .ref a0)] := hl
  unfold wp_X0_init at h
  refine lv_aload_n hx hb dX0_init_0 rfl (lv_at hl 0 rfl) ?_
  refine W.objInit hx hb hown (hts _ (List.mem_of_getElem? (i := 1) (by decide +kernel : wsX0_init[1]? = some (Cond.methodLink RX0 3 objectInit)))) (hts _ (List.mem_of_getElem? (i := 2) (by decide +kernel : wsX0_init[2]? = some (Cond.instanceMethod objectInit)))) (hts _ (List.mem_of_getElem? (i := 3) (by decide +kernel : wsX0_init[3]? = some (Cond.code objectInit ⟨#[0xb1]⟩ 1 none)))) rfl (by rw [hml]; exact hl.1) rfl dX0_init_1 (Nat.le_of_ble_eq_true rfl) (Nat.le_of_ble_eq_true rfl) ?_
  refine W.eq (g2 := F0 m 4 ls []) rfl ?_
  refine lv_aload_n hx hb dX0_init_4 rfl (lv_at hl 0 rfl) ?_
  refine lv_bipush (v := (nI 24)) hx hb dX0_init_5 (by decide) ?_
  refine r_newa (k := 1) (ty := .int) (N' := 24) C hO (by intro C h; cases h) rfl rfl (List.mem_of_getElem? (i := 4) (by decide +kernel)) (24, .inl (fun _ => 0)) (fun _ => rfl) (by decide) (by decide) (Nat.le_of_ble_eq_true rfl) (Nat.le_of_ble_eq_true rfl) (Nat.le_of_ble_eq_true rfl) dX0_init_7 (fun a1 H hqa1 hO => ?_)
  obtain ⟨S2, eS2⟩ : ∃ Sx, Sx = va_up S a1 (aI 24 (fun _ => 0)) := ⟨_, rfl⟩
  have hO := (show HO D Y (fR L s.heap.size) s.heap (va_up S a1 (aI 24 (fun _ => 0))) H _ from hO)
  rw [← eS2] at hO
  have h := h a1 hqa1 S2 eS2
  obtain ⟨fs3, e4, e4', h⟩ := h
  refine r_putF C hO 0 0 hin rfl inX0 tyX0_ok nmX0 (Nat.le_of_ble_eq_true rfl) rfl rfl rfl rfl e4 e4' (List.mem_of_getElem? (i := 5) (by decide +kernel)) dX0_init_9 (fun H locs hO => ?_)
  obtain ⟨S5, eS5⟩ : ∃ Sx, Sx = va_up S2 a0 (.inl (0, fs3.set 0 (.ref a1))) := ⟨_, rfl⟩
  rw [← eS5] at hO
  have h := h S5 eS5
  refine lv_aload_n hx hb dX0_init_12 rfl (lv_at hl 0 rfl) ?_
  refine lv_iconst (v := (nI 0)) hx hb dX0_init_13 (by decide) ?_
  obtain ⟨fs6, e7, e7', h⟩ := h
  refine r_put C hO 0 1 rfl inX0 tyX0_ok nmX0 (Nat.le_of_ble_eq_true rfl) rfl rfl rfl e7 e7' (List.mem_of_getElem? (i := 6) (by decide +kernel)) dX0_init_14 (fun H locs hO => ?_)
  obtain ⟨S8, eS8⟩ : ∃ Sx, Sx = va_up S5 a0 (.inl (0, fs6.set 1 (.int (nI 0)))) := ⟨_, rfl⟩
  rw [← eS8] at hO
  have h := h S8 eS8
  exact W.vret hx hb hr (fun t ht hW => ⟨⟨S8, rfl, h, hO.q ht⟩, hO.f ht⟩) hO.lc dX0_init_17
theorem hdS_X7_isBelow : yX7_isBelow.cls ≠ "java/lang/invoke/MethodHandle" ∧ yX7_isBelow.cls ≠ "java/lang/invoke/VarHandle" ∧ (parseMethodDescriptor yX7_isBelow.desc).map (fun d => d.parameters.length) = some 2 := by decide +kernel
set_option maxHeartbeats 4000000 in
set_option maxRecDepth 100000 in
theorem c_X7_isBelow (l : Launch) (v0 : Int32) (v1 : Int32) (Post : Int32 → Prop) (h : wp_X7_isBelow v0 v1 Post) : Met l yX7_isBelow wsX7_isBelow ({ frames := 0, cells := 0, slots := 0, locals := 0 }) (va_Pc [.int v0, .int v1] NZ) (vp_Si Post) 0 0 (fun _ => False) := by
  refine Met.ofW (cc := cX7_isBelow) (maxL := 2) (ret := (some .boolean)) (by decide) rfl ?_
  intro p e s m args below meth c s₁ B hml hv
  obtain ⟨rfl, hZ⟩ := hv
  have hx := B.exec
  have hb := B.bytes
  have hr := B.returns
  have hts := atoms_spec (ws := wsX7_isBelow) B.pre
  have hown : s.vm.findClass RX7 = some m.cls := findClass_of_methodNamed B.named
  have hlocks := B.notSynchronized
  have CF : CallFix p m c cX7_isBelow 2 s ([.int v0, .int v1] : List Value).toArray wsX7_isBelow RX7 := ⟨hx, hb, hml, hown, hts⟩
  have hl := lv_entry ([.int v0, .int v1]) (n := 2) (Nat.le_of_ble_eq_true rfl)
  rw [lg_entry_eq]
  generalize (lg_sl ([.int v0, .int v1]) ++ List.replicate (2 - (lg_sl ([.int v0, .int v1])).length) Slot.unset).toArray = ls at hl ⊢
  have hl : lv_has ls 2 [(0, .int v0), (1, .int v1)] := hl
  unfold wp_X7_isBelow at h
  refine lv_iload_n hx hb dX7_isBelow_0 rfl (lv_at hl 0 rfl) ?_
  refine lv_if_lt (tgt := 13) hx hb dX7_isBelow_1 (by decide) (fun c1 => ?_) (fun c1 => ?_)
  · have h := h.1 c1
    refine lv_iconst (v := (nI 0)) hx hb dX7_isBelow_13 (by decide) ?_
    exact W.zret hx hb hr (by decide) (fun t ht hW => ⟨(nI 0), rfl, h, ht⟩) no_locs dX7_isBelow_14
  · have h := h.2 c1
    refine lv_iload_n hx hb dX7_isBelow_4 rfl (lv_at hl 0 rfl) ?_
    refine lv_iload_n hx hb dX7_isBelow_5 rfl (lv_at hl 1 rfl) ?_
    refine lv_icmp_ge (tgt := 13) hx hb dX7_isBelow_6 (by decide) (fun c2 => ?_) (fun c2 => ?_)
    · have h := h.1 c2
      refine lv_iconst (v := (nI 0)) hx hb dX7_isBelow_13 (by decide) ?_
      exact W.zret hx hb hr (by decide) (fun t ht hW => ⟨(nI 0), rfl, h, ht⟩) no_locs dX7_isBelow_14
    · have h := h.2 c2
      refine lv_iconst (v := (nI 1)) hx hb dX7_isBelow_9 (by decide) ?_
      refine lv_goto (tgt := 14) hx hb dX7_isBelow_10 (by decide) ?_
      exact W.zret hx hb hr (by decide) (fun t ht hW => ⟨(nI 1), rfl, h, ht⟩) no_locs dX7_isBelow_14
theorem hdS_X0_pressAt : yX0_pressAt.cls ≠ "java/lang/invoke/MethodHandle" ∧ yX0_pressAt.cls ≠ "java/lang/invoke/VarHandle" ∧ (parseMethodDescriptor yX0_pressAt.desc).map (fun d => d.parameters.length) = some 1 := by decide +kernel
set_option maxHeartbeats 4000000 in
set_option maxRecDepth 100000 in
theorem c_X0_pressAt (l : Launch) (D : va_G) (Y : Nat → ClassId) (L : List Nat) (S : PS) (sz : Nat) (a0 : Nat) (v1 : Int32) (Post : Int32 → Prop) (h : wp_X0_pressAt S a0 v1 Post) : Met l yX0_pressAt wsX0_pressAt ({ frames := 1, cells := 0, slots := 0, locals := 21 }) (va_Pc [.ref a0, .int v1] (PrO D Y L S sz)) (vp_Si Post) 0 0 (fun _ => False) := by
  refine Met.ofW (cc := cX0_pressAt) (maxL := 2) (ret := (some .int)) (by decide) rfl ?_
  intro p e s m args below meth c s₁ B hml hv
  obtain ⟨rfl, hsz, hJ, hP, hK, hD0, hZ⟩ := hv
  have hx := B.exec
  have hb := B.bytes
  have hr := B.returns
  have hts := atoms_spec (ws := wsX0_pressAt) B.pre
  have hown : s.vm.findClass RX0 = some m.cls := findClass_of_methodNamed B.named
  have hlocks := B.notSynchronized
  have CF : CallFix p m c cX0_pressAt 2 s ([.ref a0, .int v1] : List Value).toArray wsX0_pressAt RX0 := ⟨hx, hb, hml, hown, hts⟩
  have C : CX p m c cX0_pressAt 2 s ([.ref a0, .int v1] : List Value).toArray wsX0_pressAt RX0 D Y := ⟨CF, hK, hZ⟩
  have hO : HO D Y (fR L sz) s.heap S s.heap [] := HO.entry hsz hJ hP hD0
  subst hsz
  have inX0 : ∀ w ∈ wsX00, w ∈ wsX0_pressAt := fun w h => List.mem_cons_of_mem _ (List.mem_append_right _ h)
  have hl := lv_entry ([.ref a0, .int v1]) (n := 2) (Nat.le_of_ble_eq_true rfl)
  rw [lg_entry_eq]
  generalize (lg_sl ([.ref a0, .int v1]) ++ List.replicate (2 - (lg_sl ([.ref a0, .int v1])).length) Slot.unset).toArray = ls at hl ⊢
  have hl : lv_has ls 2 [(0, .ref a0), (1, .int v1)] := hl
  unfold wp_X0_pressAt at h
  refine lv_iload_n hx hb dX0_pressAt_0 rfl (lv_at hl 1 rfl) ?_
  refine lv_bipush (v := (nI 24)) hx hb dX0_pressAt_1 (by decide) ?_
  refine cN_si (As := [.int v1, .int (nI 24)]) (rest := []) (n := 2) CF hZ (c_X7_isBelow l v1 (nI 24) _ h) ⟨va_cnB 2 hts gX0_pressAt_X7_isBelow_n19 rfl rfl rfl (hZ.nest 8 rfl) (hts _ (List.mem_of_getElem? (i := 3) (by decide +kernel : wsX0_pressAt[3]? = some (Cond.initialized RX7)))) hdS_X7_isBelow ⟨Nat.le_of_ble_eq_true rfl, Nat.le_of_ble_eq_true rfl⟩, (hts _ (List.mem_of_getElem? (i := 2) (by decide +kernel : wsX0_pressAt[2]? = some (Cond.static yX7_isBelow)))), trivial⟩ rfl hl.1 rfl (Nat.le_of_ble_eq_true rfl) dX0_pressAt_3 ⟨(Nat.le_of_ble_eq_true rfl), (Nat.le_of_ble_eq_true rfl)⟩ (fun i1 h => ?_)
  refine lv_if_eq (tgt := 18) hx hb dX0_pressAt_6 (by decide) (fun c2 => ?_) (fun c2 => ?_)
  · have h := h.1 c2
    refine lv_iconst (v := (nI 0)) hx hb dX0_pressAt_18 (by decide) ?_
    exact W.iret hx hb hr (fun t ht hW => ⟨(nI 0), rfl, h, ht⟩) no_locs dX0_pressAt_19
  · have h := h.2 c2
    refine lv_aload_n hx hb dX0_pressAt_9 rfl (lv_at hl 0 rfl) ?_
    obtain ⟨fs3, a4, e5, e5', h⟩ := h
    refine r_get C hO 0 0 rfl inX0 (Nat.le_of_ble_eq_true rfl) e5 e5' (List.mem_of_getElem? (i := 1) (by decide +kernel)) dX0_pressAt_10 ?_
    refine lv_iload_n hx hb dX0_pressAt_13 rfl (lv_at hl 1 rfl) ?_
    obtain ⟨n6, f7, i9, e8, e8', exi9, h⟩ := h
    refine r_iald C hO e8 e8' dX0_pressAt_14 ?_
    rw [exi9]
    refine lv_goto (tgt := 19) hx hb dX0_pressAt_15 (by decide) ?_
    exact W.iret hx hb hr (fun t ht hW => ⟨i9, rfl, h, ht⟩) no_locs dX0_pressAt_19
theorem hdS_X0_add : yX0_add.cls ≠ "java/lang/invoke/MethodHandle" ∧ yX0_add.cls ≠ "java/lang/invoke/VarHandle" ∧ (parseMethodDescriptor yX0_add.desc).map (fun d => d.parameters.length) = some 1 := by decide +kernel
set_option maxHeartbeats 4000000 in
set_option maxRecDepth 100000 in
theorem c_X0_add (l : Launch) (D : va_G) (Y : Nat → ClassId) (L : List Nat) (S : PS) (sz : Nat) (a0 : Nat) (v1 : Int32) (Post : PS → Prop) (h : wp_X0_add S a0 v1 Post) : Met l yX0_add wsX0_add ({ frames := 1, cells := 0, slots := 0, locals := 21 }) (va_Pc [.ref a0, .int v1] (PrO D Y L S sz)) (va_Qv Post (QtO D Y (fR L sz)) (fR L sz)) 0 0 (fR L sz) := by
  refine Met.ofW (cc := cX0_add) (maxL := 2) (ret := none) (by decide) rfl ?_
  intro p e s m args below meth c s₁ B hml hv
  obtain ⟨rfl, hsz, hJ, hP, hK, hD0, hZ⟩ := hv
  have hx := B.exec
  have hb := B.bytes
  have hr := B.returns
  have hts := atoms_spec (ws := wsX0_add) B.pre
  have hown : s.vm.findClass RX0 = some m.cls := findClass_of_methodNamed B.named
  have hlocks := B.notSynchronized
  have CF : CallFix p m c cX0_add 2 s ([.ref a0, .int v1] : List Value).toArray wsX0_add RX0 := ⟨hx, hb, hml, hown, hts⟩
  have C : CX p m c cX0_add 2 s ([.ref a0, .int v1] : List Value).toArray wsX0_add RX0 D Y := ⟨CF, hK, hZ⟩
  have hO : HO D Y (fR L sz) s.heap S s.heap [] := HO.entry hsz hJ hP hD0
  subst hsz
  have inX0 : ∀ w ∈ wsX00, w ∈ wsX0_add := fun w h => List.mem_cons_of_mem _ (List.mem_append_right _ h)
  have hl := lv_entry ([.ref a0, .int v1]) (n := 2) (Nat.le_of_ble_eq_true rfl)
  rw [lg_entry_eq]
  generalize (lg_sl ([.ref a0, .int v1]) ++ List.replicate (2 - (lg_sl ([.ref a0, .int v1])).length) Slot.unset).toArray = ls at hl ⊢
  have hl : lv_has ls 2 [(0, .ref a0), (1, .int v1)] := hl
  unfold wp_X0_add at h
  refine lv_aload_n hx hb dX0_add_0 rfl (lv_at hl 0 rfl) ?_
  obtain ⟨fs1, i2, e3, e3', h⟩ := h
  refine r_get C hO 0 1 rfl inX0 (Nat.le_of_ble_eq_true rfl) e3 e3' (List.mem_of_getElem? (i := 1) (by decide +kernel)) dX0_add_1 ?_
  refine lv_bipush (v := (nI 24)) hx hb dX0_add_4 (by decide) ?_
  refine cN_si (As := [.int i2, .int (nI 24)]) (rest := []) (n := 2) CF hZ (c_X7_isBelow l i2 (nI 24) _ h) ⟨va_cnB 2 hts gX0_add_X7_isBelow_n19 rfl rfl rfl (hZ.nest 8 rfl) (hts _ (List.mem_of_getElem? (i := 4) (by decide +kernel : wsX0_add[4]? = some (Cond.initialized RX7)))) hdS_X7_isBelow ⟨Nat.le_of_ble_eq_true rfl, Nat.le_of_ble_eq_true rfl⟩, (hts _ (List.mem_of_getElem? (i := 3) (by decide +kernel : wsX0_add[3]? = some (Cond.static yX7_isBelow)))), trivial⟩ rfl hl.1 rfl (Nat.le_of_ble_eq_true rfl) dX0_add_6 ⟨(Nat.le_of_ble_eq_true rfl), (Nat.le_of_ble_eq_true rfl)⟩ (fun i4 h => ?_)
  refine lv_if_ne (tgt := 13) hx hb dX0_add_9 (by decide) (fun c5 => ?_) (fun c5 => ?_)
  · have h := h.2 c5
    refine lv_aload_n hx hb dX0_add_13 rfl (lv_at hl 0 rfl) ?_
    obtain ⟨fs6, a7, e8, e8', h⟩ := h
    refine r_get C hO 0 0 rfl inX0 (Nat.le_of_ble_eq_true rfl) e8 e8' (List.mem_of_getElem? (i := 2) (by decide +kernel)) dX0_add_14 ?_
    refine lv_aload_n hx hb dX0_add_17 rfl (lv_at hl 0 rfl) ?_
    obtain ⟨fs9, i10, e11, e11', h⟩ := h
    refine r_get C hO 0 1 rfl inX0 (Nat.le_of_ble_eq_true rfl) e11 e11' (List.mem_of_getElem? (i := 1) (by decide +kernel)) dX0_add_18 ?_
    refine lv_iload_n hx hb dX0_add_21 rfl (lv_at hl 1 rfl) ?_
    obtain ⟨n12, f13, e14, e14', h⟩ := h
    refine r_iast C hO e14 e14' dX0_add_22 (fun H locs hO => ?_)
    obtain ⟨S15, eS15⟩ : ∃ Sx, Sx = va_up S a7 (aI n12 (upd f13 (i10).toNatClampNeg v1)) := ⟨_, rfl⟩
    rw [← eS15] at hO
    have h := h S15 eS15
    refine lv_aload_n hx hb dX0_add_23 rfl (lv_at hl 0 rfl) ?_
    refine lv_dup hx hb dX0_add_24 rfl ?_
    obtain ⟨fs16, i17, e18, e18', h⟩ := h
    refine r_get C hO 0 1 rfl inX0 (Nat.le_of_ble_eq_true rfl) e18 e18' (List.mem_of_getElem? (i := 1) (by decide +kernel)) dX0_add_25 ?_
    refine lv_iconst (v := (nI 1)) hx hb dX0_add_28 (by decide) ?_
    refine lv_iadd hx hb dX0_add_29 ?_
    obtain ⟨fs19, e20, e20', h⟩ := h
    refine r_put C hO 0 1 rfl inX0 tyX0_ok nmX0 (Nat.le_of_ble_eq_true rfl) rfl rfl rfl e20 e20' (List.mem_of_getElem? (i := 1) (by decide +kernel)) dX0_add_30 (fun H locs hO => ?_)
    obtain ⟨S21, eS21⟩ : ∃ Sx, Sx = va_up S15 a0 (.inl (0, fs19.set 1 (.int (i17 + (nI 1))))) := ⟨_, rfl⟩
    rw [← eS21] at hO
    have h := h S21 eS21
    exact W.vret hx hb hr (fun t ht hW => ⟨⟨S21, rfl, h, hO.q ht⟩, hO.f ht⟩) hO.lc dX0_add_33
  · have h := h.1 c5
    exact W.vret hx hb hr (fun t ht hW => ⟨⟨S, rfl, h, hO.q ht⟩, hO.f ht⟩) hO.lc dX0_add_12
theorem hdS_X0_append : yX0_append.cls ≠ "java/lang/invoke/MethodHandle" ∧ yX0_append.cls ≠ "java/lang/invoke/VarHandle" ∧ (parseMethodDescriptor yX0_append.desc).map (fun d => d.parameters.length) = some 1 := by decide +kernel
set_option maxHeartbeats 4000000 in
set_option maxRecDepth 100000 in
theorem c_X0_append (l : Launch) (D : va_G) (Y : Nat → ClassId) (L : List Nat) (S : PS) (sz : Nat) (a0 : Nat) (v1 : Nat) (Post : PS → Prop) (h : wp_X0_append S a0 v1 Post) : Met l yX0_append wsX0_append ({ frames := 2, cells := 0, slots := 0, locals := 42 }) (va_Pc [.ref a0, .ref v1] (PrO D Y L S sz)) (va_Qv Post (QtO D Y (fR L sz)) (fR L sz)) 0 0 (fR L sz) := by
  refine Met.ofW (cc := cX0_append) (maxL := 3) (ret := none) (by decide) rfl ?_
  intro p e s m args below meth c s₁ B hml hv
  obtain ⟨rfl, hsz, hJ, hP, hK, hD0, hZ⟩ := hv
  have hx := B.exec
  have hb := B.bytes
  have hr := B.returns
  have hts := atoms_spec (ws := wsX0_append) B.pre
  have hown : s.vm.findClass RX0 = some m.cls := findClass_of_methodNamed B.named
  have hlocks := B.notSynchronized
  have CF : CallFix p m c cX0_append 3 s ([.ref a0, .ref v1] : List Value).toArray wsX0_append RX0 := ⟨hx, hb, hml, hown, hts⟩
  have C : CX p m c cX0_append 3 s ([.ref a0, .ref v1] : List Value).toArray wsX0_append RX0 D Y := ⟨CF, hK, hZ⟩
  have hO : HO D Y (fR L sz) s.heap S s.heap [] := HO.entry hsz hJ hP hD0
  subst hsz
  have inX0 : ∀ w ∈ wsX00, w ∈ wsX0_append := fun w h => List.mem_cons_of_mem _ (List.mem_append_right _ h)
  have hl := lv_entry ([.ref a0, .ref v1]) (n := 3) (Nat.le_of_ble_eq_true rfl)
  rw [lg_entry_eq]
  generalize (lg_sl ([.ref a0, .ref v1]) ++ List.replicate (3 - (lg_sl ([.ref a0, .ref v1])).length) Slot.unset).toArray = ls at hl ⊢
  have hl : lv_has ls 3 [(0, .ref a0), (1, .ref v1)] := hl
  unfold wp_X0_append at h
  refine lv_iconst (v := (nI 0)) hx hb dX0_append_0 (by decide) ?_
  refine lv_istore_n (lv' := [(2, .int (nI 0)), (0, .ref a0), (1, .ref v1)]) hx hb dX0_append_1 rfl hl (by decide) rfl (fun ls hl => ?_)
  obtain ⟨n15, h⟩ := h
  refine lp_W (nL := 3) (fun q => [(2, .int q.1), (0, .ref a0), (1, .ref v1)]) (fun q => q.2) h (lv_sub hl [0, 1, 2] rfl) hO (fun K2 ih2 q ls H locs h hl hO => ?_)
  obtain ⟨i1, S2⟩ := q
  have h : wpb_X0_append_2 a0 v1 Post K2 i1 S2 := h
  have hl : lv_has ls 3 [(2, .int i1), (0, .ref a0), (1, .ref v1)] := hl
  have hO : HO D Y (fR L s.heap.size) s.heap S2 H locs := hO
  unfold wpb_X0_append_2 at h
  refine lv_iload_n hx hb dX0_append_2 rfl (lv_at hl 0 rfl) ?_
  refine lv_aload_n hx hb dX0_append_3 rfl (lv_at hl 2 rfl) ?_
  obtain ⟨fs3, i4, e5, e5', h⟩ := h
  refine r_get C hO 0 1 rfl inX0 (Nat.le_of_ble_eq_true rfl) e5 e5' (List.mem_of_getElem? (i := 1) (by decide +kernel)) dX0_append_4 ?_
  refine lv_icmp_ge (tgt := 31) hx hb dX0_append_7 (by decide) (fun c6 => ?_) (fun c6 => ?_)
  · have h := h.1 c6
    exact W.vret hx hb hr (fun t ht hW => ⟨⟨S2, rfl, h, hO.q ht⟩, hO.f ht⟩) hO.lc dX0_append_31
  · have h := h.2 c6
    refine lv_iload_n hx hb dX0_append_10 rfl (lv_at hl 0 rfl) ?_
    refine lv_bipush (v := (nI 24)) hx hb dX0_append_11 (by decide) ?_
    refine lv_icmp_ge (tgt := 31) hx hb dX0_append_13 (by decide) (fun c7 => ?_) (fun c7 => ?_)
    · have h := h.1 c7
      exact W.vret hx hb hr (fun t ht hW => ⟨⟨S2, rfl, h, hO.q ht⟩, hO.f ht⟩) hO.lc dX0_append_31
    · have h := h.2 c7
      refine lv_aload_n hx hb dX0_append_16 rfl (lv_at hl 1 rfl) ?_
      refine lv_aload_n hx hb dX0_append_17 rfl (lv_at hl 2 rfl) ?_
      refine lv_iload_n hx hb dX0_append_18 rfl (lv_at hl 0 rfl) ?_
      obtain ⟨fs10, e9, h⟩ := h
      refine cV_ri (As := [.int i1]) (rest := [.ref a0]) (n := 1) C hO (fun L => c_X0_pressAt l D Y L S2 H.size v1 i1 _ h) 0 rfl e9 (cwV 1 hts gX0_append_X0_pressAt rfl rfl rfl ⟨rfl, hdS_X0_pressAt⟩ ⟨Nat.le_of_ble_eq_true rfl, Nat.le_of_ble_eq_true rfl⟩) rfl hl.1 rfl (Nat.le_of_ble_eq_true rfl) dX0_append_19 ⟨(Nat.le_of_ble_eq_true rfl), (Nat.le_of_ble_eq_true rfl)⟩ (fun i8 h => ?_)
      obtain ⟨fs13, e12, h⟩ := h
      refine cV_wv (As := [.int i8]) (rest := []) (n := 1) C hO (fun L => c_X0_add l D Y L S2 H.size a0 i8 _ h) 0 rfl e12 (cwV 1 hts gX0_append_X0_add rfl rfl rfl ⟨rfl, hdS_X0_add⟩ ⟨Nat.le_of_ble_eq_true rfl, Nat.le_of_ble_eq_true rfl⟩) rfl hl.1 rfl (Nat.le_of_ble_eq_true rfl) dX0_append_22 ⟨(Nat.le_of_ble_eq_true rfl), (Nat.le_of_ble_eq_true rfl)⟩ (fun S11 H locs h hO => ?_)
      obtain ⟨i14, ei14⟩ : ∃ y : Int32, y = i1 + (nI 1) := ⟨_, rfl⟩
      have h := h i14 ei14
      refine lv_iinc (v := i14) (lv' := [(2, .int i14), (0, .ref a0), (1, .ref v1)]) hx hb dX0_append_25 hl (k := 0) rfl (by rw [ei14]; rfl) (by decide) rfl (fun ls hl => ?_)
      refine lv_goto (tgt := 2) hx hb dX0_append_28 (by decide) ?_
      exact ih2 (i14, S11) _ _ _ h (lv_sub hl [0, 1, 2] rfl) hO
theorem hdS_X0_appendTurned : yX0_appendTurned.cls ≠ "java/lang/invoke/MethodHandle" ∧ yX0_appendTurned.cls ≠ "java/lang/invoke/VarHandle" ∧ (parseMethodDescriptor yX0_appendTurned.desc).map (fun d => d.parameters.length) = some 1 := by decide +kernel
set_option maxHeartbeats 4000000 in
set_option maxRecDepth 100000 in
theorem c_X0_appendTurned (l : Launch) (D : va_G) (Y : Nat → ClassId) (L : List Nat) (S : PS) (sz : Nat) (a0 : Nat) (v1 : Nat) (Post : PS → Prop) (h : wp_X0_appendTurned S a0 v1 Post) : Met l yX0_appendTurned wsX0_appendTurned ({ frames := 2, cells := 0, slots := 0, locals := 42 }) (va_Pc [.ref a0, .ref v1] (PrO D Y L S sz)) (va_Qv Post (QtO D Y (fR L sz)) (fR L sz)) 0 0 (fR L sz) := by
  refine Met.ofW (cc := cX0_appendTurned) (maxL := 3) (ret := none) (by decide) rfl ?_
  intro p e s m args below meth c s₁ B hml hv
  obtain ⟨rfl, hsz, hJ, hP, hK, hD0, hZ⟩ := hv
  have hx := B.exec
  have hb := B.bytes
  have hr := B.returns
  have hts := atoms_spec (ws := wsX0_appendTurned) B.pre
  have hown : s.vm.findClass RX0 = some m.cls := findClass_of_methodNamed B.named
  have hlocks := B.notSynchronized
  have CF : CallFix p m c cX0_appendTurned 3 s ([.ref a0, .ref v1] : List Value).toArray wsX0_appendTurned RX0 := ⟨hx, hb, hml, hown, hts⟩
  have C : CX p m c cX0_appendTurned 3 s ([.ref a0, .ref v1] : List Value).toArray wsX0_appendTurned RX0 D Y := ⟨CF, hK, hZ⟩
  have hO : HO D Y (fR L sz) s.heap S s.heap [] := HO.entry hsz hJ hP hD0
  subst hsz
  have inX0 : ∀ w ∈ wsX00, w ∈ wsX0_appendTurned := fun w h => List.mem_cons_of_mem _ (List.mem_append_right _ h)
  have hl := lv_entry ([.ref a0, .ref v1]) (n := 3) (Nat.le_of_ble_eq_true rfl)
  rw [lg_entry_eq]
  generalize (lg_sl ([.ref a0, .ref v1]) ++ List.replicate (3 - (lg_sl ([.ref a0, .ref v1])).length) Slot.unset).toArray = ls at hl ⊢
  have hl : lv_has ls 3 [(0, .ref a0), (1, .ref v1)] := hl
  unfold wp_X0_appendTurned at h
  refine lv_aload_n hx hb dX0_appendTurned_0 rfl (lv_at hl 1 rfl) ?_
  obtain ⟨fs1, i2, e3, e3', h⟩ := h
  refine r_get C hO 0 1 rfl inX0 (Nat.le_of_ble_eq_true rfl) e3 e3' (List.mem_of_getElem? (i := 1) (by decide +kernel)) dX0_appendTurned_1 ?_
  refine lv_iconst (v := (nI 1)) hx hb dX0_appendTurned_4 (by decide) ?_
  refine lv_isub hx hb dX0_appendTurned_5 ?_
  refine lv_topi (fun i4 ei4 => ?_)
  have h := h i4 ei4
  refine lv_istore_n (lv' := [(2, .int i4), (0, .ref a0), (1, .ref v1)]) hx hb dX0_appendTurned_6 rfl hl (by decide) rfl (fun ls hl => ?_)
  obtain ⟨n15, h⟩ := h
  refine lp_W (nL := 3) (fun q => [(2, .int q.1), (0, .ref a0), (1, .ref v1)]) (fun q => q.2) h (lv_sub hl [0, 1, 2] rfl) hO (fun K7 ih7 q ls H locs h hl hO => ?_)
  obtain ⟨i5, S6⟩ := q
  have h : wpb_X0_appendTurned_7 a0 v1 Post K7 i5 S6 := h
  have hl : lv_has ls 3 [(2, .int i5), (0, .ref a0), (1, .ref v1)] := hl
  have hO : HO D Y (fR L s.heap.size) s.heap S6 H locs := hO
  unfold wpb_X0_appendTurned_7 at h
  refine lv_iload_n hx hb dX0_appendTurned_7 rfl (lv_at hl 0 rfl) ?_
  refine lv_if_lt (tgt := 32) hx hb dX0_appendTurned_8 (by decide) (fun c7 => ?_) (fun c7 => ?_)
  · have h := h.1 c7
    exact W.vret hx hb hr (fun t ht hW => ⟨⟨S6, rfl, h, hO.q ht⟩, hO.f ht⟩) hO.lc dX0_appendTurned_32
  · have h := h.2 c7
    refine lv_aload_n hx hb dX0_appendTurned_11 rfl (lv_at hl 1 rfl) ?_
    refine lv_aload_n hx hb dX0_appendTurned_12 rfl (lv_at hl 2 rfl) ?_
    refine lv_iload_n hx hb dX0_appendTurned_13 rfl (lv_at hl 0 rfl) ?_
    obtain ⟨fs10, e9, h⟩ := h
    refine cV_ri (As := [.int i5]) (rest := [.ref a0]) (n := 1) C hO (fun L => c_X0_pressAt l D Y L S6 H.size v1 i5 _ h) 0 rfl e9 (cwV 1 hts gX0_appendTurned_X0_pressAt rfl rfl rfl ⟨rfl, hdS_X0_pressAt⟩ ⟨Nat.le_of_ble_eq_true rfl, Nat.le_of_ble_eq_true rfl⟩) rfl hl.1 rfl (Nat.le_of_ble_eq_true rfl) dX0_appendTurned_14 ⟨(Nat.le_of_ble_eq_true rfl), (Nat.le_of_ble_eq_true rfl)⟩ (fun i8 h => ?_)
    refine lv_bipush (v := (nI 6)) hx hb dX0_appendTurned_17 (by decide) ?_
    refine lv_iadd hx hb dX0_appendTurned_19 ?_
    refine lv_bipush (v := (nI 12)) hx hb dX0_appendTurned_20 (by decide) ?_
    refine lv_irem hx hb dX0_appendTurned_22 (by decide) ?_
    obtain ⟨fs13, e12, h⟩ := h
    refine cV_wv (As := [.int ((i8 + (nI 6)) - (i8 + (nI 6)) / (nI 12) * (nI 12))]) (rest := []) (n := 1) C hO (fun L => c_X0_add l D Y L S6 H.size a0 (((i8 + (nI 6)) - (i8 + (nI 6)) / (nI 12) * (nI 12))) _ h) 0 rfl e12 (cwV 1 hts gX0_appendTurned_X0_add rfl rfl rfl ⟨rfl, hdS_X0_add⟩ ⟨Nat.le_of_ble_eq_true rfl, Nat.le_of_ble_eq_true rfl⟩) rfl hl.1 rfl (Nat.le_of_ble_eq_true rfl) dX0_appendTurned_23 ⟨(Nat.le_of_ble_eq_true rfl), (Nat.le_of_ble_eq_true rfl)⟩ (fun S11 H locs h hO => ?_)
    obtain ⟨i14, ei14⟩ : ∃ y : Int32, y = i5 + (-1 : Int32) := ⟨_, rfl⟩
    have h := h i14 ei14
    refine lv_iinc (v := i14) (lv' := [(2, .int i14), (0, .ref a0), (1, .ref v1)]) hx hb dX0_appendTurned_26 hl (k := 0) rfl (by rw [ei14]; rfl) (by decide) rfl (fun ls hl => ?_)
    refine lv_goto (tgt := 7) hx hb dX0_appendTurned_29 (by decide) ?_
    exact ih7 (i14, S11) _ _ _ h (lv_sub hl [0, 1, 2] rfl) hO
theorem hdS_X0_copyFrom : yX0_copyFrom.cls ≠ "java/lang/invoke/MethodHandle" ∧ yX0_copyFrom.cls ≠ "java/lang/invoke/VarHandle" ∧ (parseMethodDescriptor yX0_copyFrom.desc).map (fun d => d.parameters.length) = some 1 := by decide +kernel
set_option maxHeartbeats 4000000 in
set_option maxRecDepth 100000 in
theorem c_X0_copyFrom (l : Launch) (D : va_G) (Y : Nat → ClassId) (L : List Nat) (S : PS) (sz : Nat) (a0 : Nat) (v1 : Nat) (Post : PS → Prop) (h : wp_X0_copyFrom S a0 v1 Post) : Met l yX0_copyFrom wsX0_copyFrom ({ frames := 1, cells := 0, slots := 0, locals := 18 }) (va_Pc [.ref a0, .ref v1] (PrO D Y L S sz)) (va_Qv Post (QtO D Y (fR L sz)) (fR L sz)) 0 0 (fR L sz) := by
  refine Met.ofW (cc := cX0_copyFrom) (maxL := 2) (ret := none) (by decide) rfl ?_
  intro p e s m args below meth c s₁ B hml hv
  obtain ⟨rfl, hsz, hJ, hP, hK, hD0, hZ⟩ := hv
  have hx := B.exec
  have hb := B.bytes
  have hr := B.returns
  have hts := atoms_spec (ws := wsX0_copyFrom) B.pre
  have hown : s.vm.findClass RX0 = some m.cls := findClass_of_methodNamed B.named
  have hlocks := B.notSynchronized
  have CF : CallFix p m c cX0_copyFrom 2 s ([.ref a0, .ref v1] : List Value).toArray wsX0_copyFrom RX0 := ⟨hx, hb, hml, hown, hts⟩
  have C : CX p m c cX0_copyFrom 2 s ([.ref a0, .ref v1] : List Value).toArray wsX0_copyFrom RX0 D Y := ⟨CF, hK, hZ⟩
  have hO : HO D Y (fR L sz) s.heap S s.heap [] := HO.entry hsz hJ hP hD0
  subst hsz
  have inX0 : ∀ w ∈ wsX00, w ∈ wsX0_copyFrom := fun w h => List.mem_cons_of_mem _ (List.mem_append_right _ h)
  have hl := lv_entry ([.ref a0, .ref v1]) (n := 2) (Nat.le_of_ble_eq_true rfl)
  rw [lg_entry_eq]
  generalize (lg_sl ([.ref a0, .ref v1]) ++ List.replicate (2 - (lg_sl ([.ref a0, .ref v1])).length) Slot.unset).toArray = ls at hl ⊢
  have hl : lv_has ls 2 [(0, .ref a0), (1, .ref v1)] := hl
  unfold wp_X0_copyFrom at h
  refine lv_aload_n hx hb dX0_copyFrom_0 rfl (lv_at hl 1 rfl) ?_
  obtain ⟨fs1, a2, e3, e3', h⟩ := h
  refine r_get C hO 0 0 rfl inX0 (Nat.le_of_ble_eq_true rfl) e3 e3' (List.mem_of_getElem? (i := 1) (by decide +kernel)) dX0_copyFrom_1 ?_
  refine lv_iconst (v := (nI 0)) hx hb dX0_copyFrom_4 (by decide) ?_
  refine lv_aload_n hx hb dX0_copyFrom_5 rfl (lv_at hl 0 rfl) ?_
  obtain ⟨fs4, a5, e6, e6', h⟩ := h
  refine r_get C hO 0 0 rfl inX0 (Nat.le_of_ble_eq_true rfl) e6 e6' (List.mem_of_getElem? (i := 1) (by decide +kernel)) dX0_copyFrom_6 ?_
  refine lv_iconst (v := (nI 0)) hx hb dX0_copyFrom_9 (by decide) ?_
  refine lv_bipush (v := (nI 24)) hx hb dX0_copyFrom_10 (by decide) ?_
  obtain ⟨n9, f10, n11, f12, e8, e8', e8a, e8b, e8c, e8d, e8e, h⟩ := h
  refine r_copy C hO hl.1 (List.mem_of_getElem? (i := 2) (by decide +kernel)) (List.mem_of_getElem? (i := 3) (by decide +kernel)) (List.mem_of_getElem? (i := 4) (by decide +kernel)) (List.mem_of_getElem? (i := 5) (by decide +kernel)) e8 e8' e8a e8b e8c e8d e8e (Nat.le_of_ble_eq_true rfl) (Nat.le_of_ble_eq_true rfl) dX0_copyFrom_12 (fun H locs hO => ?_)
  obtain ⟨S7, eS7⟩ : ∃ Sx, Sx = va_up S a5 (aI n11 (va_cpy f10 f12 ((nI 0)).toNatClampNeg ((nI 0)).toNatClampNeg ((nI 24)).toNatClampNeg)) := ⟨_, rfl⟩
  rw [← eS7] at hO
  have h := h S7 eS7
  refine lv_aload_n hx hb dX0_copyFrom_15 rfl (lv_at hl 0 rfl) ?_
  refine lv_aload_n hx hb dX0_copyFrom_16 rfl (lv_at hl 1 rfl) ?_
  obtain ⟨fs13, i14, e15, e15', h⟩ := h
  refine r_get C hO 0 1 rfl inX0 (Nat.le_of_ble_eq_true rfl) e15 e15' (List.mem_of_getElem? (i := 6) (by decide +kernel)) dX0_copyFrom_17 ?_
  obtain ⟨fs16, e17, e17', h⟩ := h
  refine r_put C hO 0 1 rfl inX0 tyX0_ok nmX0 (Nat.le_of_ble_eq_true rfl) rfl rfl rfl e17 e17' (List.mem_of_getElem? (i := 6) (by decide +kernel)) dX0_copyFrom_20 (fun H locs hO => ?_)
  obtain ⟨S18, eS18⟩ : ∃ Sx, Sx = va_up S7 a0 (.inl (0, fs16.set 1 (.int i14))) := ⟨_, rfl⟩
  rw [← eS18] at hO
  have h := h S18 eS18
  exact W.vret hx hb hr (fun t ht hW => ⟨⟨S18, rfl, h, hO.q ht⟩, hO.f ht⟩) hO.lc dX0_copyFrom_23
theorem hdS_X1_init : yX1_init.cls ≠ "java/lang/invoke/MethodHandle" ∧ yX1_init.cls ≠ "java/lang/invoke/VarHandle" ∧ (parseMethodDescriptor yX1_init.desc).map (fun d => d.parameters.length) = some 0 := by decide +kernel
set_option maxHeartbeats 4000000 in
set_option maxRecDepth 100000 in
theorem c_X1_init (l : Launch) (D : va_G) (Y : Nat → ClassId) (L : List Nat) (S : PS) (sz : Nat) (a0 : Nat) (Post : PS → Prop) (h : wp_X1_init S a0 Post) : Met l yX1_init wsX1_init ({ frames := 2, cells := 14, slots := 168, locals := 32 }) (va_Pc [.ref a0] (PrO D Y L S sz)) (va_Qv Post (QtO D Y (fR L sz)) (fR L sz)) 14 168 (fR L sz) := by
  refine Met.ofW (cc := cX1_init) (maxL := 2) (ret := none) (by decide) rfl ?_
  intro p e s m args below meth c s₁ B hml hv
  obtain ⟨rfl, hsz, hJ, hP, hK, hD0, hZ⟩ := hv
  have hx := B.exec
  have hb := B.bytes
  have hr := B.returns
  have hts := atoms_spec (ws := wsX1_init) B.pre
  have hown : s.vm.findClass RX1 = some m.cls := findClass_of_methodNamed B.named
  have hlocks := B.notSynchronized
  have hin : meth.name = "<init>" := (name_of_methodNamed B.named B.method).1
  have CF : CallFix p m c cX1_init 2 s ([.ref a0] : List Value).toArray wsX1_init RX1 := ⟨hx, hb, hml, hown, hts⟩
  have C : CX p m c cX1_init 2 s ([.ref a0] : List Value).toArray wsX1_init RX1 D Y := ⟨CF, hK, hZ⟩
  have hO : HO D Y (fR L sz) s.heap S s.heap [] := HO.entry hsz hJ hP hD0
  subst hsz
  have inX0 : ∀ w ∈ wsX00, w ∈ wsX1_init := fun w h => List.mem_cons_of_mem _ (List.mem_append_right _ h)
  have inX1 : ∀ w ∈ wsX10, w ∈ wsX1_init := fun w h => List.mem_cons_of_mem _ (List.mem_append_left _ (List.mem_append_right _ h))
  have hl := lv_entry ([.ref a0]) (n := 2) (Nat.le_of_ble_eq_true rfl)
  rw [lg_entry_eq]
  generalize (lg_sl ([.ref a0]) ++ List.replicate (2 - (lg_sl ([.ref a0])).length) Slot.unset).toArray = ls at hl ⊢
  have hl : lv_has ls 2 [(0, .ref a0)] := hl
  unfold wp_X1_init at h
  refine lv_aload_n hx hb dX1_init_0 rfl (lv_at hl 0 rfl) ?_
  refine W.objInit hx hb hown (hts _ (List.mem_of_getElem? (i := 1) (by decide +kernel : wsX1_init[1]? = some (Cond.methodLink RX1 3 objectInit)))) (hts _ (List.mem_of_getElem? (i := 2) (by decide +kernel : wsX1_init[2]? = some (Cond.instanceMethod objectInit)))) (hts _ (List.mem_of_getElem? (i := 3) (by decide +kernel : wsX1_init[3]? = some (Cond.code objectInit ⟨#[0xb1]⟩ 1 none)))) rfl (by rw [hml]; exact hl.1) rfl dX1_init_1 (Nat.le_of_ble_eq_true rfl) (Nat.le_of_ble_eq_true rfl) ?_
  refine W.eq (g2 := F0 m 4 ls []) rfl ?_
  refine lv_aload_n hx hb dX1_init_4 rfl (lv_at hl 0 rfl) ?_
  refine lv_ldc2 hx hb hown (hts _ (List.mem_of_getElem? (i := 4) (by decide +kernel : wsX1_init[4]? = some (Cond.constantLong RX1 11 (92573999051280))))) dX1_init_5 ?_
  obtain ⟨fs1, e2, e2', h⟩ := h
  refine r_put C hO 1 0 rfl inX1 tyX1_ok nmX1 (Nat.le_of_ble_eq_true rfl) rfl rfl rfl e2 e2' (List.mem_of_getElem? (i := 5) (by decide +kernel)) dX1_init_8 (fun H locs hO => ?_)
  obtain ⟨S3, eS3⟩ : ∃ Sx, Sx = va_up S a0 (.inl (1, fs1.set 0 (.long (92573999051280 : Int64)))) := ⟨_, rfl⟩
  rw [← eS3] at hO
  have h := h S3 eS3
  refine lv_aload_n hx hb dX1_init_11 rfl (lv_at hl 0 rfl) ?_
  refine lv_ldc2 hx hb hown (hts _ (List.mem_of_getElem? (i := 6) (by decide +kernel : wsX1_init[6]? = some (Cond.constantLong RX1 19 (205163983024656))))) dX1_init_12 ?_
  obtain ⟨fs4, e5, e5', h⟩ := h
  refine r_put C hO 1 1 rfl inX1 tyX1_ok nmX1 (Nat.le_of_ble_eq_true rfl) rfl rfl rfl e5 e5' (List.mem_of_getElem? (i := 7) (by decide +kernel)) dX1_init_15 (fun H locs hO => ?_)
  obtain ⟨S6, eS6⟩ : ∃ Sx, Sx = va_up S3 a0 (.inl (1, fs4.set 1 (.long (205163983024656 : Int64)))) := ⟨_, rfl⟩
  rw [← eS6] at hO
  have h := h S6 eS6
  refine lv_aload_n hx hb dX1_init_18 rfl (lv_at hl 0 rfl) ?_
  refine lv_lconst (v := (lN 0)) hx hb dX1_init_19 (by decide) ?_
  obtain ⟨fs7, e8, e8', h⟩ := h
  refine r_put C hO 1 2 rfl inX1 tyX1_ok nmX1 (Nat.le_of_ble_eq_true rfl) rfl rfl rfl e8 e8' (List.mem_of_getElem? (i := 8) (by decide +kernel)) dX1_init_20 (fun H locs hO => ?_)
  obtain ⟨S9, eS9⟩ : ∃ Sx, Sx = va_up S6 a0 (.inl (1, fs7.set 2 (.long (lN 0)))) := ⟨_, rfl⟩
  rw [← eS9] at hO
  have h := h S9 eS9
  refine lv_aload_n hx hb dX1_init_23 rfl (lv_at hl 0 rfl) ?_
  refine lv_bipush (v := (nI 6)) hx hb dX1_init_24 (by decide) ?_
  refine r_newa (k := 1) (ty := .int) (N' := 6) C hO (by intro C h; cases h) rfl rfl (List.mem_of_getElem? (i := 9) (by decide +kernel)) (6, .inl (fun _ => 0)) (fun _ => rfl) (by decide) (by decide) (Nat.le_of_ble_eq_true rfl) (Nat.le_of_ble_eq_true rfl) (Nat.le_of_ble_eq_true rfl) dX1_init_26 (fun a10 H hqa10 hO => ?_)
  obtain ⟨S11, eS11⟩ : ∃ Sx, Sx = va_up S9 a10 (aI 6 (fun _ => 0)) := ⟨_, rfl⟩
  have hO := (show HO D Y (fR L s.heap.size) s.heap (va_up S9 a10 (aI 6 (fun _ => 0))) H _ from hO)
  rw [← eS11] at hO
  have h := h a10 hqa10 S11 eS11
  obtain ⟨fs12, e13, e13', h⟩ := h
  refine r_putF C hO 1 3 hin rfl inX1 tyX1_ok nmX1 (Nat.le_of_ble_eq_true rfl) rfl rfl rfl rfl e13 e13' (List.mem_of_getElem? (i := 10) (by decide +kernel)) dX1_init_28 (fun H locs hO => ?_)
  obtain ⟨S14, eS14⟩ : ∃ Sx, Sx = va_up S11 a0 (.inl (1, fs12.set 3 (.ref a10))) := ⟨_, rfl⟩
  rw [← eS14] at hO
  have h := h S14 eS14
  refine lv_aload_n hx hb dX1_init_31 rfl (lv_at hl 0 rfl) ?_
  refine lv_bipush (v := (nI 6)) hx hb dX1_init_32 (by decide) ?_
  refine r_anew (k := 3) (Cn := RX0) (N' := 6) C hO rfl hZ.2.1 (List.mem_of_getElem? (i := 11) (by decide +kernel)) (by decide) (by decide) (Nat.le_of_ble_eq_true rfl) (Nat.le_of_ble_eq_true rfl) (Nat.le_of_ble_eq_true rfl) dX1_init_34 (fun a15 H hqa15 hO => ?_)
  obtain ⟨S16, eS16⟩ : ∃ Sx, Sx = va_up S14 a15 (aD 6 (fun _ => none)) := ⟨_, rfl⟩
  have hO := (show HO D Y (fR L s.heap.size) s.heap (va_up S14 a15 (aD 6 (fun _ => none))) H _ from hO)
  rw [← eS16] at hO
  have h := h a15 hqa15 S16 eS16
  obtain ⟨fs17, e18, e18', h⟩ := h
  refine r_putF C hO 1 4 hin rfl inX1 tyX1_ok nmX1 (Nat.le_of_ble_eq_true rfl) rfl rfl rfl rfl e18 e18' (List.mem_of_getElem? (i := 12) (by decide +kernel)) dX1_init_37 (fun H locs hO => ?_)
  obtain ⟨S19, eS19⟩ : ∃ Sx, Sx = va_up S16 a0 (.inl (1, fs17.set 4 (.ref a15))) := ⟨_, rfl⟩
  rw [← eS19] at hO
  have h := h S19 eS19
  refine lv_aload_n hx hb dX1_init_40 rfl (lv_at hl 0 rfl) ?_
  refine lv_iconst (v := (nI 0)) hx hb dX1_init_41 (by decide) ?_
  obtain ⟨fs20, e21, e21', h⟩ := h
  refine r_put C hO 1 5 rfl inX1 tyX1_ok nmX1 (Nat.le_of_ble_eq_true rfl) rfl rfl rfl e21 e21' (List.mem_of_getElem? (i := 13) (by decide +kernel)) dX1_init_42 (fun H locs hO => ?_)
  obtain ⟨S22, eS22⟩ : ∃ Sx, Sx = va_up S19 a0 (.inl (1, fs20.set 5 (.int (nI 0)))) := ⟨_, rfl⟩
  rw [← eS22] at hO
  have h := h S22 eS22
  refine lv_aload_n hx hb dX1_init_45 rfl (lv_at hl 0 rfl) ?_
  refine lv_iconst (v := (nI 0)) hx hb dX1_init_46 (by decide) ?_
  obtain ⟨fs23, e24, e24', h⟩ := h
  refine r_put C hO 1 6 rfl inX1 tyX1_ok nmX1 (Nat.le_of_ble_eq_true rfl) rfl rfl rfl e24 e24' (List.mem_of_getElem? (i := 14) (by decide +kernel)) dX1_init_47 (fun H locs hO => ?_)
  obtain ⟨S25, eS25⟩ : ∃ Sx, Sx = va_up S22 a0 (.inl (1, fs23.set 6 (.int (nI 0)))) := ⟨_, rfl⟩
  rw [← eS25] at hO
  have h := h S25 eS25
  refine lv_iconst (v := (nI 0)) hx hb dX1_init_50 (by decide) ?_
  refine lv_istore_n (lv' := [(1, .int (nI 0)), (0, .ref a0)]) hx hb dX1_init_51 rfl hl (by decide) rfl (fun ls hl => ?_)
  refine lv_iload_n hx hb dX1_init_52 rfl (lv_at hl 0 rfl) ?_
  refine lv_bipush (v := (nI 6)) hx hb dX1_init_53 (by decide) ?_
  refine lv_icmp_ge (tgt := 73) hx hb dX1_init_55 (by decide) (fun c9 => absurd c9 (by decide)) (fun _ => ?_)
  refine lv_aload_n hx hb dX1_init_58 rfl (lv_at hl 1 rfl) ?_
  obtain ⟨fs26, a27, e28, e28', h⟩ := h
  refine r_get C hO 1 3 rfl inX1 (Nat.le_of_ble_eq_true rfl) e28 e28' (List.mem_of_getElem? (i := 10) (by decide +kernel)) dX1_init_59 ?_
  refine lv_iload_n hx hb dX1_init_62 rfl (lv_at hl 0 rfl) ?_
  refine lv_iconst (v := (nI 1)) hx hb dX1_init_63 (by decide) ?_
  refine lv_iload_n hx hb dX1_init_64 rfl (lv_at hl 0 rfl) ?_
  refine lv_ishl hx hb dX1_init_65 ?_
  obtain ⟨n29, f30, e31, e31', h⟩ := h
  refine r_iast C hO e31 e31' dX1_init_66 (fun H locs hO => ?_)
  obtain ⟨S32, eS32⟩ : ∃ Sx, Sx = va_up S25 a27 (aI n29 (upd f30 ((nI 0)).toNatClampNeg ((nI 1) <<< ((nI 0) &&& 31)))) := ⟨_, rfl⟩
  rw [← eS32] at hO
  have h := h S32 eS32
  refine lv_iinc (v := (nI 1)) (lv' := [(1, .int (nI 1)), (0, .ref a0)]) hx hb dX1_init_67 hl (k := 0) rfl (by decide) (by decide) rfl (fun ls hl => ?_)
  refine lv_goto (tgt := 52) hx hb dX1_init_70 (by decide) ?_
  refine lv_iload_n hx hb dX1_init_52 rfl (lv_at hl 0 rfl) ?_
  refine lv_bipush (v := (nI 6)) hx hb dX1_init_53 (by decide) ?_
  refine lv_icmp_ge (tgt := 73) hx hb dX1_init_55 (by decide) (fun c9 => absurd c9 (by decide)) (fun _ => ?_)
  refine lv_aload_n hx hb dX1_init_58 rfl (lv_at hl 1 rfl) ?_
  obtain ⟨fs33, a34, e35, e35', h⟩ := h
  refine r_get C hO 1 3 rfl inX1 (Nat.le_of_ble_eq_true rfl) e35 e35' (List.mem_of_getElem? (i := 10) (by decide +kernel)) dX1_init_59 ?_
  refine lv_iload_n hx hb dX1_init_62 rfl (lv_at hl 0 rfl) ?_
  refine lv_iconst (v := (nI 1)) hx hb dX1_init_63 (by decide) ?_
  refine lv_iload_n hx hb dX1_init_64 rfl (lv_at hl 0 rfl) ?_
  refine lv_ishl hx hb dX1_init_65 ?_
  obtain ⟨n36, f37, e38, e38', h⟩ := h
  refine r_iast C hO e38 e38' dX1_init_66 (fun H locs hO => ?_)
  obtain ⟨S39, eS39⟩ : ∃ Sx, Sx = va_up S32 a34 (aI n36 (upd f37 ((nI 1)).toNatClampNeg ((nI 1) <<< ((nI 1) &&& 31)))) := ⟨_, rfl⟩
  rw [← eS39] at hO
  have h := h S39 eS39
  refine lv_iinc (v := (nI 2)) (lv' := [(1, .int (nI 2)), (0, .ref a0)]) hx hb dX1_init_67 hl (k := 0) rfl (by decide) (by decide) rfl (fun ls hl => ?_)
  refine lv_goto (tgt := 52) hx hb dX1_init_70 (by decide) ?_
  refine lv_iload_n hx hb dX1_init_52 rfl (lv_at hl 0 rfl) ?_
  refine lv_bipush (v := (nI 6)) hx hb dX1_init_53 (by decide) ?_
  refine lv_icmp_ge (tgt := 73) hx hb dX1_init_55 (by decide) (fun c9 => absurd c9 (by decide)) (fun _ => ?_)
  refine lv_aload_n hx hb dX1_init_58 rfl (lv_at hl 1 rfl) ?_
  obtain ⟨fs40, a41, e42, e42', h⟩ := h
  refine r_get C hO 1 3 rfl inX1 (Nat.le_of_ble_eq_true rfl) e42 e42' (List.mem_of_getElem? (i := 10) (by decide +kernel)) dX1_init_59 ?_
  refine lv_iload_n hx hb dX1_init_62 rfl (lv_at hl 0 rfl) ?_
  refine lv_iconst (v := (nI 1)) hx hb dX1_init_63 (by decide) ?_
  refine lv_iload_n hx hb dX1_init_64 rfl (lv_at hl 0 rfl) ?_
  refine lv_ishl hx hb dX1_init_65 ?_
  obtain ⟨n43, f44, e45, e45', h⟩ := h
  refine r_iast C hO e45 e45' dX1_init_66 (fun H locs hO => ?_)
  obtain ⟨S46, eS46⟩ : ∃ Sx, Sx = va_up S39 a41 (aI n43 (upd f44 ((nI 2)).toNatClampNeg ((nI 1) <<< ((nI 2) &&& 31)))) := ⟨_, rfl⟩
  rw [← eS46] at hO
  have h := h S46 eS46
  refine lv_iinc (v := (nI 3)) (lv' := [(1, .int (nI 3)), (0, .ref a0)]) hx hb dX1_init_67 hl (k := 0) rfl (by decide) (by decide) rfl (fun ls hl => ?_)
  refine lv_goto (tgt := 52) hx hb dX1_init_70 (by decide) ?_
  refine lv_iload_n hx hb dX1_init_52 rfl (lv_at hl 0 rfl) ?_
  refine lv_bipush (v := (nI 6)) hx hb dX1_init_53 (by decide) ?_
  refine lv_icmp_ge (tgt := 73) hx hb dX1_init_55 (by decide) (fun c9 => absurd c9 (by decide)) (fun _ => ?_)
  refine lv_aload_n hx hb dX1_init_58 rfl (lv_at hl 1 rfl) ?_
  obtain ⟨fs47, a48, e49, e49', h⟩ := h
  refine r_get C hO 1 3 rfl inX1 (Nat.le_of_ble_eq_true rfl) e49 e49' (List.mem_of_getElem? (i := 10) (by decide +kernel)) dX1_init_59 ?_
  refine lv_iload_n hx hb dX1_init_62 rfl (lv_at hl 0 rfl) ?_
  refine lv_iconst (v := (nI 1)) hx hb dX1_init_63 (by decide) ?_
  refine lv_iload_n hx hb dX1_init_64 rfl (lv_at hl 0 rfl) ?_
  refine lv_ishl hx hb dX1_init_65 ?_
  obtain ⟨n50, f51, e52, e52', h⟩ := h
  refine r_iast C hO e52 e52' dX1_init_66 (fun H locs hO => ?_)
  obtain ⟨S53, eS53⟩ : ∃ Sx, Sx = va_up S46 a48 (aI n50 (upd f51 ((nI 3)).toNatClampNeg ((nI 1) <<< ((nI 3) &&& 31)))) := ⟨_, rfl⟩
  rw [← eS53] at hO
  have h := h S53 eS53
  refine lv_iinc (v := (nI 4)) (lv' := [(1, .int (nI 4)), (0, .ref a0)]) hx hb dX1_init_67 hl (k := 0) rfl (by decide) (by decide) rfl (fun ls hl => ?_)
  refine lv_goto (tgt := 52) hx hb dX1_init_70 (by decide) ?_
  refine lv_iload_n hx hb dX1_init_52 rfl (lv_at hl 0 rfl) ?_
  refine lv_bipush (v := (nI 6)) hx hb dX1_init_53 (by decide) ?_
  refine lv_icmp_ge (tgt := 73) hx hb dX1_init_55 (by decide) (fun c9 => absurd c9 (by decide)) (fun _ => ?_)
  refine lv_aload_n hx hb dX1_init_58 rfl (lv_at hl 1 rfl) ?_
  obtain ⟨fs54, a55, e56, e56', h⟩ := h
  refine r_get C hO 1 3 rfl inX1 (Nat.le_of_ble_eq_true rfl) e56 e56' (List.mem_of_getElem? (i := 10) (by decide +kernel)) dX1_init_59 ?_
  refine lv_iload_n hx hb dX1_init_62 rfl (lv_at hl 0 rfl) ?_
  refine lv_iconst (v := (nI 1)) hx hb dX1_init_63 (by decide) ?_
  refine lv_iload_n hx hb dX1_init_64 rfl (lv_at hl 0 rfl) ?_
  refine lv_ishl hx hb dX1_init_65 ?_
  obtain ⟨n57, f58, e59, e59', h⟩ := h
  refine r_iast C hO e59 e59' dX1_init_66 (fun H locs hO => ?_)
  obtain ⟨S60, eS60⟩ : ∃ Sx, Sx = va_up S53 a55 (aI n57 (upd f58 ((nI 4)).toNatClampNeg ((nI 1) <<< ((nI 4) &&& 31)))) := ⟨_, rfl⟩
  rw [← eS60] at hO
  have h := h S60 eS60
  refine lv_iinc (v := (nI 5)) (lv' := [(1, .int (nI 5)), (0, .ref a0)]) hx hb dX1_init_67 hl (k := 0) rfl (by decide) (by decide) rfl (fun ls hl => ?_)
  refine lv_goto (tgt := 52) hx hb dX1_init_70 (by decide) ?_
  refine lv_iload_n hx hb dX1_init_52 rfl (lv_at hl 0 rfl) ?_
  refine lv_bipush (v := (nI 6)) hx hb dX1_init_53 (by decide) ?_
  refine lv_icmp_ge (tgt := 73) hx hb dX1_init_55 (by decide) (fun c9 => absurd c9 (by decide)) (fun _ => ?_)
  refine lv_aload_n hx hb dX1_init_58 rfl (lv_at hl 1 rfl) ?_
  obtain ⟨fs61, a62, e63, e63', h⟩ := h
  refine r_get C hO 1 3 rfl inX1 (Nat.le_of_ble_eq_true rfl) e63 e63' (List.mem_of_getElem? (i := 10) (by decide +kernel)) dX1_init_59 ?_
  refine lv_iload_n hx hb dX1_init_62 rfl (lv_at hl 0 rfl) ?_
  refine lv_iconst (v := (nI 1)) hx hb dX1_init_63 (by decide) ?_
  refine lv_iload_n hx hb dX1_init_64 rfl (lv_at hl 0 rfl) ?_
  refine lv_ishl hx hb dX1_init_65 ?_
  obtain ⟨n64, f65, e66, e66', h⟩ := h
  refine r_iast C hO e66 e66' dX1_init_66 (fun H locs hO => ?_)
  obtain ⟨S67, eS67⟩ : ∃ Sx, Sx = va_up S60 a62 (aI n64 (upd f65 ((nI 5)).toNatClampNeg ((nI 1) <<< ((nI 5) &&& 31)))) := ⟨_, rfl⟩
  rw [← eS67] at hO
  have h := h S67 eS67
  refine lv_iinc (v := (nI 6)) (lv' := [(1, .int (nI 6)), (0, .ref a0)]) hx hb dX1_init_67 hl (k := 0) rfl (by decide) (by decide) rfl (fun ls hl => ?_)
  refine lv_goto (tgt := 52) hx hb dX1_init_70 (by decide) ?_
  refine lv_iload_n hx hb dX1_init_52 rfl (lv_at hl 0 rfl) ?_
  refine lv_bipush (v := (nI 6)) hx hb dX1_init_53 (by decide) ?_
  refine lv_icmp_ge (tgt := 73) hx hb dX1_init_55 (by decide) (fun _ => ?_) (fun c9 => absurd c9 (by decide))
  refine lv_iconst (v := (nI 0)) hx hb dX1_init_73 (by decide) ?_
  refine lv_istore_n (lv' := [(1, .int (nI 0)), (0, .ref a0)]) hx hb dX1_init_74 rfl hl (by decide) rfl (fun ls hl => ?_)
  refine lv_iload_n hx hb dX1_init_75 rfl (lv_at hl 0 rfl) ?_
  refine lv_bipush (v := (nI 6)) hx hb dX1_init_76 (by decide) ?_
  refine lv_icmp_ge (tgt := 100) hx hb dX1_init_78 (by decide) (fun c9 => absurd c9 (by decide)) (fun _ => ?_)
  refine lv_aload_n hx hb dX1_init_81 rfl (lv_at hl 1 rfl) ?_
  obtain ⟨fs68, a69, e70, e70', h⟩ := h
  refine r_get C hO 1 4 rfl inX1 (Nat.le_of_ble_eq_true rfl) e70 e70' (List.mem_of_getElem? (i := 12) (by decide +kernel)) dX1_init_82 ?_
  refine lv_iload_n hx hb dX1_init_85 rfl (lv_at hl 0 rfl) ?_
  refine r_new C hO 0 [.null, .int 0] rfl inX0 tyX0_ok (fun j hj => by have hj : j < 2 := hj; rcases (show j = 0 ∨ j = 1 by omega) with rfl | rfl <;> rfl) (N := 2) rfl (List.mem_of_getElem? (i := 11) (by decide +kernel)) (List.mem_of_getElem? (i := 15) (by decide +kernel)) (List.mem_of_getElem? (i := 16) (by decide +kernel)) (Nat.le_of_ble_eq_true rfl) (Nat.le_of_ble_eq_true rfl) dX1_init_86 (fun a71 H hqa71 hO => ?_)
  obtain ⟨S72, eS72⟩ : ∃ Sx, Sx = va_up S67 a71 (.inl (0, [.null, .int 0])) := ⟨_, rfl⟩
  rw [← eS72] at hO
  have h := h a71 hqa71 S72 eS72
  refine lv_dup hx hb dX1_init_89 rfl ?_
  obtain ⟨e74, h⟩ := h
  refine cIN_wv (As := []) (rest := [.ref a71, .int (nI 0), .ref a69]) (n := 0) C hO (fun L => c_X0_init l D Y L S72 H.size a71 _ h) e74 ⟨va_cnB 0 hts gX1_init_X0_init_n44 rfl rfl rfl (hZ.nest 0 rfl) (hts _ (List.mem_of_getElem? (i := 16) (by decide +kernel : wsX1_init[16]? = some (Cond.initialized RX0)))) hdS_X0_init ⟨Nat.le_of_ble_eq_true rfl, Nat.le_of_ble_eq_true rfl⟩, rfl, (hts _ (List.mem_of_getElem? (i := 17) (by decide +kernel : wsX1_init[17]? = some (Cond.instanceMethod yX0_init))))⟩ rfl hl.1 rfl (Nat.le_of_ble_eq_true rfl) dX1_init_90 ⟨(Nat.le_of_ble_eq_true rfl), (Nat.le_of_ble_eq_true rfl)⟩ (fun S73 H locs h hO => ?_)
  obtain ⟨n75, f76, vs77, e78, e78', e78v, h⟩ := h
  refine r_aastD C hO e78 e78' e78v dX1_init_93 (fun H locs hO => ?_)
  obtain ⟨S79, eS79⟩ : ∃ Sx, Sx = va_up S73 a69 (aD n75 (va_up f76 ((nI 0)).toNatClampNeg (some a71))) := ⟨_, rfl⟩
  rw [← eS79] at hO
  have h := h S79 eS79
  refine lv_iinc (v := (nI 1)) (lv' := [(1, .int (nI 1)), (0, .ref a0)]) hx hb dX1_init_94 hl (k := 0) rfl (by decide) (by decide) rfl (fun ls hl => ?_)
  refine lv_goto (tgt := 75) hx hb dX1_init_97 (by decide) ?_
  refine lv_iload_n hx hb dX1_init_75 rfl (lv_at hl 0 rfl) ?_
  refine lv_bipush (v := (nI 6)) hx hb dX1_init_76 (by decide) ?_
  refine lv_icmp_ge (tgt := 100) hx hb dX1_init_78 (by decide) (fun c9 => absurd c9 (by decide)) (fun _ => ?_)
  refine lv_aload_n hx hb dX1_init_81 rfl (lv_at hl 1 rfl) ?_
  obtain ⟨fs80, a81, e82, e82', h⟩ := h
  refine r_get C hO 1 4 rfl inX1 (Nat.le_of_ble_eq_true rfl) e82 e82' (List.mem_of_getElem? (i := 12) (by decide +kernel)) dX1_init_82 ?_
  refine lv_iload_n hx hb dX1_init_85 rfl (lv_at hl 0 rfl) ?_
  refine r_new C hO 0 [.null, .int 0] rfl inX0 tyX0_ok (fun j hj => by have hj : j < 2 := hj; rcases (show j = 0 ∨ j = 1 by omega) with rfl | rfl <;> rfl) (N := 2) rfl (List.mem_of_getElem? (i := 11) (by decide +kernel)) (List.mem_of_getElem? (i := 15) (by decide +kernel)) (List.mem_of_getElem? (i := 16) (by decide +kernel)) (Nat.le_of_ble_eq_true rfl) (Nat.le_of_ble_eq_true rfl) dX1_init_86 (fun a83 H hqa83 hO => ?_)
  obtain ⟨S84, eS84⟩ : ∃ Sx, Sx = va_up S79 a83 (.inl (0, [.null, .int 0])) := ⟨_, rfl⟩
  rw [← eS84] at hO
  have h := h a83 hqa83 S84 eS84
  refine lv_dup hx hb dX1_init_89 rfl ?_
  obtain ⟨e86, h⟩ := h
  refine cIN_wv (As := []) (rest := [.ref a83, .int (nI 1), .ref a81]) (n := 0) C hO (fun L => c_X0_init l D Y L S84 H.size a83 _ h) e86 ⟨va_cnB 0 hts gX1_init_X0_init_n44 rfl rfl rfl (hZ.nest 0 rfl) (hts _ (List.mem_of_getElem? (i := 16) (by decide +kernel : wsX1_init[16]? = some (Cond.initialized RX0)))) hdS_X0_init ⟨Nat.le_of_ble_eq_true rfl, Nat.le_of_ble_eq_true rfl⟩, rfl, (hts _ (List.mem_of_getElem? (i := 17) (by decide +kernel : wsX1_init[17]? = some (Cond.instanceMethod yX0_init))))⟩ rfl hl.1 rfl (Nat.le_of_ble_eq_true rfl) dX1_init_90 ⟨(Nat.le_of_ble_eq_true rfl), (Nat.le_of_ble_eq_true rfl)⟩ (fun S85 H locs h hO => ?_)
  obtain ⟨n87, f88, vs89, e90, e90', e90v, h⟩ := h
  refine r_aastD C hO e90 e90' e90v dX1_init_93 (fun H locs hO => ?_)
  obtain ⟨S91, eS91⟩ : ∃ Sx, Sx = va_up S85 a81 (aD n87 (va_up f88 ((nI 1)).toNatClampNeg (some a83))) := ⟨_, rfl⟩
  rw [← eS91] at hO
  have h := h S91 eS91
  refine lv_iinc (v := (nI 2)) (lv' := [(1, .int (nI 2)), (0, .ref a0)]) hx hb dX1_init_94 hl (k := 0) rfl (by decide) (by decide) rfl (fun ls hl => ?_)
  refine lv_goto (tgt := 75) hx hb dX1_init_97 (by decide) ?_
  refine lv_iload_n hx hb dX1_init_75 rfl (lv_at hl 0 rfl) ?_
  refine lv_bipush (v := (nI 6)) hx hb dX1_init_76 (by decide) ?_
  refine lv_icmp_ge (tgt := 100) hx hb dX1_init_78 (by decide) (fun c9 => absurd c9 (by decide)) (fun _ => ?_)
  refine lv_aload_n hx hb dX1_init_81 rfl (lv_at hl 1 rfl) ?_
  obtain ⟨fs92, a93, e94, e94', h⟩ := h
  refine r_get C hO 1 4 rfl inX1 (Nat.le_of_ble_eq_true rfl) e94 e94' (List.mem_of_getElem? (i := 12) (by decide +kernel)) dX1_init_82 ?_
  refine lv_iload_n hx hb dX1_init_85 rfl (lv_at hl 0 rfl) ?_
  refine r_new C hO 0 [.null, .int 0] rfl inX0 tyX0_ok (fun j hj => by have hj : j < 2 := hj; rcases (show j = 0 ∨ j = 1 by omega) with rfl | rfl <;> rfl) (N := 2) rfl (List.mem_of_getElem? (i := 11) (by decide +kernel)) (List.mem_of_getElem? (i := 15) (by decide +kernel)) (List.mem_of_getElem? (i := 16) (by decide +kernel)) (Nat.le_of_ble_eq_true rfl) (Nat.le_of_ble_eq_true rfl) dX1_init_86 (fun a95 H hqa95 hO => ?_)
  obtain ⟨S96, eS96⟩ : ∃ Sx, Sx = va_up S91 a95 (.inl (0, [.null, .int 0])) := ⟨_, rfl⟩
  rw [← eS96] at hO
  have h := h a95 hqa95 S96 eS96
  refine lv_dup hx hb dX1_init_89 rfl ?_
  obtain ⟨e98, h⟩ := h
  refine cIN_wv (As := []) (rest := [.ref a95, .int (nI 2), .ref a93]) (n := 0) C hO (fun L => c_X0_init l D Y L S96 H.size a95 _ h) e98 ⟨va_cnB 0 hts gX1_init_X0_init_n44 rfl rfl rfl (hZ.nest 0 rfl) (hts _ (List.mem_of_getElem? (i := 16) (by decide +kernel : wsX1_init[16]? = some (Cond.initialized RX0)))) hdS_X0_init ⟨Nat.le_of_ble_eq_true rfl, Nat.le_of_ble_eq_true rfl⟩, rfl, (hts _ (List.mem_of_getElem? (i := 17) (by decide +kernel : wsX1_init[17]? = some (Cond.instanceMethod yX0_init))))⟩ rfl hl.1 rfl (Nat.le_of_ble_eq_true rfl) dX1_init_90 ⟨(Nat.le_of_ble_eq_true rfl), (Nat.le_of_ble_eq_true rfl)⟩ (fun S97 H locs h hO => ?_)
  obtain ⟨n99, f100, vs101, e102, e102', e102v, h⟩ := h
  refine r_aastD C hO e102 e102' e102v dX1_init_93 (fun H locs hO => ?_)
  obtain ⟨S103, eS103⟩ : ∃ Sx, Sx = va_up S97 a93 (aD n99 (va_up f100 ((nI 2)).toNatClampNeg (some a95))) := ⟨_, rfl⟩
  rw [← eS103] at hO
  have h := h S103 eS103
  refine lv_iinc (v := (nI 3)) (lv' := [(1, .int (nI 3)), (0, .ref a0)]) hx hb dX1_init_94 hl (k := 0) rfl (by decide) (by decide) rfl (fun ls hl => ?_)
  refine lv_goto (tgt := 75) hx hb dX1_init_97 (by decide) ?_
  refine lv_iload_n hx hb dX1_init_75 rfl (lv_at hl 0 rfl) ?_
  refine lv_bipush (v := (nI 6)) hx hb dX1_init_76 (by decide) ?_
  refine lv_icmp_ge (tgt := 100) hx hb dX1_init_78 (by decide) (fun c9 => absurd c9 (by decide)) (fun _ => ?_)
  refine lv_aload_n hx hb dX1_init_81 rfl (lv_at hl 1 rfl) ?_
  obtain ⟨fs104, a105, e106, e106', h⟩ := h
  refine r_get C hO 1 4 rfl inX1 (Nat.le_of_ble_eq_true rfl) e106 e106' (List.mem_of_getElem? (i := 12) (by decide +kernel)) dX1_init_82 ?_
  refine lv_iload_n hx hb dX1_init_85 rfl (lv_at hl 0 rfl) ?_
  refine r_new C hO 0 [.null, .int 0] rfl inX0 tyX0_ok (fun j hj => by have hj : j < 2 := hj; rcases (show j = 0 ∨ j = 1 by omega) with rfl | rfl <;> rfl) (N := 2) rfl (List.mem_of_getElem? (i := 11) (by decide +kernel)) (List.mem_of_getElem? (i := 15) (by decide +kernel)) (List.mem_of_getElem? (i := 16) (by decide +kernel)) (Nat.le_of_ble_eq_true rfl) (Nat.le_of_ble_eq_true rfl) dX1_init_86 (fun a107 H hqa107 hO => ?_)
  obtain ⟨S108, eS108⟩ : ∃ Sx, Sx = va_up S103 a107 (.inl (0, [.null, .int 0])) := ⟨_, rfl⟩
  rw [← eS108] at hO
  have h := h a107 hqa107 S108 eS108
  refine lv_dup hx hb dX1_init_89 rfl ?_
  obtain ⟨e110, h⟩ := h
  refine cIN_wv (As := []) (rest := [.ref a107, .int (nI 3), .ref a105]) (n := 0) C hO (fun L => c_X0_init l D Y L S108 H.size a107 _ h) e110 ⟨va_cnB 0 hts gX1_init_X0_init_n44 rfl rfl rfl (hZ.nest 0 rfl) (hts _ (List.mem_of_getElem? (i := 16) (by decide +kernel : wsX1_init[16]? = some (Cond.initialized RX0)))) hdS_X0_init ⟨Nat.le_of_ble_eq_true rfl, Nat.le_of_ble_eq_true rfl⟩, rfl, (hts _ (List.mem_of_getElem? (i := 17) (by decide +kernel : wsX1_init[17]? = some (Cond.instanceMethod yX0_init))))⟩ rfl hl.1 rfl (Nat.le_of_ble_eq_true rfl) dX1_init_90 ⟨(Nat.le_of_ble_eq_true rfl), (Nat.le_of_ble_eq_true rfl)⟩ (fun S109 H locs h hO => ?_)
  obtain ⟨n111, f112, vs113, e114, e114', e114v, h⟩ := h
  refine r_aastD C hO e114 e114' e114v dX1_init_93 (fun H locs hO => ?_)
  obtain ⟨S115, eS115⟩ : ∃ Sx, Sx = va_up S109 a105 (aD n111 (va_up f112 ((nI 3)).toNatClampNeg (some a107))) := ⟨_, rfl⟩
  rw [← eS115] at hO
  have h := h S115 eS115
  refine lv_iinc (v := (nI 4)) (lv' := [(1, .int (nI 4)), (0, .ref a0)]) hx hb dX1_init_94 hl (k := 0) rfl (by decide) (by decide) rfl (fun ls hl => ?_)
  refine lv_goto (tgt := 75) hx hb dX1_init_97 (by decide) ?_
  refine lv_iload_n hx hb dX1_init_75 rfl (lv_at hl 0 rfl) ?_
  refine lv_bipush (v := (nI 6)) hx hb dX1_init_76 (by decide) ?_
  refine lv_icmp_ge (tgt := 100) hx hb dX1_init_78 (by decide) (fun c9 => absurd c9 (by decide)) (fun _ => ?_)
  refine lv_aload_n hx hb dX1_init_81 rfl (lv_at hl 1 rfl) ?_
  obtain ⟨fs116, a117, e118, e118', h⟩ := h
  refine r_get C hO 1 4 rfl inX1 (Nat.le_of_ble_eq_true rfl) e118 e118' (List.mem_of_getElem? (i := 12) (by decide +kernel)) dX1_init_82 ?_
  refine lv_iload_n hx hb dX1_init_85 rfl (lv_at hl 0 rfl) ?_
  refine r_new C hO 0 [.null, .int 0] rfl inX0 tyX0_ok (fun j hj => by have hj : j < 2 := hj; rcases (show j = 0 ∨ j = 1 by omega) with rfl | rfl <;> rfl) (N := 2) rfl (List.mem_of_getElem? (i := 11) (by decide +kernel)) (List.mem_of_getElem? (i := 15) (by decide +kernel)) (List.mem_of_getElem? (i := 16) (by decide +kernel)) (Nat.le_of_ble_eq_true rfl) (Nat.le_of_ble_eq_true rfl) dX1_init_86 (fun a119 H hqa119 hO => ?_)
  obtain ⟨S120, eS120⟩ : ∃ Sx, Sx = va_up S115 a119 (.inl (0, [.null, .int 0])) := ⟨_, rfl⟩
  rw [← eS120] at hO
  have h := h a119 hqa119 S120 eS120
  refine lv_dup hx hb dX1_init_89 rfl ?_
  obtain ⟨e122, h⟩ := h
  refine cIN_wv (As := []) (rest := [.ref a119, .int (nI 4), .ref a117]) (n := 0) C hO (fun L => c_X0_init l D Y L S120 H.size a119 _ h) e122 ⟨va_cnB 0 hts gX1_init_X0_init_n44 rfl rfl rfl (hZ.nest 0 rfl) (hts _ (List.mem_of_getElem? (i := 16) (by decide +kernel : wsX1_init[16]? = some (Cond.initialized RX0)))) hdS_X0_init ⟨Nat.le_of_ble_eq_true rfl, Nat.le_of_ble_eq_true rfl⟩, rfl, (hts _ (List.mem_of_getElem? (i := 17) (by decide +kernel : wsX1_init[17]? = some (Cond.instanceMethod yX0_init))))⟩ rfl hl.1 rfl (Nat.le_of_ble_eq_true rfl) dX1_init_90 ⟨(Nat.le_of_ble_eq_true rfl), (Nat.le_of_ble_eq_true rfl)⟩ (fun S121 H locs h hO => ?_)
  obtain ⟨n123, f124, vs125, e126, e126', e126v, h⟩ := h
  refine r_aastD C hO e126 e126' e126v dX1_init_93 (fun H locs hO => ?_)
  obtain ⟨S127, eS127⟩ : ∃ Sx, Sx = va_up S121 a117 (aD n123 (va_up f124 ((nI 4)).toNatClampNeg (some a119))) := ⟨_, rfl⟩
  rw [← eS127] at hO
  have h := h S127 eS127
  refine lv_iinc (v := (nI 5)) (lv' := [(1, .int (nI 5)), (0, .ref a0)]) hx hb dX1_init_94 hl (k := 0) rfl (by decide) (by decide) rfl (fun ls hl => ?_)
  refine lv_goto (tgt := 75) hx hb dX1_init_97 (by decide) ?_
  refine lv_iload_n hx hb dX1_init_75 rfl (lv_at hl 0 rfl) ?_
  refine lv_bipush (v := (nI 6)) hx hb dX1_init_76 (by decide) ?_
  refine lv_icmp_ge (tgt := 100) hx hb dX1_init_78 (by decide) (fun c9 => absurd c9 (by decide)) (fun _ => ?_)
  refine lv_aload_n hx hb dX1_init_81 rfl (lv_at hl 1 rfl) ?_
  obtain ⟨fs128, a129, e130, e130', h⟩ := h
  refine r_get C hO 1 4 rfl inX1 (Nat.le_of_ble_eq_true rfl) e130 e130' (List.mem_of_getElem? (i := 12) (by decide +kernel)) dX1_init_82 ?_
  refine lv_iload_n hx hb dX1_init_85 rfl (lv_at hl 0 rfl) ?_
  refine r_new C hO 0 [.null, .int 0] rfl inX0 tyX0_ok (fun j hj => by have hj : j < 2 := hj; rcases (show j = 0 ∨ j = 1 by omega) with rfl | rfl <;> rfl) (N := 2) rfl (List.mem_of_getElem? (i := 11) (by decide +kernel)) (List.mem_of_getElem? (i := 15) (by decide +kernel)) (List.mem_of_getElem? (i := 16) (by decide +kernel)) (Nat.le_of_ble_eq_true rfl) (Nat.le_of_ble_eq_true rfl) dX1_init_86 (fun a131 H hqa131 hO => ?_)
  obtain ⟨S132, eS132⟩ : ∃ Sx, Sx = va_up S127 a131 (.inl (0, [.null, .int 0])) := ⟨_, rfl⟩
  rw [← eS132] at hO
  have h := h a131 hqa131 S132 eS132
  refine lv_dup hx hb dX1_init_89 rfl ?_
  obtain ⟨e134, h⟩ := h
  refine cIN_wv (As := []) (rest := [.ref a131, .int (nI 5), .ref a129]) (n := 0) C hO (fun L => c_X0_init l D Y L S132 H.size a131 _ h) e134 ⟨va_cnB 0 hts gX1_init_X0_init_n44 rfl rfl rfl (hZ.nest 0 rfl) (hts _ (List.mem_of_getElem? (i := 16) (by decide +kernel : wsX1_init[16]? = some (Cond.initialized RX0)))) hdS_X0_init ⟨Nat.le_of_ble_eq_true rfl, Nat.le_of_ble_eq_true rfl⟩, rfl, (hts _ (List.mem_of_getElem? (i := 17) (by decide +kernel : wsX1_init[17]? = some (Cond.instanceMethod yX0_init))))⟩ rfl hl.1 rfl (Nat.le_of_ble_eq_true rfl) dX1_init_90 ⟨(Nat.le_of_ble_eq_true rfl), (Nat.le_of_ble_eq_true rfl)⟩ (fun S133 H locs h hO => ?_)
  obtain ⟨n135, f136, vs137, e138, e138', e138v, h⟩ := h
  refine r_aastD C hO e138 e138' e138v dX1_init_93 (fun H locs hO => ?_)
  obtain ⟨S139, eS139⟩ : ∃ Sx, Sx = va_up S133 a129 (aD n135 (va_up f136 ((nI 5)).toNatClampNeg (some a131))) := ⟨_, rfl⟩
  rw [← eS139] at hO
  have h := h S139 eS139
  refine lv_iinc (v := (nI 6)) (lv' := [(1, .int (nI 6)), (0, .ref a0)]) hx hb dX1_init_94 hl (k := 0) rfl (by decide) (by decide) rfl (fun ls hl => ?_)
  refine lv_goto (tgt := 75) hx hb dX1_init_97 (by decide) ?_
  refine lv_iload_n hx hb dX1_init_75 rfl (lv_at hl 0 rfl) ?_
  refine lv_bipush (v := (nI 6)) hx hb dX1_init_76 (by decide) ?_
  refine lv_icmp_ge (tgt := 100) hx hb dX1_init_78 (by decide) (fun _ => ?_) (fun c9 => absurd c9 (by decide))
  exact W.vret hx hb hr (fun t ht hW => ⟨⟨S139, rfl, h, hO.q ht⟩, hO.f ht⟩) hO.lc dX1_init_100
theorem hdS_X1_copyFrom : yX1_copyFrom.cls ≠ "java/lang/invoke/MethodHandle" ∧ yX1_copyFrom.cls ≠ "java/lang/invoke/VarHandle" ∧ (parseMethodDescriptor yX1_copyFrom.desc).map (fun d => d.parameters.length) = some 1 := by decide +kernel
set_option maxHeartbeats 4000000 in
set_option maxRecDepth 100000 in
theorem c_X1_copyFrom (l : Launch) (D : va_G) (Y : Nat → ClassId) (L : List Nat) (S : PS) (sz : Nat) (a0 : Nat) (v1 : Nat) (Post : PS → Prop) (h : wp_X1_copyFrom S a0 v1 Post) : Met l yX1_copyFrom wsX1_copyFrom ({ frames := 2, cells := 0, slots := 0, locals := 39 }) (va_Pc [.ref a0, .ref v1] (PrO D Y L S sz)) (va_Qv Post (QtO D Y (fR L sz)) (fR L sz)) 0 0 (fR L sz) := by
  refine Met.ofW (cc := cX1_copyFrom) (maxL := 5) (ret := none) (by decide) rfl ?_
  intro p e s m args below meth c s₁ B hml hv
  obtain ⟨rfl, hsz, hJ, hP, hK, hD0, hZ⟩ := hv
  have hx := B.exec
  have hb := B.bytes
  have hr := B.returns
  have hts := atoms_spec (ws := wsX1_copyFrom) B.pre
  have hown : s.vm.findClass RX1 = some m.cls := findClass_of_methodNamed B.named
  have hlocks := B.notSynchronized
  have CF : CallFix p m c cX1_copyFrom 5 s ([.ref a0, .ref v1] : List Value).toArray wsX1_copyFrom RX1 := ⟨hx, hb, hml, hown, hts⟩
  have C : CX p m c cX1_copyFrom 5 s ([.ref a0, .ref v1] : List Value).toArray wsX1_copyFrom RX1 D Y := ⟨CF, hK, hZ⟩
  have hO : HO D Y (fR L sz) s.heap S s.heap [] := HO.entry hsz hJ hP hD0
  subst hsz
  have inX1 : ∀ w ∈ wsX10, w ∈ wsX1_copyFrom := fun w h => List.mem_cons_of_mem _ (List.mem_append_left _ (List.mem_append_right _ h))
  have hl := lv_entry ([.ref a0, .ref v1]) (n := 5) (Nat.le_of_ble_eq_true rfl)
  rw [lg_entry_eq]
  generalize (lg_sl ([.ref a0, .ref v1]) ++ List.replicate (5 - (lg_sl ([.ref a0, .ref v1])).length) Slot.unset).toArray = ls at hl ⊢
  have hl : lv_has ls 5 [(0, .ref a0), (1, .ref v1)] := hl
  unfold wp_X1_copyFrom at h
  refine lv_aload_n hx hb dX1_copyFrom_0 rfl (lv_at hl 0 rfl) ?_
  refine lv_aload_n hx hb dX1_copyFrom_1 rfl (lv_at hl 1 rfl) ?_
  obtain ⟨fs1, j2, e3, e3', h⟩ := h
  refine r_get C hO 1 0 rfl inX1 (Nat.le_of_ble_eq_true rfl) e3 e3' (List.mem_of_getElem? (i := 1) (by decide +kernel)) dX1_copyFrom_2 ?_
  obtain ⟨fs4, e5, e5', h⟩ := h
  refine r_put C hO 1 0 rfl inX1 tyX1_ok nmX1 (Nat.le_of_ble_eq_true rfl) rfl rfl rfl e5 e5' (List.mem_of_getElem? (i := 1) (by decide +kernel)) dX1_copyFrom_5 (fun H locs hO => ?_)
  obtain ⟨S6, eS6⟩ : ∃ Sx, Sx = va_up S a0 (.inl (1, fs4.set 0 (.long j2))) := ⟨_, rfl⟩
  rw [← eS6] at hO
  have h := h S6 eS6
  refine lv_aload_n hx hb dX1_copyFrom_8 rfl (lv_at hl 0 rfl) ?_
  refine lv_aload_n hx hb dX1_copyFrom_9 rfl (lv_at hl 1 rfl) ?_
  obtain ⟨fs7, j8, e9, e9', h⟩ := h
  refine r_get C hO 1 1 rfl inX1 (Nat.le_of_ble_eq_true rfl) e9 e9' (List.mem_of_getElem? (i := 2) (by decide +kernel)) dX1_copyFrom_10 ?_
  obtain ⟨fs10, e11, e11', h⟩ := h
  refine r_put C hO 1 1 rfl inX1 tyX1_ok nmX1 (Nat.le_of_ble_eq_true rfl) rfl rfl rfl e11 e11' (List.mem_of_getElem? (i := 2) (by decide +kernel)) dX1_copyFrom_13 (fun H locs hO => ?_)
  obtain ⟨S12, eS12⟩ : ∃ Sx, Sx = va_up S6 a0 (.inl (1, fs10.set 1 (.long j8))) := ⟨_, rfl⟩
  rw [← eS12] at hO
  have h := h S12 eS12
  refine lv_aload_n hx hb dX1_copyFrom_16 rfl (lv_at hl 0 rfl) ?_
  refine lv_aload_n hx hb dX1_copyFrom_17 rfl (lv_at hl 1 rfl) ?_
  obtain ⟨fs13, j14, e15, e15', h⟩ := h
  refine r_get C hO 1 2 rfl inX1 (Nat.le_of_ble_eq_true rfl) e15 e15' (List.mem_of_getElem? (i := 3) (by decide +kernel)) dX1_copyFrom_18 ?_
  obtain ⟨fs16, e17, e17', h⟩ := h
  refine r_put C hO 1 2 rfl inX1 tyX1_ok nmX1 (Nat.le_of_ble_eq_true rfl) rfl rfl rfl e17 e17' (List.mem_of_getElem? (i := 3) (by decide +kernel)) dX1_copyFrom_21 (fun H locs hO => ?_)
  obtain ⟨S18, eS18⟩ : ∃ Sx, Sx = va_up S12 a0 (.inl (1, fs16.set 2 (.long j14))) := ⟨_, rfl⟩
  rw [← eS18] at hO
  have h := h S18 eS18
  refine lv_aload_n hx hb dX1_copyFrom_24 rfl (lv_at hl 1 rfl) ?_
  obtain ⟨fs19, a20, e21, e21', h⟩ := h
  refine r_get C hO 1 3 rfl inX1 (Nat.le_of_ble_eq_true rfl) e21 e21' (List.mem_of_getElem? (i := 4) (by decide +kernel)) dX1_copyFrom_25 ?_
  refine lv_iconst (v := (nI 0)) hx hb dX1_copyFrom_28 (by decide) ?_
  refine lv_aload_n hx hb dX1_copyFrom_29 rfl (lv_at hl 0 rfl) ?_
  obtain ⟨fs22, a23, e24, e24', h⟩ := h
  refine r_get C hO 1 3 rfl inX1 (Nat.le_of_ble_eq_true rfl) e24 e24' (List.mem_of_getElem? (i := 4) (by decide +kernel)) dX1_copyFrom_30 ?_
  refine lv_iconst (v := (nI 0)) hx hb dX1_copyFrom_33 (by decide) ?_
  refine lv_bipush (v := (nI 6)) hx hb dX1_copyFrom_34 (by decide) ?_
  obtain ⟨n27, f28, n29, f30, e26, e26', e26a, e26b, e26c, e26d, e26e, h⟩ := h
  refine r_copy C hO hl.1 (List.mem_of_getElem? (i := 5) (by decide +kernel)) (List.mem_of_getElem? (i := 6) (by decide +kernel)) (List.mem_of_getElem? (i := 7) (by decide +kernel)) (List.mem_of_getElem? (i := 8) (by decide +kernel)) e26 e26' e26a e26b e26c e26d e26e (Nat.le_of_ble_eq_true rfl) (Nat.le_of_ble_eq_true rfl) dX1_copyFrom_36 (fun H locs hO => ?_)
  obtain ⟨S25, eS25⟩ : ∃ Sx, Sx = va_up S18 a23 (aI n29 (va_cpy f28 f30 ((nI 0)).toNatClampNeg ((nI 0)).toNatClampNeg ((nI 6)).toNatClampNeg)) := ⟨_, rfl⟩
  rw [← eS25] at hO
  have h := h S25 eS25
  refine lv_iconst (v := (nI 0)) hx hb dX1_copyFrom_39 (by decide) ?_
  refine lv_istore_n (lv' := [(2, .int (nI 0)), (0, .ref a0), (1, .ref v1)]) hx hb dX1_copyFrom_40 rfl hl (by decide) rfl (fun ls hl => ?_)
  obtain ⟨n64, h⟩ := h
  refine lp_W (nL := 5) (fun q => [(2, .int q.1), (0, .ref a0), (1, .ref v1)]) (fun q => q.2) h (lv_sub hl [0, 1, 2] rfl) hO (fun K41 ih41 q ls H locs h hl hO => ?_)
  obtain ⟨i31, S32⟩ := q
  have h : wpb_X1_copyFrom_41 a0 v1 Post K41 i31 S32 := h
  have hl : lv_has ls 5 [(2, .int i31), (0, .ref a0), (1, .ref v1)] := hl
  have hO : HO D Y (fR L s.heap.size) s.heap S32 H locs := hO
  unfold wpb_X1_copyFrom_41 at h
  refine lv_iload_n hx hb dX1_copyFrom_41 rfl (lv_at hl 0 rfl) ?_
  refine lv_bipush (v := (nI 6)) hx hb dX1_copyFrom_42 (by decide) ?_
  refine lv_icmp_ge (tgt := 83) hx hb dX1_copyFrom_44 (by decide) (fun c33 => ?_) (fun c33 => ?_)
  · have h := h.1 c33
    refine lv_aload_n hx hb dX1_copyFrom_83 rfl (lv_at hl 1 rfl) ?_
    refine lv_aload_n hx hb dX1_copyFrom_84 rfl (lv_at hl 2 rfl) ?_
    obtain ⟨fs34, i35, e36, e36', h⟩ := h
    refine r_get C hO 1 5 rfl inX1 (Nat.le_of_ble_eq_true rfl) e36 e36' (List.mem_of_getElem? (i := 10) (by decide +kernel)) dX1_copyFrom_85 ?_
    obtain ⟨fs37, e38, e38', h⟩ := h
    refine r_put C hO 1 5 rfl inX1 tyX1_ok nmX1 (Nat.le_of_ble_eq_true rfl) rfl rfl rfl e38 e38' (List.mem_of_getElem? (i := 10) (by decide +kernel)) dX1_copyFrom_88 (fun H locs hO => ?_)
    obtain ⟨S39, eS39⟩ : ∃ Sx, Sx = va_up S32 a0 (.inl (1, fs37.set 5 (.int i35))) := ⟨_, rfl⟩
    rw [← eS39] at hO
    have h := h S39 eS39
    refine lv_aload_n hx hb dX1_copyFrom_91 rfl (lv_at hl 1 rfl) ?_
    refine lv_aload_n hx hb dX1_copyFrom_92 rfl (lv_at hl 2 rfl) ?_
    obtain ⟨fs40, i41, e42, e42', h⟩ := h
    refine r_get C hO 1 6 rfl inX1 (Nat.le_of_ble_eq_true rfl) e42 e42' (List.mem_of_getElem? (i := 11) (by decide +kernel)) dX1_copyFrom_93 ?_
    obtain ⟨fs43, e44, e44', h⟩ := h
    refine r_put C hO 1 6 rfl inX1 tyX1_ok nmX1 (Nat.le_of_ble_eq_true rfl) rfl rfl rfl e44 e44' (List.mem_of_getElem? (i := 11) (by decide +kernel)) dX1_copyFrom_96 (fun H locs hO => ?_)
    obtain ⟨S45, eS45⟩ : ∃ Sx, Sx = va_up S39 a0 (.inl (1, fs43.set 6 (.int i41))) := ⟨_, rfl⟩
    rw [← eS45] at hO
    have h := h S45 eS45
    exact W.vret hx hb hr (fun t ht hW => ⟨⟨S45, rfl, h, hO.q ht⟩, hO.f ht⟩) hO.lc dX1_copyFrom_99
  · have h := h.2 c33
    refine lv_aload_n hx hb dX1_copyFrom_47 rfl (lv_at hl 1 rfl) ?_
    obtain ⟨fs46, a47, e48, e48', h⟩ := h
    refine r_get C hO 1 4 rfl inX1 (Nat.le_of_ble_eq_true rfl) e48 e48' (List.mem_of_getElem? (i := 9) (by decide +kernel)) dX1_copyFrom_48 ?_
    refine lv_iload_n hx hb dX1_copyFrom_51 rfl (lv_at hl 0 rfl) ?_
    obtain ⟨n49, f50, a52, e51, e51', hrq, h⟩ := h
    refine r_aaldD C hO e51 e51' (congrArg va_rf hrq) dX1_copyFrom_52 ?_
    show W _ _ _ _ _ _ _ _ _ _ _ _ _ _ _ (F0 _ _ _ (.ref a52 :: _))
    refine lv_astore_n (lv' := [(3, .ref a52), (2, .int i31), (0, .ref a0), (1, .ref v1)]) hx hb dX1_copyFrom_53 rfl hl (by decide) rfl (fun ls hl => ?_)
    refine lv_aload_n hx hb dX1_copyFrom_54 rfl (lv_at hl 3 rfl) ?_
    obtain ⟨fs53, a54, e55, e55', h⟩ := h
    refine r_get C hO 1 4 rfl inX1 (Nat.le_of_ble_eq_true rfl) e55 e55' (List.mem_of_getElem? (i := 9) (by decide +kernel)) dX1_copyFrom_55 ?_
    refine lv_iload_n hx hb dX1_copyFrom_58 rfl (lv_at hl 1 rfl) ?_
    obtain ⟨n56, f57, a59, e58, e58', hrq, h⟩ := h
    refine r_aaldD C hO e58 e58' (congrArg va_rf hrq) dX1_copyFrom_59 ?_
    show W _ _ _ _ _ _ _ _ _ _ _ _ _ _ _ (F0 _ _ _ (.ref a59 :: _))
    refine lv_astore (lv' := [(4, .ref a59), (3, .ref a52), (2, .int i31), (0, .ref a0), (1, .ref v1)]) hx hb dX1_copyFrom_60 hl (by decide) rfl (fun ls hl => ?_)
    refine lv_aload_n hx hb dX1_copyFrom_62 rfl (lv_at hl 1 rfl) ?_
    refine lv_ifnull hx hb dX1_copyFrom_63 ?_
    refine lv_aload hx hb dX1_copyFrom_66 (lv_at hl 0 rfl) ?_
    refine lv_ifnull hx hb dX1_copyFrom_68 ?_
    refine lv_aload_n hx hb dX1_copyFrom_71 rfl (lv_at hl 1 rfl) ?_
    refine lv_aload hx hb dX1_copyFrom_72 (lv_at hl 0 rfl) ?_
    obtain ⟨fs62, e61, h⟩ := h
    refine cV_wv (As := [.ref a59]) (rest := []) (n := 1) C hO (fun L => c_X0_copyFrom l D Y L S32 H.size a52 a59 _ h) 0 rfl e61 (cwV 1 hts gX1_copyFrom_X0_copyFrom rfl rfl rfl ⟨rfl, hdS_X0_copyFrom⟩ ⟨Nat.le_of_ble_eq_true rfl, Nat.le_of_ble_eq_true rfl⟩) rfl hl.1 rfl (Nat.le_of_ble_eq_true rfl) dX1_copyFrom_74 ⟨(Nat.le_of_ble_eq_true rfl), (Nat.le_of_ble_eq_true rfl)⟩ (fun S60 H locs h hO => ?_)
    obtain ⟨i63, ei63⟩ : ∃ y : Int32, y = i31 + (nI 1) := ⟨_, rfl⟩
    have h := h i63 ei63
    refine lv_iinc (v := i63) (lv' := [(2, .int i63), (4, .ref a59), (3, .ref a52), (0, .ref a0), (1, .ref v1)]) hx hb dX1_copyFrom_77 hl (k := 2) rfl (by rw [ei63]; rfl) (by decide) rfl (fun ls hl => ?_)
    refine lv_goto (tgt := 41) hx hb dX1_copyFrom_80 (by decide) ?_
    exact ih41 (i63, S60) _ _ _ h (lv_sub hl [0, 3, 4] rfl) hO
theorem hdS_X1_draftAt : yX1_draftAt.cls ≠ "java/lang/invoke/MethodHandle" ∧ yX1_draftAt.cls ≠ "java/lang/invoke/VarHandle" ∧ (parseMethodDescriptor yX1_draftAt.desc).map (fun d => d.parameters.length) = some 1 := by decide +kernel
set_option maxHeartbeats 4000000 in
set_option maxRecDepth 100000 in
theorem c_X1_draftAt (l : Launch) (D : va_G) (Y : Nat → ClassId) (L : List Nat) (S : PS) (sz : Nat) (a0 : Nat) (v1 : Int32) (Post : Option Nat → Prop) (h : wp_X1_draftAt S a0 v1 Post) : Met l yX1_draftAt wsX1_draftAt ({ frames := 1, cells := 0, slots := 0, locals := 21 }) (va_Pc [.ref a0, .int v1] (PrO D Y L S sz)) (va_Sq Post) 0 0 (fun _ => False) := by
  refine Met.ofW (cc := cX1_draftAt) (maxL := 2) (ret := (some (.object "TreadleKernels$Draft"))) (by decide) rfl ?_
  intro p e s m args below meth c s₁ B hml hv
  obtain ⟨rfl, hsz, hJ, hP, hK, hD0, hZ⟩ := hv
  have hx := B.exec
  have hb := B.bytes
  have hr := B.returns
  have hts := atoms_spec (ws := wsX1_draftAt) B.pre
  have hown : s.vm.findClass RX1 = some m.cls := findClass_of_methodNamed B.named
  have hlocks := B.notSynchronized
  have CF : CallFix p m c cX1_draftAt 2 s ([.ref a0, .int v1] : List Value).toArray wsX1_draftAt RX1 := ⟨hx, hb, hml, hown, hts⟩
  have C : CX p m c cX1_draftAt 2 s ([.ref a0, .int v1] : List Value).toArray wsX1_draftAt RX1 D Y := ⟨CF, hK, hZ⟩
  have hO : HO D Y (fR L sz) s.heap S s.heap [] := HO.entry hsz hJ hP hD0
  subst hsz
  have inX1 : ∀ w ∈ wsX10, w ∈ wsX1_draftAt := fun w h => List.mem_cons_of_mem _ (List.mem_append_right _ h)
  have hl := lv_entry ([.ref a0, .int v1]) (n := 2) (Nat.le_of_ble_eq_true rfl)
  rw [lg_entry_eq]
  generalize (lg_sl ([.ref a0, .int v1]) ++ List.replicate (2 - (lg_sl ([.ref a0, .int v1])).length) Slot.unset).toArray = ls at hl ⊢
  have hl : lv_has ls 2 [(0, .ref a0), (1, .int v1)] := hl
  unfold wp_X1_draftAt at h
  refine lv_iload_n hx hb dX1_draftAt_0 rfl (lv_at hl 1 rfl) ?_
  refine lv_bipush (v := (nI 6)) hx hb dX1_draftAt_1 (by decide) ?_
  refine cN_si (As := [.int v1, .int (nI 6)]) (rest := []) (n := 2) CF hZ (c_X7_isBelow l v1 (nI 6) _ h) ⟨va_cnB 2 hts gX1_draftAt_X7_isBelow_n55 rfl rfl rfl (hZ.nest 6 rfl) (hts _ (List.mem_of_getElem? (i := 3) (by decide +kernel : wsX1_draftAt[3]? = some (Cond.initialized RX7)))) hdS_X7_isBelow ⟨Nat.le_of_ble_eq_true rfl, Nat.le_of_ble_eq_true rfl⟩, (hts _ (List.mem_of_getElem? (i := 2) (by decide +kernel : wsX1_draftAt[2]? = some (Cond.static yX7_isBelow)))), trivial⟩ rfl hl.1 rfl (Nat.le_of_ble_eq_true rfl) dX1_draftAt_3 ⟨(Nat.le_of_ble_eq_true rfl), (Nat.le_of_ble_eq_true rfl)⟩ (fun i1 h => ?_)
  refine lv_if_eq (tgt := 18) hx hb dX1_draftAt_6 (by decide) (fun c2 => ?_) (fun c2 => ?_)
  · have h := h.1 c2
    refine lv_null hx hb dX1_draftAt_18 ?_
    exact W.aret hx hb hr (Or.inl ⟨_, rfl⟩) (va_rf_or none) (fun t ht hW => ⟨none, rfl, h, ht⟩) no_locs dX1_draftAt_19
  · have h := h.2 c2
    refine lv_aload_n hx hb dX1_draftAt_9 rfl (lv_at hl 0 rfl) ?_
    obtain ⟨fs3, a4, e5, e5', h⟩ := h
    refine r_get C hO 1 4 rfl inX1 (Nat.le_of_ble_eq_true rfl) e5 e5' (List.mem_of_getElem? (i := 1) (by decide +kernel)) dX1_draftAt_10 ?_
    refine lv_iload_n hx hb dX1_draftAt_13 rfl (lv_at hl 1 rfl) ?_
    obtain ⟨n6, f7, a9, e8, e8', hrq, h⟩ := h
    refine r_aaldD C hO e8 e8' (congrArg va_rf hrq) dX1_draftAt_14 ?_
    show W _ _ _ _ _ _ _ _ _ _ _ _ _ _ _ (F0 _ _ _ (.ref a9 :: _))
    refine lv_goto (tgt := 19) hx hb dX1_draftAt_15 (by decide) ?_
    exact W.aret hx hb hr (Or.inl ⟨_, rfl⟩) (va_rf_or (some a9)) (fun t ht hW => ⟨(some a9), rfl, h, ht⟩) no_locs dX1_draftAt_19
theorem hdS_X4_at : yX4_at.cls ≠ "java/lang/invoke/MethodHandle" ∧ yX4_at.cls ≠ "java/lang/invoke/VarHandle" ∧ (parseMethodDescriptor yX4_at.desc).map (fun d => d.parameters.length) = some 2 := by decide +kernel
set_option maxHeartbeats 4000000 in
set_option maxRecDepth 100000 in
theorem c_X4_at (l : Launch) (v0 : Int64) (v2 : Int32) (Post : Int32 → Prop) (h : wp_X4_at v0 v2 Post) : Met l yX4_at wsX4_at ({ frames := 0, cells := 0, slots := 0, locals := 0 }) (va_Pc [.long v0, .int v2] NZ) (vp_Si Post) 0 0 (fun _ => False) := by
  refine Met.ofW (cc := cX4_at) (maxL := 3) (ret := (some .int)) (by decide) rfl ?_
  intro p e s m args below meth c s₁ B hml hv
  obtain ⟨rfl, hZ⟩ := hv
  have hx := B.exec
  have hb := B.bytes
  have hr := B.returns
  have hts := atoms_spec (ws := wsX4_at) B.pre
  have hown : s.vm.findClass RX4 = some m.cls := findClass_of_methodNamed B.named
  have hlocks := B.notSynchronized
  have CF : CallFix p m c cX4_at 3 s ([.long v0, .int v2] : List Value).toArray wsX4_at RX4 := ⟨hx, hb, hml, hown, hts⟩
  have hl := lv_entry ([.long v0, .int v2]) (n := 3) (Nat.le_of_ble_eq_true rfl)
  rw [lg_entry_eq]
  generalize (lg_sl ([.long v0, .int v2]) ++ List.replicate (3 - (lg_sl ([.long v0, .int v2])).length) Slot.unset).toArray = ls at hl ⊢
  have hl : lv_has ls 3 [(0, .long v0), (2, .int v2)] := hl
  unfold wp_X4_at at h
  refine lv_lload_n hx hb dX4_at_0 rfl (lv_at hl 0 rfl) ?_
  refine lv_iconst (v := (nI 4)) hx hb dX4_at_1 (by decide) ?_
  refine lv_iload_n hx hb dX4_at_2 rfl (lv_at hl 1 rfl) ?_
  refine lv_imul hx hb dX4_at_3 ?_
  refine lv_lushr (v := (uShrL v0 ((nI 4) * v2))) hx hb dX4_at_4 rfl ?_
  refine lv_l2i (v := ((uShrL v0 ((nI 4) * v2))).toInt32) hx hb dX4_at_5 rfl ?_
  refine lv_bipush (v := (nI 15)) hx hb dX4_at_6 (by decide) ?_
  refine lv_iand hx hb dX4_at_8 ?_
  exact W.iret hx hb hr (fun t ht hW => ⟨(((uShrL v0 ((nI 4) * v2))).toInt32 &&& (nI 15)), rfl, h, ht⟩) no_locs dX4_at_9
theorem hdS_X7_hasBit : yX7_hasBit.cls ≠ "java/lang/invoke/MethodHandle" ∧ yX7_hasBit.cls ≠ "java/lang/invoke/VarHandle" ∧ (parseMethodDescriptor yX7_hasBit.desc).map (fun d => d.parameters.length) = some 2 := by decide +kernel
set_option maxHeartbeats 4000000 in
set_option maxRecDepth 100000 in
theorem c_X7_hasBit (l : Launch) (v0 : Int32) (v1 : Int32) (Post : Int32 → Prop) (h : wp_X7_hasBit v0 v1 Post) : Met l yX7_hasBit wsX7_hasBit ({ frames := 0, cells := 0, slots := 0, locals := 0 }) (va_Pc [.int v0, .int v1] NZ) (vp_Si Post) 0 0 (fun _ => False) := by
  refine Met.ofW (cc := cX7_hasBit) (maxL := 2) (ret := (some .boolean)) (by decide) rfl ?_
  intro p e s m args below meth c s₁ B hml hv
  obtain ⟨rfl, hZ⟩ := hv
  have hx := B.exec
  have hb := B.bytes
  have hr := B.returns
  have hts := atoms_spec (ws := wsX7_hasBit) B.pre
  have hown : s.vm.findClass RX7 = some m.cls := findClass_of_methodNamed B.named
  have hlocks := B.notSynchronized
  have CF : CallFix p m c cX7_hasBit 2 s ([.int v0, .int v1] : List Value).toArray wsX7_hasBit RX7 := ⟨hx, hb, hml, hown, hts⟩
  have hl := lv_entry ([.int v0, .int v1]) (n := 2) (Nat.le_of_ble_eq_true rfl)
  rw [lg_entry_eq]
  generalize (lg_sl ([.int v0, .int v1]) ++ List.replicate (2 - (lg_sl ([.int v0, .int v1])).length) Slot.unset).toArray = ls at hl ⊢
  have hl : lv_has ls 2 [(0, .int v0), (1, .int v1)] := hl
  unfold wp_X7_hasBit at h
  refine lv_iload_n hx hb dX7_hasBit_0 rfl (lv_at hl 0 rfl) ?_
  refine lv_iload_n hx hb dX7_hasBit_1 rfl (lv_at hl 1 rfl) ?_
  refine lv_ishr hx hb dX7_hasBit_2 ?_
  refine lv_iconst (v := (nI 1)) hx hb dX7_hasBit_3 (by decide) ?_
  refine lv_iand hx hb dX7_hasBit_4 ?_
  refine lv_iconst (v := (nI 1)) hx hb dX7_hasBit_5 (by decide) ?_
  refine lv_icmp_ne (tgt := 13) hx hb dX7_hasBit_6 (by decide) (fun c1 => ?_) (fun c1 => ?_)
  · have h := h.2 c1
    refine lv_iconst (v := (nI 0)) hx hb dX7_hasBit_13 (by decide) ?_
    exact W.zret hx hb hr (by decide) (fun t ht hW => ⟨(nI 0), rfl, h, ht⟩) no_locs dX7_hasBit_14
  · have h := h.1 c1
    refine lv_iconst (v := (nI 1)) hx hb dX7_hasBit_9 (by decide) ?_
    refine lv_goto (tgt := 14) hx hb dX7_hasBit_10 (by decide) ?_
    exact W.zret hx hb hr (by decide) (fun t ht hW => ⟨(nI 1), rfl, h, ht⟩) no_locs dX7_hasBit_14
theorem hdS_X1_raisedBy : yX1_raisedBy.cls ≠ "java/lang/invoke/MethodHandle" ∧ yX1_raisedBy.cls ≠ "java/lang/invoke/VarHandle" ∧ (parseMethodDescriptor yX1_raisedBy.desc).map (fun d => d.parameters.length) = some 1 := by decide +kernel
set_option maxHeartbeats 4000000 in
set_option maxRecDepth 100000 in
theorem c_X1_raisedBy (l : Launch) (D : va_G) (Y : Nat → ClassId) (L : List Nat) (S : PS) (sz : Nat) (a0 : Nat) (v1 : Int32) (Post : Int32 → Prop) (h : wp_X1_raisedBy S a0 v1 Post) : Met l yX1_raisedBy wsX1_raisedBy ({ frames := 1, cells := 0, slots := 0, locals := 22 }) (va_Pc [.ref a0, .int v1] (PrO D Y L S sz)) (vp_Si Post) 0 0 (fun _ => False) := by
  refine Met.ofW (cc := cX1_raisedBy) (maxL := 4) (ret := (some .int)) (by decide) rfl ?_
  intro p e s m args below meth c s₁ B hml hv
  obtain ⟨rfl, hsz, hJ, hP, hK, hD0, hZ⟩ := hv
  have hx := B.exec
  have hb := B.bytes
  have hr := B.returns
  have hts := atoms_spec (ws := wsX1_raisedBy) B.pre
  have hown : s.vm.findClass RX1 = some m.cls := findClass_of_methodNamed B.named
  have hlocks := B.notSynchronized
  have CF : CallFix p m c cX1_raisedBy 4 s ([.ref a0, .int v1] : List Value).toArray wsX1_raisedBy RX1 := ⟨hx, hb, hml, hown, hts⟩
  have C : CX p m c cX1_raisedBy 4 s ([.ref a0, .int v1] : List Value).toArray wsX1_raisedBy RX1 D Y := ⟨CF, hK, hZ⟩
  have hO : HO D Y (fR L sz) s.heap S s.heap [] := HO.entry hsz hJ hP hD0
  subst hsz
  have inX1 : ∀ w ∈ wsX10, w ∈ wsX1_raisedBy := fun w h => List.mem_cons_of_mem _ (List.mem_append_right _ h)
  have hl := lv_entry ([.ref a0, .int v1]) (n := 4) (Nat.le_of_ble_eq_true rfl)
  rw [lg_entry_eq]
  generalize (lg_sl ([.ref a0, .int v1]) ++ List.replicate (4 - (lg_sl ([.ref a0, .int v1])).length) Slot.unset).toArray = ls at hl ⊢
  have hl : lv_has ls 4 [(0, .ref a0), (1, .int v1)] := hl
  unfold wp_X1_raisedBy at h
  refine lv_iload_n hx hb dX1_raisedBy_0 rfl (lv_at hl 1 rfl) ?_
  refine lv_bipush (v := (nI 6)) hx hb dX1_raisedBy_1 (by decide) ?_
  refine cN_si (As := [.int v1, .int (nI 6)]) (rest := []) (n := 2) CF hZ (c_X7_isBelow l v1 (nI 6) _ h) ⟨va_cnB 2 hts gX1_raisedBy_X7_isBelow_n55 rfl rfl rfl (hZ.nest 6 rfl) (hts _ (List.mem_of_getElem? (i := 4) (by decide +kernel : wsX1_raisedBy[4]? = some (Cond.initialized RX7)))) hdS_X7_isBelow ⟨Nat.le_of_ble_eq_true rfl, Nat.le_of_ble_eq_true rfl⟩, (hts _ (List.mem_of_getElem? (i := 3) (by decide +kernel : wsX1_raisedBy[3]? = some (Cond.static yX7_isBelow)))), trivial⟩ rfl hl.1 rfl (Nat.le_of_ble_eq_true rfl) dX1_raisedBy_3 ⟨(Nat.le_of_ble_eq_true rfl), (Nat.le_of_ble_eq_true rfl)⟩ (fun i1 h => ?_)
  refine lv_if_ne (tgt := 11) hx hb dX1_raisedBy_6 (by decide) (fun c2 => ?_) (fun c2 => ?_)
  · have h := h.2 c2
    refine lv_iconst (v := (nI 0)) hx hb dX1_raisedBy_11 (by decide) ?_
    refine lv_istore_n (lv' := [(2, .int (nI 0)), (0, .ref a0), (1, .int v1)]) hx hb dX1_raisedBy_12 rfl hl (by decide) rfl (fun ls hl => ?_)
    refine lv_iconst (v := (nI 0)) hx hb dX1_raisedBy_13 (by decide) ?_
    refine lv_istore_n (lv' := [(3, .int (nI 0)), (2, .int (nI 0)), (0, .ref a0), (1, .int v1)]) hx hb dX1_raisedBy_14 rfl hl (by decide) rfl (fun ls hl => ?_)
    obtain ⟨n22, h⟩ := h
    refine lp_P (nL := 4) (fun q => [(3, .int q.1), (2, .int q.2), (0, .ref a0), (1, .int v1)]) h (lv_sub hl [0, 1, 2, 3] rfl) (fun K15 ih15 q ls h hl => ?_)
    obtain ⟨i3, i4⟩ := q
    have h : wpb_X1_raisedBy_15 S a0 v1 Post K15 i3 i4 := h
    have hl : lv_has ls 4 [(3, .int i3), (2, .int i4), (0, .ref a0), (1, .int v1)] := hl
    unfold wpb_X1_raisedBy_15 at h
    refine lv_iload_n hx hb dX1_raisedBy_15 rfl (lv_at hl 0 rfl) ?_
    refine lv_bipush (v := (nI 12)) hx hb dX1_raisedBy_16 (by decide) ?_
    refine lv_icmp_ge (tgt := 53) hx hb dX1_raisedBy_18 (by decide) (fun c5 => ?_) (fun c5 => ?_)
    · have h := h.1 c5
      refine lv_iload_n hx hb dX1_raisedBy_53 rfl (lv_at hl 1 rfl) ?_
      exact W.iret hx hb hr (fun t ht hW => ⟨i4, rfl, h, ht⟩) no_locs dX1_raisedBy_54
    · have h := h.2 c5
      refine lv_aload_n hx hb dX1_raisedBy_21 rfl (lv_at hl 2 rfl) ?_
      obtain ⟨fs6, a7, e8, e8', h⟩ := h
      refine r_get C hO 1 3 rfl inX1 (Nat.le_of_ble_eq_true rfl) e8 e8' (List.mem_of_getElem? (i := 1) (by decide +kernel)) dX1_raisedBy_22 ?_
      refine lv_iload_n hx hb dX1_raisedBy_25 rfl (lv_at hl 3 rfl) ?_
      obtain ⟨n9, f10, i12, e11, e11', exi12, h⟩ := h
      refine r_iald C hO e11 e11' dX1_raisedBy_26 ?_
      rw [exi12]
      refine lv_aload_n hx hb dX1_raisedBy_27 rfl (lv_at hl 2 rfl) ?_
      obtain ⟨fs13, j14, e15, e15', h⟩ := h
      refine r_get C hO 1 0 rfl inX1 (Nat.le_of_ble_eq_true rfl) e15 e15' (List.mem_of_getElem? (i := 2) (by decide +kernel)) dX1_raisedBy_28 ?_
      refine lv_iload_n hx hb dX1_raisedBy_31 rfl (lv_at hl 0 rfl) ?_
      refine cS_si (As := [.long j14, .int i3]) (rest := [.int i12]) (n := 2) CF hZ (c_X4_at l j14 i3 _ h) (va_cwS 2 hts gX1_raisedBy_X4_at rfl rfl rfl hdS_X4_at ⟨Nat.le_of_ble_eq_true rfl, Nat.le_of_ble_eq_true rfl⟩) rfl hl.1 rfl (Nat.le_of_ble_eq_true rfl) dX1_raisedBy_32 ⟨(Nat.le_of_ble_eq_true rfl), (Nat.le_of_ble_eq_true rfl)⟩ (fun i16 h => ?_)
      refine cN_si (As := [.int i12, .int i16]) (rest := []) (n := 2) CF hZ (c_X7_hasBit l i12 i16 _ h) ⟨va_cnB 2 hts gX1_raisedBy_X7_hasBit_n63 rfl rfl rfl (hZ.nest 7 rfl) (hts _ (List.mem_of_getElem? (i := 4) (by decide +kernel : wsX1_raisedBy[4]? = some (Cond.initialized RX7)))) hdS_X7_hasBit ⟨Nat.le_of_ble_eq_true rfl, Nat.le_of_ble_eq_true rfl⟩, (hts _ (List.mem_of_getElem? (i := 10) (by decide +kernel : wsX1_raisedBy[10]? = some (Cond.static yX7_hasBit)))), trivial⟩ rfl hl.1 rfl (Nat.le_of_ble_eq_true rfl) dX1_raisedBy_35 ⟨(Nat.le_of_ble_eq_true rfl), (Nat.le_of_ble_eq_true rfl)⟩ (fun i17 h => ?_)
      refine lv_if_eq (tgt := 47) hx hb dX1_raisedBy_38 (by decide) (fun c18 => ?_) (fun c18 => ?_)
      · have h := h.1 c18
        obtain ⟨i19, ei19⟩ : ∃ y : Int32, y = i3 + (nI 1) := ⟨_, rfl⟩
        have h := h i19 ei19
        refine lv_iinc (v := i19) (lv' := [(3, .int i19), (2, .int i4), (0, .ref a0), (1, .int v1)]) hx hb dX1_raisedBy_47 hl (k := 0) rfl (by rw [ei19]; rfl) (by decide) rfl (fun ls hl => ?_)
        refine lv_goto (tgt := 15) hx hb dX1_raisedBy_50 (by decide) ?_
        exact ih15 (i19, i4) _ h (lv_sub hl [0, 1, 2, 3] rfl)
      · have h := h.2 c18
        refine lv_iload_n hx hb dX1_raisedBy_41 rfl (lv_at hl 1 rfl) ?_
        refine lv_iconst (v := (nI 1)) hx hb dX1_raisedBy_42 (by decide) ?_
        refine lv_iload_n hx hb dX1_raisedBy_43 rfl (lv_at hl 0 rfl) ?_
        refine lv_ishl hx hb dX1_raisedBy_44 ?_
        refine lv_ior hx hb dX1_raisedBy_45 ?_
        refine lv_topi (fun i20 ei20 => ?_)
        have h := h i20 ei20
        refine lv_istore_n (lv' := [(2, .int i20), (3, .int i3), (0, .ref a0), (1, .int v1)]) hx hb dX1_raisedBy_46 rfl hl (by decide) rfl (fun ls hl => ?_)
        obtain ⟨i21, ei21⟩ : ∃ y : Int32, y = i3 + (nI 1) := ⟨_, rfl⟩
        have h := h i21 ei21
        refine lv_iinc (v := i21) (lv' := [(3, .int i21), (2, .int i20), (0, .ref a0), (1, .int v1)]) hx hb dX1_raisedBy_47 hl (k := 1) rfl (by rw [ei21]; rfl) (by decide) rfl (fun ls hl => ?_)
        refine lv_goto (tgt := 15) hx hb dX1_raisedBy_50 (by decide) ?_
        exact ih15 (i21, i20) _ h (lv_sub hl [0, 1, 2, 3] rfl)
  · have h := h.1 c2
    refine lv_iconst (v := (nI 0)) hx hb dX1_raisedBy_9 (by decide) ?_
    exact W.iret hx hb hr (fun t ht hW => ⟨(nI 0), rfl, h, ht⟩) no_locs dX1_raisedBy_10
theorem hdS_X1_treadlesRaising : yX1_treadlesRaising.cls ≠ "java/lang/invoke/MethodHandle" ∧ yX1_treadlesRaising.cls ≠ "java/lang/invoke/VarHandle" ∧ (parseMethodDescriptor yX1_treadlesRaising.desc).map (fun d => d.parameters.length) = some 1 := by decide +kernel
set_option maxHeartbeats 4000000 in
set_option maxRecDepth 100000 in
theorem c_X1_treadlesRaising (l : Launch) (D : va_G) (Y : Nat → ClassId) (L : List Nat) (S : PS) (sz : Nat) (a0 : Nat) (v1 : Int32) (Post : Int32 → Prop) (h : wp_X1_treadlesRaising S a0 v1 Post) : Met l yX1_treadlesRaising wsX1_treadlesRaising ({ frames := 1, cells := 0, slots := 0, locals := 22 }) (va_Pc [.ref a0, .int v1] (PrO D Y L S sz)) (vp_Si Post) 0 0 (fun _ => False) := by
  refine Met.ofW (cc := cX1_treadlesRaising) (maxL := 4) (ret := (some .int)) (by decide) rfl ?_
  intro p e s m args below meth c s₁ B hml hv
  obtain ⟨rfl, hsz, hJ, hP, hK, hD0, hZ⟩ := hv
  have hx := B.exec
  have hb := B.bytes
  have hr := B.returns
  have hts := atoms_spec (ws := wsX1_treadlesRaising) B.pre
  have hown : s.vm.findClass RX1 = some m.cls := findClass_of_methodNamed B.named
  have hlocks := B.notSynchronized
  have CF : CallFix p m c cX1_treadlesRaising 4 s ([.ref a0, .int v1] : List Value).toArray wsX1_treadlesRaising RX1 := ⟨hx, hb, hml, hown, hts⟩
  have C : CX p m c cX1_treadlesRaising 4 s ([.ref a0, .int v1] : List Value).toArray wsX1_treadlesRaising RX1 D Y := ⟨CF, hK, hZ⟩
  have hO : HO D Y (fR L sz) s.heap S s.heap [] := HO.entry hsz hJ hP hD0
  subst hsz
  have inX1 : ∀ w ∈ wsX10, w ∈ wsX1_treadlesRaising := fun w h => List.mem_cons_of_mem _ (List.mem_append_right _ h)
  have hl := lv_entry ([.ref a0, .int v1]) (n := 4) (Nat.le_of_ble_eq_true rfl)
  rw [lg_entry_eq]
  generalize (lg_sl ([.ref a0, .int v1]) ++ List.replicate (4 - (lg_sl ([.ref a0, .int v1])).length) Slot.unset).toArray = ls at hl ⊢
  have hl : lv_has ls 4 [(0, .ref a0), (1, .int v1)] := hl
  unfold wp_X1_treadlesRaising at h
  refine lv_iconst (v := (nI 0)) hx hb dX1_treadlesRaising_0 (by decide) ?_
  refine lv_istore_n (lv' := [(2, .int (nI 0)), (0, .ref a0), (1, .int v1)]) hx hb dX1_treadlesRaising_1 rfl hl (by decide) rfl (fun ls hl => ?_)
  refine lv_iconst (v := (nI 0)) hx hb dX1_treadlesRaising_2 (by decide) ?_
  refine lv_istore_n (lv' := [(3, .int (nI 0)), (2, .int (nI 0)), (0, .ref a0), (1, .int v1)]) hx hb dX1_treadlesRaising_3 rfl hl (by decide) rfl (fun ls hl => ?_)
  obtain ⟨n20, h⟩ := h
  refine lp_P (nL := 4) (fun q => [(3, .int q.1), (2, .int q.2), (0, .ref a0), (1, .int v1)]) h (lv_sub hl [0, 1, 2, 3] rfl) (fun K4 ih4 q ls h hl => ?_)
  obtain ⟨i1, i2⟩ := q
  have h : wpb_X1_treadlesRaising_4 S a0 v1 Post K4 i1 i2 := h
  have hl : lv_has ls 4 [(3, .int i1), (2, .int i2), (0, .ref a0), (1, .int v1)] := hl
  unfold wpb_X1_treadlesRaising_4 at h
  refine lv_iload_n hx hb dX1_treadlesRaising_4 rfl (lv_at hl 0 rfl) ?_
  refine lv_bipush (v := (nI 6)) hx hb dX1_treadlesRaising_5 (by decide) ?_
  refine lv_icmp_ge (tgt := 42) hx hb dX1_treadlesRaising_7 (by decide) (fun c3 => ?_) (fun c3 => ?_)
  · have h := h.1 c3
    refine lv_iload_n hx hb dX1_treadlesRaising_42 rfl (lv_at hl 1 rfl) ?_
    exact W.iret hx hb hr (fun t ht hW => ⟨i2, rfl, h, ht⟩) no_locs dX1_treadlesRaising_43
  · have h := h.2 c3
    refine lv_aload_n hx hb dX1_treadlesRaising_10 rfl (lv_at hl 2 rfl) ?_
    obtain ⟨fs4, a5, e6, e6', h⟩ := h
    refine r_get C hO 1 3 rfl inX1 (Nat.le_of_ble_eq_true rfl) e6 e6' (List.mem_of_getElem? (i := 1) (by decide +kernel)) dX1_treadlesRaising_11 ?_
    refine lv_iload_n hx hb dX1_treadlesRaising_14 rfl (lv_at hl 0 rfl) ?_
    obtain ⟨n7, f8, i10, e9, e9', exi10, h⟩ := h
    refine r_iald C hO e9 e9' dX1_treadlesRaising_15 ?_
    rw [exi10]
    refine lv_aload_n hx hb dX1_treadlesRaising_16 rfl (lv_at hl 2 rfl) ?_
    obtain ⟨fs11, j12, e13, e13', h⟩ := h
    refine r_get C hO 1 0 rfl inX1 (Nat.le_of_ble_eq_true rfl) e13 e13' (List.mem_of_getElem? (i := 2) (by decide +kernel)) dX1_treadlesRaising_17 ?_
    refine lv_iload_n hx hb dX1_treadlesRaising_20 rfl (lv_at hl 3 rfl) ?_
    refine cS_si (As := [.long j12, .int v1]) (rest := [.int i10]) (n := 2) CF hZ (c_X4_at l j12 v1 _ h) (va_cwS 2 hts gX1_treadlesRaising_X4_at rfl rfl rfl hdS_X4_at ⟨Nat.le_of_ble_eq_true rfl, Nat.le_of_ble_eq_true rfl⟩) rfl hl.1 rfl (Nat.le_of_ble_eq_true rfl) dX1_treadlesRaising_21 ⟨(Nat.le_of_ble_eq_true rfl), (Nat.le_of_ble_eq_true rfl)⟩ (fun i14 h => ?_)
    refine cN_si (As := [.int i10, .int i14]) (rest := []) (n := 2) CF hZ (c_X7_hasBit l i10 i14 _ h) ⟨va_cnB 2 hts gX1_treadlesRaising_X7_hasBit_n63 rfl rfl rfl (hZ.nest 7 rfl) (hts _ (List.mem_of_getElem? (i := 8) (by decide +kernel : wsX1_treadlesRaising[8]? = some (Cond.initialized RX7)))) hdS_X7_hasBit ⟨Nat.le_of_ble_eq_true rfl, Nat.le_of_ble_eq_true rfl⟩, (hts _ (List.mem_of_getElem? (i := 7) (by decide +kernel : wsX1_treadlesRaising[7]? = some (Cond.static yX7_hasBit)))), trivial⟩ rfl hl.1 rfl (Nat.le_of_ble_eq_true rfl) dX1_treadlesRaising_24 ⟨(Nat.le_of_ble_eq_true rfl), (Nat.le_of_ble_eq_true rfl)⟩ (fun i15 h => ?_)
    refine lv_if_eq (tgt := 36) hx hb dX1_treadlesRaising_27 (by decide) (fun c16 => ?_) (fun c16 => ?_)
    · have h := h.1 c16
      obtain ⟨i17, ei17⟩ : ∃ y : Int32, y = i1 + (nI 1) := ⟨_, rfl⟩
      have h := h i17 ei17
      refine lv_iinc (v := i17) (lv' := [(3, .int i17), (2, .int i2), (0, .ref a0), (1, .int v1)]) hx hb dX1_treadlesRaising_36 hl (k := 0) rfl (by rw [ei17]; rfl) (by decide) rfl (fun ls hl => ?_)
      refine lv_goto (tgt := 4) hx hb dX1_treadlesRaising_39 (by decide) ?_
      exact ih4 (i17, i2) _ h (lv_sub hl [0, 1, 2, 3] rfl)
    · have h := h.2 c16
      refine lv_iload_n hx hb dX1_treadlesRaising_30 rfl (lv_at hl 1 rfl) ?_
      refine lv_iconst (v := (nI 1)) hx hb dX1_treadlesRaising_31 (by decide) ?_
      refine lv_iload_n hx hb dX1_treadlesRaising_32 rfl (lv_at hl 0 rfl) ?_
      refine lv_ishl hx hb dX1_treadlesRaising_33 ?_
      refine lv_ior hx hb dX1_treadlesRaising_34 ?_
      refine lv_topi (fun i18 ei18 => ?_)
      have h := h i18 ei18
      refine lv_istore_n (lv' := [(2, .int i18), (3, .int i1), (0, .ref a0), (1, .int v1)]) hx hb dX1_treadlesRaising_35 rfl hl (by decide) rfl (fun ls hl => ?_)
      obtain ⟨i19, ei19⟩ : ∃ y : Int32, y = i1 + (nI 1) := ⟨_, rfl⟩
      have h := h i19 ei19
      refine lv_iinc (v := i19) (lv' := [(3, .int i19), (2, .int i18), (0, .ref a0), (1, .int v1)]) hx hb dX1_treadlesRaising_36 hl (k := 1) rfl (by rw [ei19]; rfl) (by decide) rfl (fun ls hl => ?_)
      refine lv_goto (tgt := 4) hx hb dX1_treadlesRaising_39 (by decide) ?_
      exact ih4 (i19, i18) _ h (lv_sub hl [0, 1, 2, 3] rfl)
theorem hdS_X1_neverRaised : yX1_neverRaised.cls ≠ "java/lang/invoke/MethodHandle" ∧ yX1_neverRaised.cls ≠ "java/lang/invoke/VarHandle" ∧ (parseMethodDescriptor yX1_neverRaised.desc).map (fun d => d.parameters.length) = some 0 := by decide +kernel
set_option maxHeartbeats 4000000 in
set_option maxRecDepth 100000 in
theorem c_X1_neverRaised (l : Launch) (D : va_G) (Y : Nat → ClassId) (L : List Nat) (S : PS) (sz : Nat) (a0 : Nat) (Post : Int32 → Prop) (h : wp_X1_neverRaised S a0 Post) : Met l yX1_neverRaised wsX1_neverRaised ({ frames := 2, cells := 0, slots := 0, locals := 45 }) (va_Pc [.ref a0] (PrO D Y L S sz)) (vp_Si Post) 0 0 (fun _ => False) := by
  refine Met.ofW (cc := cX1_neverRaised) (maxL := 3) (ret := (some .int)) (by decide) rfl ?_
  intro p e s m args below meth c s₁ B hml hv
  obtain ⟨rfl, hsz, hJ, hP, hK, hD0, hZ⟩ := hv
  have hx := B.exec
  have hb := B.bytes
  have hr := B.returns
  have hts := atoms_spec (ws := wsX1_neverRaised) B.pre
  have hown : s.vm.findClass RX1 = some m.cls := findClass_of_methodNamed B.named
  have hlocks := B.notSynchronized
  have CF : CallFix p m c cX1_neverRaised 3 s ([.ref a0] : List Value).toArray wsX1_neverRaised RX1 := ⟨hx, hb, hml, hown, hts⟩
  have C : CX p m c cX1_neverRaised 3 s ([.ref a0] : List Value).toArray wsX1_neverRaised RX1 D Y := ⟨CF, hK, hZ⟩
  have hO : HO D Y (fR L sz) s.heap S s.heap [] := HO.entry hsz hJ hP hD0
  subst hsz
  have hl := lv_entry ([.ref a0]) (n := 3) (Nat.le_of_ble_eq_true rfl)
  rw [lg_entry_eq]
  generalize (lg_sl ([.ref a0]) ++ List.replicate (3 - (lg_sl ([.ref a0])).length) Slot.unset).toArray = ls at hl ⊢
  have hl : lv_has ls 3 [(0, .ref a0)] := hl
  unfold wp_X1_neverRaised at h
  refine lv_sipush (v := (nI 4095)) hx hb dX1_neverRaised_0 (by decide) ?_
  refine lv_istore_n (lv' := [(1, .int (nI 4095)), (0, .ref a0)]) hx hb dX1_neverRaised_3 rfl hl (by decide) rfl (fun ls hl => ?_)
  refine lv_iconst (v := (nI 0)) hx hb dX1_neverRaised_4 (by decide) ?_
  refine lv_istore_n (lv' := [(2, .int (nI 0)), (1, .int (nI 4095)), (0, .ref a0)]) hx hb dX1_neverRaised_5 rfl hl (by decide) rfl (fun ls hl => ?_)
  obtain ⟨n9, h⟩ := h
  refine lp_P (nL := 3) (fun q => [(2, .int q.1), (1, .int q.2), (0, .ref a0)]) h (lv_sub hl [0, 1, 2] rfl) (fun K6 ih6 q ls h hl => ?_)
  obtain ⟨i1, i2⟩ := q
  have h : wpb_X1_neverRaised_6 S a0 Post K6 i1 i2 := h
  have hl : lv_has ls 3 [(2, .int i1), (1, .int i2), (0, .ref a0)] := hl
  unfold wpb_X1_neverRaised_6 at h
  refine lv_iload_n hx hb dX1_neverRaised_6 rfl (lv_at hl 0 rfl) ?_
  refine lv_bipush (v := (nI 6)) hx hb dX1_neverRaised_7 (by decide) ?_
  refine lv_icmp_ge (tgt := 28) hx hb dX1_neverRaised_9 (by decide) (fun c3 => ?_) (fun c3 => ?_)
  · have h := h.1 c3
    refine lv_iload_n hx hb dX1_neverRaised_28 rfl (lv_at hl 1 rfl) ?_
    exact W.iret hx hb hr (fun t ht hW => ⟨i2, rfl, h, ht⟩) no_locs dX1_neverRaised_29
  · have h := h.2 c3
    refine lv_iload_n hx hb dX1_neverRaised_12 rfl (lv_at hl 1 rfl) ?_
    refine lv_aload_n hx hb dX1_neverRaised_13 rfl (lv_at hl 2 rfl) ?_
    refine lv_iload_n hx hb dX1_neverRaised_14 rfl (lv_at hl 0 rfl) ?_
    obtain ⟨fs6, e5, h⟩ := h
    refine cV_ri (As := [.int i1]) (rest := [.int i2]) (n := 1) C hO (fun L => c_X1_raisedBy l D Y L S s.heap.size a0 i1 _ h) 1 rfl e5 (cwV 1 hts gX1_neverRaised_X1_raisedBy rfl rfl rfl ⟨rfl, hdS_X1_raisedBy⟩ ⟨Nat.le_of_ble_eq_true rfl, Nat.le_of_ble_eq_true rfl⟩) rfl hl.1 rfl (Nat.le_of_ble_eq_true rfl) dX1_neverRaised_15 ⟨(Nat.le_of_ble_eq_true rfl), (Nat.le_of_ble_eq_true rfl)⟩ (fun i4 h => ?_)
    refine lv_iconst (v := (-1 : Int32)) hx hb dX1_neverRaised_18 (by decide) ?_
    refine lv_ixor hx hb dX1_neverRaised_19 ?_
    refine lv_iand hx hb dX1_neverRaised_20 ?_
    refine lv_topi (fun i7 ei7 => ?_)
    have h := h i7 ei7
    refine lv_istore_n (lv' := [(1, .int i7), (2, .int i1), (0, .ref a0)]) hx hb dX1_neverRaised_21 rfl hl (by decide) rfl (fun ls hl => ?_)
    obtain ⟨i8, ei8⟩ : ∃ y : Int32, y = i1 + (nI 1) := ⟨_, rfl⟩
    have h := h i8 ei8
    refine lv_iinc (v := i8) (lv' := [(2, .int i8), (1, .int i7), (0, .ref a0)]) hx hb dX1_neverRaised_22 hl (k := 1) rfl (by rw [ei8]; rfl) (by decide) rfl (fun ls hl => ?_)
    refine lv_goto (tgt := 6) hx hb dX1_neverRaised_25 (by decide) ?_
    exact ih6 (i8, i7) _ h (lv_sub hl [0, 1, 2] rfl)
theorem hdS_X1_draftsWithPresses : yX1_draftsWithPresses.cls ≠ "java/lang/invoke/MethodHandle" ∧ yX1_draftsWithPresses.cls ≠ "java/lang/invoke/VarHandle" ∧ (parseMethodDescriptor yX1_draftsWithPresses.desc).map (fun d => d.parameters.length) = some 0 := by decide +kernel
set_option maxHeartbeats 4000000 in
set_option maxRecDepth 100000 in
theorem c_X1_draftsWithPresses (l : Launch) (D : va_G) (Y : Nat → ClassId) (L : List Nat) (S : PS) (sz : Nat) (a0 : Nat) (Post : Int32 → Prop) (h : wp_X1_draftsWithPresses S a0 Post) : Met l yX1_draftsWithPresses wsX1_draftsWithPresses ({ frames := 0, cells := 0, slots := 0, locals := 0 }) (va_Pc [.ref a0] (PrO D Y L S sz)) (vp_Si Post) 0 0 (fun _ => False) := by
  refine Met.ofW (cc := cX1_draftsWithPresses) (maxL := 4) (ret := (some .int)) (by decide) rfl ?_
  intro p e s m args below meth c s₁ B hml hv
  obtain ⟨rfl, hsz, hJ, hP, hK, hD0, hZ⟩ := hv
  have hx := B.exec
  have hb := B.bytes
  have hr := B.returns
  have hts := atoms_spec (ws := wsX1_draftsWithPresses) B.pre
  have hown : s.vm.findClass RX1 = some m.cls := findClass_of_methodNamed B.named
  have hlocks := B.notSynchronized
  have CF : CallFix p m c cX1_draftsWithPresses 4 s ([.ref a0] : List Value).toArray wsX1_draftsWithPresses RX1 := ⟨hx, hb, hml, hown, hts⟩
  have C : CX p m c cX1_draftsWithPresses 4 s ([.ref a0] : List Value).toArray wsX1_draftsWithPresses RX1 D Y := ⟨CF, hK, hZ⟩
  have hO : HO D Y (fR L sz) s.heap S s.heap [] := HO.entry hsz hJ hP hD0
  subst hsz
  have inX0 : ∀ w ∈ wsX00, w ∈ wsX1_draftsWithPresses := fun w h => List.mem_cons_of_mem _ (List.mem_append_right _ h)
  have inX1 : ∀ w ∈ wsX10, w ∈ wsX1_draftsWithPresses := fun w h => List.mem_cons_of_mem _ (List.mem_append_left _ (List.mem_append_right _ h))
  have hl := lv_entry ([.ref a0]) (n := 4) (Nat.le_of_ble_eq_true rfl)
  rw [lg_entry_eq]
  generalize (lg_sl ([.ref a0]) ++ List.replicate (4 - (lg_sl ([.ref a0])).length) Slot.unset).toArray = ls at hl ⊢
  have hl : lv_has ls 4 [(0, .ref a0)] := hl
  unfold wp_X1_draftsWithPresses at h
  refine lv_iconst (v := (nI 0)) hx hb dX1_draftsWithPresses_0 (by decide) ?_
  refine lv_istore_n (lv' := [(1, .int (nI 0)), (0, .ref a0)]) hx hb dX1_draftsWithPresses_1 rfl hl (by decide) rfl (fun ls hl => ?_)
  refine lv_iconst (v := (nI 0)) hx hb dX1_draftsWithPresses_2 (by decide) ?_
  refine lv_istore_n (lv' := [(2, .int (nI 0)), (1, .int (nI 0)), (0, .ref a0)]) hx hb dX1_draftsWithPresses_3 rfl hl (by decide) rfl (fun ls hl => ?_)
  obtain ⟨n18, h⟩ := h
  refine lp_P (nL := 4) (fun q => [(2, .int q.1), (1, .int q.2), (0, .ref a0)]) h (lv_sub hl [0, 1, 2] rfl) (fun K4 ih4 q ls h hl => ?_)
  obtain ⟨i1, i2⟩ := q
  have h : wpb_X1_draftsWithPresses_4 S a0 Post K4 i1 i2 := h
  have hl : lv_has ls 4 [(2, .int i1), (1, .int i2), (0, .ref a0)] := hl
  unfold wpb_X1_draftsWithPresses_4 at h
  refine lv_iload_n hx hb dX1_draftsWithPresses_4 rfl (lv_at hl 0 rfl) ?_
  refine lv_bipush (v := (nI 6)) hx hb dX1_draftsWithPresses_5 (by decide) ?_
  refine lv_icmp_ge (tgt := 40) hx hb dX1_draftsWithPresses_7 (by decide) (fun c3 => ?_) (fun c3 => ?_)
  · have h := h.1 c3
    refine lv_iload_n hx hb dX1_draftsWithPresses_40 rfl (lv_at hl 1 rfl) ?_
    exact W.iret hx hb hr (fun t ht hW => ⟨i2, rfl, h, ht⟩) no_locs dX1_draftsWithPresses_41
  · have h := h.2 c3
    refine lv_aload_n hx hb dX1_draftsWithPresses_10 rfl (lv_at hl 2 rfl) ?_
    obtain ⟨fs4, a5, e6, e6', h⟩ := h
    refine r_get C hO 1 4 rfl inX1 (Nat.le_of_ble_eq_true rfl) e6 e6' (List.mem_of_getElem? (i := 1) (by decide +kernel)) dX1_draftsWithPresses_11 ?_
    refine lv_iload_n hx hb dX1_draftsWithPresses_14 rfl (lv_at hl 0 rfl) ?_
    obtain ⟨n7, f8, a10, e9, e9', hrq, h⟩ := h
    refine r_aaldD C hO e9 e9' (congrArg va_rf hrq) dX1_draftsWithPresses_15 ?_
    show W _ _ _ _ _ _ _ _ _ _ _ _ _ _ _ (F0 _ _ _ (.ref a10 :: _))
    refine lv_astore_n (lv' := [(3, .ref a10), (2, .int i1), (1, .int i2), (0, .ref a0)]) hx hb dX1_draftsWithPresses_16 rfl hl (by decide) rfl (fun ls hl => ?_)
    refine lv_aload_n hx hb dX1_draftsWithPresses_17 rfl (lv_at hl 0 rfl) ?_
    refine lv_ifnull hx hb dX1_draftsWithPresses_18 ?_
    refine lv_aload_n hx hb dX1_draftsWithPresses_21 rfl (lv_at hl 0 rfl) ?_
    obtain ⟨fs11, i12, e13, e13', h⟩ := h
    refine r_get C hO 0 1 rfl inX0 (Nat.le_of_ble_eq_true rfl) e13 e13' (List.mem_of_getElem? (i := 2) (by decide +kernel)) dX1_draftsWithPresses_22 ?_
    refine lv_if_le (tgt := 34) hx hb dX1_draftsWithPresses_25 (by decide) (fun c14 => ?_) (fun c14 => ?_)
    · have h := h.1 c14
      obtain ⟨i15, ei15⟩ : ∃ y : Int32, y = i1 + (nI 1) := ⟨_, rfl⟩
      have h := h i15 ei15
      refine lv_iinc (v := i15) (lv' := [(2, .int i15), (3, .ref a10), (1, .int i2), (0, .ref a0)]) hx hb dX1_draftsWithPresses_34 hl (k := 1) rfl (by rw [ei15]; rfl) (by decide) rfl (fun ls hl => ?_)
      refine lv_goto (tgt := 4) hx hb dX1_draftsWithPresses_37 (by decide) ?_
      exact ih4 (i15, i2) _ h (lv_sub hl [0, 2, 3] rfl)
    · have h := h.2 c14
      refine lv_iload_n hx hb dX1_draftsWithPresses_28 rfl (lv_at hl 2 rfl) ?_
      refine lv_iconst (v := (nI 1)) hx hb dX1_draftsWithPresses_29 (by decide) ?_
      refine lv_iload_n hx hb dX1_draftsWithPresses_30 rfl (lv_at hl 1 rfl) ?_
      refine lv_ishl hx hb dX1_draftsWithPresses_31 ?_
      refine lv_ior hx hb dX1_draftsWithPresses_32 ?_
      refine lv_topi (fun i16 ei16 => ?_)
      have h := h i16 ei16
      refine lv_istore_n (lv' := [(1, .int i16), (3, .ref a10), (2, .int i1), (0, .ref a0)]) hx hb dX1_draftsWithPresses_33 rfl hl (by decide) rfl (fun ls hl => ?_)
      obtain ⟨i17, ei17⟩ : ∃ y : Int32, y = i1 + (nI 1) := ⟨_, rfl⟩
      have h := h i17 ei17
      refine lv_iinc (v := i17) (lv' := [(2, .int i17), (1, .int i16), (3, .ref a10), (0, .ref a0)]) hx hb dX1_draftsWithPresses_34 hl (k := 2) rfl (by rw [ei17]; rfl) (by decide) rfl (fun ls hl => ?_)
      refine lv_goto (tgt := 4) hx hb dX1_draftsWithPresses_37 (by decide) ?_
      exact ih4 (i17, i16) _ h (lv_sub hl [0, 1, 3] rfl)
