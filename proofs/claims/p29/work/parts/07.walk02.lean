theorem hdS_X3_keep : yX3_keep.cls ≠ "java/lang/invoke/MethodHandle" ∧ yX3_keep.cls ≠ "java/lang/invoke/VarHandle" ∧ (parseMethodDescriptor yX3_keep.desc).map (fun d => d.parameters.length) = some 1 := by decide +kernel
set_option maxHeartbeats 4000000 in
set_option maxRecDepth 100000 in
theorem c_X3_keep (l : Launch) (D : va_G) (Y : Nat → ClassId) (L : List Nat) (S : PS) (sz : Nat) (a0 : Nat) (v1 : Nat) (Post : PS → Prop) (h : wp_X3_keep S a0 v1 Post) : Met l yX3_keep wsX3_keep ({ frames := 3, cells := 15, slots := 175, locals := 63 }) (va_Pc [.ref a0, .ref v1] (PrO D Y L S sz)) (va_Qv Post (QtO D Y (fR L sz)) (fR L sz)) 15 175 (fR L sz) := by
  refine Met.ofW (cc := cX3_keep) (maxL := 3) (ret := none) (by decide) rfl ?_
  intro p e s m args below meth c s₁ B hml hv
  obtain ⟨rfl, hsz, hJ, hP, hK, hD0, hZ⟩ := hv
  have hx := B.exec
  have hb := B.bytes
  have hr := B.returns
  have hts := atoms_spec (ws := wsX3_keep) B.pre
  have hown : s.vm.findClass RX3 = some m.cls := findClass_of_methodNamed B.named
  have hlocks := B.notSynchronized
  have CF : CallFix p m c cX3_keep 3 s ([.ref a0, .ref v1] : List Value).toArray wsX3_keep RX3 := ⟨hx, hb, hml, hown, hts⟩
  have C : CX p m c cX3_keep 3 s ([.ref a0, .ref v1] : List Value).toArray wsX3_keep RX3 D Y := ⟨CF, hK, hZ⟩
  have hO : HO D Y (fR L sz) s.heap S s.heap [] := HO.entry hsz hJ hP hD0
  subst hsz
  have inX1 : ∀ w ∈ wsX10, w ∈ wsX3_keep := fun w h => List.mem_cons_of_mem _ (List.mem_append_left _ (List.mem_append_right _ h))
  have inX3 : ∀ w ∈ wsX30, w ∈ wsX3_keep := fun w h => List.mem_cons_of_mem _ (List.mem_append_left _ (List.mem_append_left _ (List.mem_append_right _ h)))
  have hl := lv_entry ([.ref a0, .ref v1]) (n := 3) (Nat.le_of_ble_eq_true rfl)
  rw [lg_entry_eq]
  generalize (lg_sl ([.ref a0, .ref v1]) ++ List.replicate (3 - (lg_sl ([.ref a0, .ref v1])).length) Slot.unset).toArray = ls at hl ⊢
  have hl : lv_has ls 3 [(0, .ref a0), (1, .ref v1)] := hl
  unfold wp_X3_keep at h
  refine lv_aload_n hx hb dX3_keep_0 rfl (lv_at hl 0 rfl) ?_
  obtain ⟨fs1, i2, e3, e3', h⟩ := h
  refine r_get C hO 3 1 rfl inX3 (Nat.le_of_ble_eq_true rfl) e3 e3' (List.mem_of_getElem? (i := 1) (by decide +kernel)) dX3_keep_1 ?_
  refine lv_bipush (v := (nI 6)) hx hb dX3_keep_4 (by decide) ?_
  refine cut_W D Y (fR L s.heap.size) s.heap (nL := 3) (fun (q : PS) => wpk_X3_keep_13 a0 v1 Post q) (fun q => [(0, .ref a0), (1, .ref v1)]) (fun q => q) 13 ?_ (fun kc13 => ?_)
  · intro q ls H locs h hl hO
    obtain ⟨S4, rfl⟩ : ∃ z, z = q := ⟨q, rfl⟩
    have h : wpk_X3_keep_13 a0 v1 Post S4 := h
    have hl : lv_has ls 3 [(0, .ref a0), (1, .ref v1)] := hl
    have hO : HO D Y (fR L s.heap.size) s.heap S4 H locs := hO
    unfold wpk_X3_keep_13 at h
    refine lv_aload_n hx hb dX3_keep_13 rfl (lv_at hl 0 rfl) ?_
    obtain ⟨fs5, i6, e7, e7', h⟩ := h
    refine r_get C hO 3 1 rfl inX3 (Nat.le_of_ble_eq_true rfl) e7 e7' (List.mem_of_getElem? (i := 1) (by decide +kernel)) dX3_keep_14 ?_
    refine lv_bipush (v := (nI 6)) hx hb dX3_keep_17 (by decide) ?_
    refine cN_si (As := [.int i6, .int (nI 6)]) (rest := []) (n := 2) CF hZ (c_X7_isBelow l i6 (nI 6) _ h) ⟨va_cnB 2 hts gX3_keep_X7_isBelow_n24 rfl rfl rfl (hZ.nest 5 rfl) (hts _ (List.mem_of_getElem? (i := 12) (by decide +kernel : wsX3_keep[12]? = some (Cond.initialized RX7)))) hdS_X7_isBelow ⟨Nat.le_of_ble_eq_true rfl, Nat.le_of_ble_eq_true rfl⟩, (hts _ (List.mem_of_getElem? (i := 11) (by decide +kernel : wsX3_keep[11]? = some (Cond.static yX7_isBelow)))), trivial⟩ rfl hl.1 rfl (Nat.le_of_ble_eq_true rfl) dX3_keep_19 ⟨(Nat.le_of_ble_eq_true rfl), (Nat.le_of_ble_eq_true rfl)⟩ (fun i8 h => ?_)
    refine lv_if_ne (tgt := 26) hx hb dX3_keep_22 (by decide) (fun c9 => ?_) (fun c9 => ?_)
    · have h := h.2 c9
      refine lv_aload_n hx hb dX3_keep_26 rfl (lv_at hl 0 rfl) ?_
      obtain ⟨fs10, a11, e12, e12', h⟩ := h
      refine r_get C hO 3 0 rfl inX3 (Nat.le_of_ble_eq_true rfl) e12 e12' (List.mem_of_getElem? (i := 2) (by decide +kernel)) dX3_keep_27 ?_
      refine lv_aload_n hx hb dX3_keep_30 rfl (lv_at hl 0 rfl) ?_
      obtain ⟨fs13, i14, e15, e15', h⟩ := h
      refine r_get C hO 3 1 rfl inX3 (Nat.le_of_ble_eq_true rfl) e15 e15' (List.mem_of_getElem? (i := 1) (by decide +kernel)) dX3_keep_31 ?_
      obtain ⟨n16, f17, e18, e18', h⟩ := h
      rcases hrq : f17 (i14).toNatClampNeg with _ | a19
      · have h := h.1 hrq
        refine r_aaldL C hO e18 e18' (congrArg va_rf hrq) dX3_keep_34 ?_
        show W _ _ _ _ _ _ _ _ _ _ _ _ _ _ _ (F0 _ _ _ (.null :: _))
        refine lv_astore_nN (lv' := [(2, .null), (0, .ref a0), (1, .ref v1)]) hx hb dX3_keep_35 rfl hl (by decide) rfl (fun ls hl => ?_)
        refine lv_aload_nN hx hb dX3_keep_36 rfl (lv_at hl 0 rfl) ?_
        refine lv_ifnonnullN hx hb dX3_keep_37 ?_
        refine r_new C hO 1 [.long 0, .long 0, .long 0, .null, .null, .int 0, .int 0] rfl inX1 tyX1_ok (fun j hj => by have hj : j < 7 := hj; rcases (show j = 0 ∨ j = 1 ∨ j = 2 ∨ j = 3 ∨ j = 4 ∨ j = 5 ∨ j = 6 by omega) with rfl | rfl | rfl | rfl | rfl | rfl | rfl <;> rfl) (N := 7) rfl (List.mem_of_getElem? (i := 3) (by decide +kernel)) (List.mem_of_getElem? (i := 4) (by decide +kernel)) (List.mem_of_getElem? (i := 5) (by decide +kernel)) (Nat.le_of_ble_eq_true rfl) (Nat.le_of_ble_eq_true rfl) dX3_keep_40 (fun a20 H hqa20 hO => ?_)
        obtain ⟨S21, eS21⟩ : ∃ Sx, Sx = va_up S4 a20 (.inl (1, [.long 0, .long 0, .long 0, .null, .null, .int 0, .int 0])) := ⟨_, rfl⟩
        rw [← eS21] at hO
        have h := h a20 hqa20 S21 eS21
        refine lv_dup hx hb dX3_keep_43 rfl ?_
        obtain ⟨e23, h⟩ := h
        refine cI_wv (As := []) (rest := [.ref a20]) (n := 0) C hO (fun L => c_X1_init l D Y L S21 H.size a20 _ h) e23 (cwI 0 hts gX3_keep_X1_init rfl rfl rfl (hts _ (List.mem_of_getElem? (i := 5) (by decide +kernel : wsX3_keep[5]? = some (Cond.initialized RX1)))) (hts _ (List.mem_of_getElem? (i := 14) (by decide +kernel : wsX3_keep[14]? = some (Cond.methodLink RX3 28 yX1_init)))) (hts _ (List.mem_of_getElem? (i := 15) (by decide +kernel : wsX3_keep[15]? = some (Cond.instanceMethod yX1_init)))) rfl hdS_X1_init ⟨Nat.le_of_ble_eq_true rfl, Nat.le_of_ble_eq_true rfl⟩) rfl hl.1 rfl (Nat.le_of_ble_eq_true rfl) dX3_keep_44 ⟨(Nat.le_of_ble_eq_true rfl), (Nat.le_of_ble_eq_true rfl)⟩ (fun S22 H locs h hO => ?_)
        refine lv_astore_n (lv' := [(2, .ref a20), (0, .ref a0), (1, .ref v1)]) hx hb dX3_keep_47 rfl hl (by decide) rfl (fun ls hl => ?_)
        refine lv_aload_n hx hb dX3_keep_48 rfl (lv_at hl 0 rfl) ?_
        refine lv_aload_n hx hb dX3_keep_49 rfl (lv_at hl 2 rfl) ?_
        obtain ⟨fs26, e25, h⟩ := h
        refine cV_wv (As := [.ref v1]) (rest := []) (n := 1) C hO (fun L => c_X1_copyFrom l D Y L S22 H.size a20 v1 _ h) 1 rfl e25 (cwV 1 hts gX3_keep_X1_copyFrom rfl rfl rfl ⟨rfl, hdS_X1_copyFrom⟩ ⟨Nat.le_of_ble_eq_true rfl, Nat.le_of_ble_eq_true rfl⟩) rfl hl.1 rfl (Nat.le_of_ble_eq_true rfl) dX3_keep_50 ⟨(Nat.le_of_ble_eq_true rfl), (Nat.le_of_ble_eq_true rfl)⟩ (fun S24 H locs h hO => ?_)
        refine lv_aload_n hx hb dX3_keep_53 rfl (lv_at hl 1 rfl) ?_
        obtain ⟨fs27, a28, e29, e29', h⟩ := h
        refine r_get C hO 3 0 rfl inX3 (Nat.le_of_ble_eq_true rfl) e29 e29' (List.mem_of_getElem? (i := 2) (by decide +kernel)) dX3_keep_54 ?_
        refine lv_aload_n hx hb dX3_keep_57 rfl (lv_at hl 1 rfl) ?_
        obtain ⟨fs30, i31, e32, e32', h⟩ := h
        refine r_get C hO 3 1 rfl inX3 (Nat.le_of_ble_eq_true rfl) e32 e32' (List.mem_of_getElem? (i := 1) (by decide +kernel)) dX3_keep_58 ?_
        refine lv_aload_n hx hb dX3_keep_61 rfl (lv_at hl 0 rfl) ?_
        obtain ⟨n33, f34, vs35, e36, e36', e36v, h⟩ := h
        refine r_aastL C hO e36 e36' e36v dX3_keep_62 (fun H locs hO => ?_)
        obtain ⟨S37, eS37⟩ : ∃ Sx, Sx = va_up S24 a28 (aL n33 (va_up f34 (i31).toNatClampNeg (some a20))) := ⟨_, rfl⟩
        rw [← eS37] at hO
        have h := h S37 eS37
        refine lv_aload_n hx hb dX3_keep_63 rfl (lv_at hl 1 rfl) ?_
        refine lv_dup hx hb dX3_keep_64 rfl ?_
        obtain ⟨fs38, i39, e40, e40', h⟩ := h
        refine r_get C hO 3 1 rfl inX3 (Nat.le_of_ble_eq_true rfl) e40 e40' (List.mem_of_getElem? (i := 1) (by decide +kernel)) dX3_keep_65 ?_
        refine lv_iconst (v := (nI 1)) hx hb dX3_keep_68 (by decide) ?_
        refine lv_iadd hx hb dX3_keep_69 ?_
        obtain ⟨fs41, e42, e42', h⟩ := h
        refine r_put C hO 3 1 rfl inX3 tyX3_ok nmX3 (Nat.le_of_ble_eq_true rfl) rfl rfl rfl e42 e42' (List.mem_of_getElem? (i := 1) (by decide +kernel)) dX3_keep_70 (fun H locs hO => ?_)
        obtain ⟨S43, eS43⟩ : ∃ Sx, Sx = va_up S37 a0 (.inl (3, fs41.set 1 (.int (i39 + (nI 1))))) := ⟨_, rfl⟩
        rw [← eS43] at hO
        have h := h S43 eS43
        exact W.vret hx hb hr (fun t ht hW => ⟨⟨S43, rfl, h, hO.q ht⟩, hO.f ht⟩) hO.lc dX3_keep_73
      · have h := h.2 a19 hrq
        refine r_aaldL C hO e18 e18' (congrArg va_rf hrq) dX3_keep_34 ?_
        show W _ _ _ _ _ _ _ _ _ _ _ _ _ _ _ (F0 _ _ _ (.ref a19 :: _))
        refine lv_astore_n (lv' := [(2, .ref a19), (0, .ref a0), (1, .ref v1)]) hx hb dX3_keep_35 rfl hl (by decide) rfl (fun ls hl => ?_)
        refine lv_aload_n hx hb dX3_keep_36 rfl (lv_at hl 0 rfl) ?_
        refine lv_ifnonnull (tgt := 48) hx hb dX3_keep_37 (by decide) ?_
        refine lv_aload_n hx hb dX3_keep_48 rfl (lv_at hl 0 rfl) ?_
        refine lv_aload_n hx hb dX3_keep_49 rfl (lv_at hl 2 rfl) ?_
        obtain ⟨fs46, e45, h⟩ := h
        refine cV_wv (As := [.ref v1]) (rest := []) (n := 1) C hO (fun L => c_X1_copyFrom l D Y L S4 H.size a19 v1 _ h) 1 rfl e45 (cwV 1 hts gX3_keep_X1_copyFrom rfl rfl rfl ⟨rfl, hdS_X1_copyFrom⟩ ⟨Nat.le_of_ble_eq_true rfl, Nat.le_of_ble_eq_true rfl⟩) rfl hl.1 rfl (Nat.le_of_ble_eq_true rfl) dX3_keep_50 ⟨(Nat.le_of_ble_eq_true rfl), (Nat.le_of_ble_eq_true rfl)⟩ (fun S44 H locs h hO => ?_)
        refine lv_aload_n hx hb dX3_keep_53 rfl (lv_at hl 1 rfl) ?_
        obtain ⟨fs47, a48, e49, e49', h⟩ := h
        refine r_get C hO 3 0 rfl inX3 (Nat.le_of_ble_eq_true rfl) e49 e49' (List.mem_of_getElem? (i := 2) (by decide +kernel)) dX3_keep_54 ?_
        refine lv_aload_n hx hb dX3_keep_57 rfl (lv_at hl 1 rfl) ?_
        obtain ⟨fs50, i51, e52, e52', h⟩ := h
        refine r_get C hO 3 1 rfl inX3 (Nat.le_of_ble_eq_true rfl) e52 e52' (List.mem_of_getElem? (i := 1) (by decide +kernel)) dX3_keep_58 ?_
        refine lv_aload_n hx hb dX3_keep_61 rfl (lv_at hl 0 rfl) ?_
        obtain ⟨n53, f54, vs55, e56, e56', e56v, h⟩ := h
        refine r_aastL C hO e56 e56' e56v dX3_keep_62 (fun H locs hO => ?_)
        obtain ⟨S57, eS57⟩ : ∃ Sx, Sx = va_up S44 a48 (aL n53 (va_up f54 (i51).toNatClampNeg (some a19))) := ⟨_, rfl⟩
        rw [← eS57] at hO
        have h := h S57 eS57
        refine lv_aload_n hx hb dX3_keep_63 rfl (lv_at hl 1 rfl) ?_
        refine lv_dup hx hb dX3_keep_64 rfl ?_
        obtain ⟨fs58, i59, e60, e60', h⟩ := h
        refine r_get C hO 3 1 rfl inX3 (Nat.le_of_ble_eq_true rfl) e60 e60' (List.mem_of_getElem? (i := 1) (by decide +kernel)) dX3_keep_65 ?_
        refine lv_iconst (v := (nI 1)) hx hb dX3_keep_68 (by decide) ?_
        refine lv_iadd hx hb dX3_keep_69 ?_
        obtain ⟨fs61, e62, e62', h⟩ := h
        refine r_put C hO 3 1 rfl inX3 tyX3_ok nmX3 (Nat.le_of_ble_eq_true rfl) rfl rfl rfl e62 e62' (List.mem_of_getElem? (i := 1) (by decide +kernel)) dX3_keep_70 (fun H locs hO => ?_)
        obtain ⟨S63, eS63⟩ : ∃ Sx, Sx = va_up S57 a0 (.inl (3, fs61.set 1 (.int (i59 + (nI 1))))) := ⟨_, rfl⟩
        rw [← eS63] at hO
        have h := h S63 eS63
        refine W.widen (k := 15) (n := 175) (Nat.le_of_ble_eq_true rfl) (Nat.le_of_ble_eq_true rfl) ?_
        exact W.vret hx hb hr (fun t ht hW => ⟨⟨S63, rfl, h, hO.q ht⟩, hO.f ht⟩) hO.lc dX3_keep_73
    · have h := h.1 c9
      refine W.widen (k := 15) (n := 175) (Nat.le_of_ble_eq_true rfl) (Nat.le_of_ble_eq_true rfl) ?_
      exact W.vret hx hb hr (fun t ht hW => ⟨⟨S4, rfl, h, hO.q ht⟩, hO.f ht⟩) hO.lc dX3_keep_25
  refine lv_icmp_lt (tgt := 13) hx hb dX3_keep_6 (by decide) (fun c64 => ?_) (fun c64 => ?_)
  · have h := h.1 c64
    exact kc13 S _ _ _ h (lv_sub hl [0, 1] rfl) hO
  · have h := h.2 c64
    refine lv_aload_n hx hb dX3_keep_9 rfl (lv_at hl 0 rfl) ?_
    obtain ⟨fs67, e66, h⟩ := h
    refine cV_wv (As := []) (rest := []) (n := 0) C hO (fun L => c_X3_dropOldest l D Y L S s.heap.size a0 _ h) 3 rfl e66 (cwV 0 hts gX3_keep_X3_dropOldest rfl rfl rfl ⟨rfl, hdS_X3_dropOldest⟩ ⟨Nat.le_of_ble_eq_true rfl, Nat.le_of_ble_eq_true rfl⟩) rfl hl.1 rfl (Nat.le_of_ble_eq_true rfl) dX3_keep_10 ⟨(Nat.le_of_ble_eq_true rfl), (Nat.le_of_ble_eq_true rfl)⟩ (fun S65 H locs h hO => ?_)
    exact kc13 S65 _ _ _ h (lv_sub hl [0, 1] rfl) hO
theorem hdS_X3_giveBack : yX3_giveBack.cls ≠ "java/lang/invoke/MethodHandle" ∧ yX3_giveBack.cls ≠ "java/lang/invoke/VarHandle" ∧ (parseMethodDescriptor yX3_giveBack.desc).map (fun d => d.parameters.length) = some 1 := by decide +kernel
set_option maxHeartbeats 4000000 in
set_option maxRecDepth 100000 in
theorem c_X3_giveBack (l : Launch) (D : va_G) (Y : Nat → ClassId) (L : List Nat) (S : PS) (sz : Nat) (a0 : Nat) (v1 : Nat) (Post : PS → Prop) (h : wp_X3_giveBack S a0 v1 Post) : Met l yX3_giveBack wsX3_giveBack ({ frames := 3, cells := 0, slots := 0, locals := 63 }) (va_Pc [.ref a0, .ref v1] (PrO D Y L S sz)) (va_Qv Post (QtO D Y (fR L sz)) (fR L sz)) 0 0 (fR L sz) := by
  refine Met.ofW (cc := cX3_giveBack) (maxL := 3) (ret := none) (by decide) rfl ?_
  intro p e s m args below meth c s₁ B hml hv
  obtain ⟨rfl, hsz, hJ, hP, hK, hD0, hZ⟩ := hv
  have hx := B.exec
  have hb := B.bytes
  have hr := B.returns
  have hts := atoms_spec (ws := wsX3_giveBack) B.pre
  have hown : s.vm.findClass RX3 = some m.cls := findClass_of_methodNamed B.named
  have hlocks := B.notSynchronized
  have CF : CallFix p m c cX3_giveBack 3 s ([.ref a0, .ref v1] : List Value).toArray wsX3_giveBack RX3 := ⟨hx, hb, hml, hown, hts⟩
  have C : CX p m c cX3_giveBack 3 s ([.ref a0, .ref v1] : List Value).toArray wsX3_giveBack RX3 D Y := ⟨CF, hK, hZ⟩
  have hO : HO D Y (fR L sz) s.heap S s.heap [] := HO.entry hsz hJ hP hD0
  subst hsz
  have inX3 : ∀ w ∈ wsX30, w ∈ wsX3_giveBack := fun w h => List.mem_cons_of_mem _ (List.mem_append_left _ (List.mem_append_left _ (List.mem_append_right _ h)))
  have hl := lv_entry ([.ref a0, .ref v1]) (n := 3) (Nat.le_of_ble_eq_true rfl)
  rw [lg_entry_eq]
  generalize (lg_sl ([.ref a0, .ref v1]) ++ List.replicate (3 - (lg_sl ([.ref a0, .ref v1])).length) Slot.unset).toArray = ls at hl ⊢
  have hl : lv_has ls 3 [(0, .ref a0), (1, .ref v1)] := hl
  unfold wp_X3_giveBack at h
  refine lv_aload_n hx hb dX3_giveBack_0 rfl (lv_at hl 0 rfl) ?_
  obtain ⟨fs1, i2, e3, e3', h⟩ := h
  refine r_get C hO 3 1 rfl inX3 (Nat.le_of_ble_eq_true rfl) e3 e3' (List.mem_of_getElem? (i := 1) (by decide +kernel)) dX3_giveBack_1 ?_
  refine lv_iconst (v := (nI 1)) hx hb dX3_giveBack_4 (by decide) ?_
  refine lv_isub hx hb dX3_giveBack_5 ?_
  refine lv_bipush (v := (nI 6)) hx hb dX3_giveBack_6 (by decide) ?_
  refine cN_si (As := [.int (i2 - (nI 1)), .int (nI 6)]) (rest := []) (n := 2) CF hZ (c_X7_isBelow l ((i2 - (nI 1))) (nI 6) _ h) ⟨va_cnB 2 hts gX3_giveBack_X7_isBelow_n24 rfl rfl rfl (hZ.nest 5 rfl) (hts _ (List.mem_of_getElem? (i := 4) (by decide +kernel : wsX3_giveBack[4]? = some (Cond.initialized RX7)))) hdS_X7_isBelow ⟨Nat.le_of_ble_eq_true rfl, Nat.le_of_ble_eq_true rfl⟩, (hts _ (List.mem_of_getElem? (i := 3) (by decide +kernel : wsX3_giveBack[3]? = some (Cond.static yX7_isBelow)))), trivial⟩ rfl hl.1 rfl (Nat.le_of_ble_eq_true rfl) dX3_giveBack_8 ⟨(Nat.le_of_ble_eq_true rfl), (Nat.le_of_ble_eq_true rfl)⟩ (fun i4 h => ?_)
  refine lv_if_ne (tgt := 15) hx hb dX3_giveBack_11 (by decide) (fun c5 => ?_) (fun c5 => ?_)
  · have h := h.2 c5
    refine lv_aload_n hx hb dX3_giveBack_15 rfl (lv_at hl 0 rfl) ?_
    refine lv_dup hx hb dX3_giveBack_16 rfl ?_
    obtain ⟨fs6, i7, e8, e8', h⟩ := h
    refine r_get C hO 3 1 rfl inX3 (Nat.le_of_ble_eq_true rfl) e8 e8' (List.mem_of_getElem? (i := 1) (by decide +kernel)) dX3_giveBack_17 ?_
    refine lv_iconst (v := (nI 1)) hx hb dX3_giveBack_20 (by decide) ?_
    refine lv_isub hx hb dX3_giveBack_21 ?_
    obtain ⟨fs9, e10, e10', h⟩ := h
    refine r_put C hO 3 1 rfl inX3 tyX3_ok nmX3 (Nat.le_of_ble_eq_true rfl) rfl rfl rfl e10 e10' (List.mem_of_getElem? (i := 1) (by decide +kernel)) dX3_giveBack_22 (fun H locs hO => ?_)
    obtain ⟨S11, eS11⟩ : ∃ Sx, Sx = va_up S a0 (.inl (3, fs9.set 1 (.int (i7 - (nI 1))))) := ⟨_, rfl⟩
    rw [← eS11] at hO
    have h := h S11 eS11
    refine lv_aload_n hx hb dX3_giveBack_25 rfl (lv_at hl 0 rfl) ?_
    obtain ⟨fs12, a13, e14, e14', h⟩ := h
    refine r_get C hO 3 0 rfl inX3 (Nat.le_of_ble_eq_true rfl) e14 e14' (List.mem_of_getElem? (i := 2) (by decide +kernel)) dX3_giveBack_26 ?_
    refine lv_aload_n hx hb dX3_giveBack_29 rfl (lv_at hl 0 rfl) ?_
    obtain ⟨fs15, i16, e17, e17', h⟩ := h
    refine r_get C hO 3 1 rfl inX3 (Nat.le_of_ble_eq_true rfl) e17 e17' (List.mem_of_getElem? (i := 1) (by decide +kernel)) dX3_giveBack_30 ?_
    obtain ⟨n18, f19, a21, e20, e20', hrq, h⟩ := h
    refine r_aaldL C hO e20 e20' (congrArg va_rf hrq) dX3_giveBack_33 ?_
    show W _ _ _ _ _ _ _ _ _ _ _ _ _ _ _ (F0 _ _ _ (.ref a21 :: _))
    refine lv_astore_n (lv' := [(2, .ref a21), (0, .ref a0), (1, .ref v1)]) hx hb dX3_giveBack_34 rfl hl (by decide) rfl (fun ls hl => ?_)
    refine lv_aload_n hx hb dX3_giveBack_35 rfl (lv_at hl 0 rfl) ?_
    refine lv_ifnull hx hb dX3_giveBack_36 ?_
    refine lv_aload_n hx hb dX3_giveBack_39 rfl (lv_at hl 2 rfl) ?_
    refine lv_aload_n hx hb dX3_giveBack_40 rfl (lv_at hl 0 rfl) ?_
    obtain ⟨fs24, e23, h⟩ := h
    refine cV_wv (As := [.ref a21]) (rest := []) (n := 1) C hO (fun L => c_X1_copyFrom l D Y L S11 H.size v1 a21 _ h) 1 rfl e23 (cwV 1 hts gX3_giveBack_X1_copyFrom rfl rfl rfl ⟨rfl, hdS_X1_copyFrom⟩ ⟨Nat.le_of_ble_eq_true rfl, Nat.le_of_ble_eq_true rfl⟩) rfl hl.1 rfl (Nat.le_of_ble_eq_true rfl) dX3_giveBack_41 ⟨(Nat.le_of_ble_eq_true rfl), (Nat.le_of_ble_eq_true rfl)⟩ (fun S22 H locs h hO => ?_)
    exact W.vret hx hb hr (fun t ht hW => ⟨⟨S22, rfl, h, hO.q ht⟩, hO.f ht⟩) hO.lc dX3_giveBack_44
  · have h := h.1 c5
    exact W.vret hx hb hr (fun t ht hW => ⟨⟨S, rfl, h, hO.q ht⟩, hO.f ht⟩) hO.lc dX3_giveBack_14
theorem hdS_X5_init : yX5_init.cls ≠ "java/lang/invoke/MethodHandle" ∧ yX5_init.cls ≠ "java/lang/invoke/VarHandle" ∧ (parseMethodDescriptor yX5_init.desc).map (fun d => d.parameters.length) = some 0 := by decide +kernel
set_option maxHeartbeats 4000000 in
set_option maxRecDepth 100000 in
theorem c_X5_init (l : Launch) (D : va_G) (Y : Nat → ClassId) (L : List Nat) (S : PS) (sz : Nat) (a0 : Nat) (Post : PS → Prop) (h : wp_X5_init S a0 Post) : Met l yX5_init wsX5_init ({ frames := 1, cells := 3, slots := 1331, locals := 12 }) (va_Pc [.ref a0] (PrO D Y L S sz)) (va_Qv Post (QtO D Y (fR L sz)) (fR L sz)) 3 1331 (fR L sz) := by
  refine Met.ofW (cc := cX5_init) (maxL := 1) (ret := none) (by decide) rfl ?_
  intro p e s m args below meth c s₁ B hml hv
  obtain ⟨rfl, hsz, hJ, hP, hK, hD0, hZ⟩ := hv
  have hx := B.exec
  have hb := B.bytes
  have hr := B.returns
  have hts := atoms_spec (ws := wsX5_init) B.pre
  have hown : s.vm.findClass RX5 = some m.cls := findClass_of_methodNamed B.named
  have hlocks := B.notSynchronized
  have hin : meth.name = "<init>" := (name_of_methodNamed B.named B.method).1
  have CF : CallFix p m c cX5_init 1 s ([.ref a0] : List Value).toArray wsX5_init RX5 := ⟨hx, hb, hml, hown, hts⟩
  have C : CX p m c cX5_init 1 s ([.ref a0] : List Value).toArray wsX5_init RX5 D Y := ⟨CF, hK, hZ⟩
  have hO : HO D Y (fR L sz) s.heap S s.heap [] := HO.entry hsz hJ hP hD0
  subst hsz
  have inX5 : ∀ w ∈ wsX50, w ∈ wsX5_init := fun w h => List.mem_cons_of_mem _ (List.mem_append_right _ h)
  have hl := lv_entry ([.ref a0]) (n := 1) (Nat.le_of_ble_eq_true rfl)
  rw [lg_entry_eq]
  generalize (lg_sl ([.ref a0]) ++ List.replicate (1 - (lg_sl ([.ref a0])).length) Slot.unset).toArray = ls at hl ⊢
  have hl : lv_has ls 1 [(0, .ref a0)] := hl
  unfold wp_X5_init at h
  refine lv_aload_n hx hb dX5_init_0 rfl (lv_at hl 0 rfl) ?_
  refine W.objInit hx hb hown (hts _ (List.mem_of_getElem? (i := 1) (by decide +kernel : wsX5_init[1]? = some (Cond.methodLink RX5 3 objectInit)))) (hts _ (List.mem_of_getElem? (i := 2) (by decide +kernel : wsX5_init[2]? = some (Cond.instanceMethod objectInit)))) (hts _ (List.mem_of_getElem? (i := 3) (by decide +kernel : wsX5_init[3]? = some (Cond.code objectInit ⟨#[0xb1]⟩ 1 none)))) rfl (by rw [hml]; exact hl.1) rfl dX5_init_1 (Nat.le_of_ble_eq_true rfl) (Nat.le_of_ble_eq_true rfl) ?_
  refine W.eq (g2 := F0 m 4 ls []) rfl ?_
  refine lv_aload_n hx hb dX5_init_4 rfl (lv_at hl 0 rfl) ?_
  refine lv_bipush (v := (nI 6)) hx hb dX5_init_5 (by decide) ?_
  refine r_newa (k := 2) (ty := .long) (N' := 6) C hO (by intro C h; cases h) rfl rfl (List.mem_of_getElem? (i := 4) (by decide +kernel)) (6, .inr (.inl (fun _ => 0))) (fun _ => rfl) (by decide) (by decide) (Nat.le_of_ble_eq_true rfl) (Nat.le_of_ble_eq_true rfl) (Nat.le_of_ble_eq_true rfl) dX5_init_7 (fun a1 H hqa1 hO => ?_)
  obtain ⟨S2, eS2⟩ : ∃ Sx, Sx = va_up S a1 (aJ 6 (fun _ => 0)) := ⟨_, rfl⟩
  have hO := (show HO D Y (fR L s.heap.size) s.heap (va_up S a1 (aJ 6 (fun _ => 0))) H _ from hO)
  rw [← eS2] at hO
  have h := h a1 hqa1 S2 eS2
  obtain ⟨fs3, e4, e4', h⟩ := h
  refine r_putF C hO 4 0 hin rfl inX5 tyX5_ok nmX5 (Nat.le_of_ble_eq_true rfl) rfl rfl rfl rfl e4 e4' (List.mem_of_getElem? (i := 5) (by decide +kernel)) dX5_init_9 (fun H locs hO => ?_)
  obtain ⟨S5, eS5⟩ : ∃ Sx, Sx = va_up S2 a0 (.inl (4, fs3.set 0 (.ref a1))) := ⟨_, rfl⟩
  rw [← eS5] at hO
  have h := h S5 eS5
  refine lv_aload_n hx hb dX5_init_12 rfl (lv_at hl 0 rfl) ?_
  refine lv_iconst (v := (nI 0)) hx hb dX5_init_13 (by decide) ?_
  obtain ⟨fs6, e7, e7', h⟩ := h
  refine r_put C hO 4 1 rfl inX5 tyX5_ok nmX5 (Nat.le_of_ble_eq_true rfl) rfl rfl rfl e7 e7' (List.mem_of_getElem? (i := 6) (by decide +kernel)) dX5_init_14 (fun H locs hO => ?_)
  obtain ⟨S8, eS8⟩ : ∃ Sx, Sx = va_up S5 a0 (.inl (4, fs6.set 1 (.int (nI 0)))) := ⟨_, rfl⟩
  rw [← eS8] at hO
  have h := h S8 eS8
  refine lv_aload_n hx hb dX5_init_17 rfl (lv_at hl 0 rfl) ?_
  refine lv_sipush (v := (nI 301)) hx hb dX5_init_18 (by decide) ?_
  refine r_newa (k := 2) (ty := .long) (N' := 301) C hO (by intro C h; cases h) rfl rfl (List.mem_of_getElem? (i := 4) (by decide +kernel)) (301, .inr (.inl (fun _ => 0))) (fun _ => rfl) (by decide) (by decide) (Nat.le_of_ble_eq_true rfl) (Nat.le_of_ble_eq_true rfl) (Nat.le_of_ble_eq_true rfl) dX5_init_21 (fun a9 H hqa9 hO => ?_)
  obtain ⟨S10, eS10⟩ : ∃ Sx, Sx = va_up S8 a9 (aJ 301 (fun _ => 0)) := ⟨_, rfl⟩
  have hO := (show HO D Y (fR L s.heap.size) s.heap (va_up S8 a9 (aJ 301 (fun _ => 0))) H _ from hO)
  rw [← eS10] at hO
  have h := h a9 hqa9 S10 eS10
  obtain ⟨fs11, e12, e12', h⟩ := h
  refine r_putF C hO 4 2 hin rfl inX5 tyX5_ok nmX5 (Nat.le_of_ble_eq_true rfl) rfl rfl rfl rfl e12 e12' (List.mem_of_getElem? (i := 7) (by decide +kernel)) dX5_init_23 (fun H locs hO => ?_)
  obtain ⟨S13, eS13⟩ : ∃ Sx, Sx = va_up S10 a0 (.inl (4, fs11.set 2 (.ref a9))) := ⟨_, rfl⟩
  rw [← eS13] at hO
  have h := h S13 eS13
  refine lv_aload_n hx hb dX5_init_26 rfl (lv_at hl 0 rfl) ?_
  refine lv_iconst (v := (nI 0)) hx hb dX5_init_27 (by decide) ?_
  obtain ⟨fs14, e15, e15', h⟩ := h
  refine r_put C hO 4 3 rfl inX5 tyX5_ok nmX5 (Nat.le_of_ble_eq_true rfl) rfl rfl rfl e15 e15' (List.mem_of_getElem? (i := 8) (by decide +kernel)) dX5_init_28 (fun H locs hO => ?_)
  obtain ⟨S16, eS16⟩ : ∃ Sx, Sx = va_up S13 a0 (.inl (4, fs14.set 3 (.int (nI 0)))) := ⟨_, rfl⟩
  rw [← eS16] at hO
  have h := h S16 eS16
  refine lv_aload_n hx hb dX5_init_31 rfl (lv_at hl 0 rfl) ?_
  refine lv_sipush (v := (nI 1024)) hx hb dX5_init_32 (by decide) ?_
  refine r_newa (k := 2) (ty := .long) (N' := 1024) C hO (by intro C h; cases h) rfl rfl (List.mem_of_getElem? (i := 4) (by decide +kernel)) (1024, .inr (.inl (fun _ => 0))) (fun _ => rfl) (by decide) (by decide) (Nat.le_of_ble_eq_true rfl) (Nat.le_of_ble_eq_true rfl) (Nat.le_of_ble_eq_true rfl) dX5_init_35 (fun a17 H hqa17 hO => ?_)
  obtain ⟨S18, eS18⟩ : ∃ Sx, Sx = va_up S16 a17 (aJ 1024 (fun _ => 0)) := ⟨_, rfl⟩
  have hO := (show HO D Y (fR L s.heap.size) s.heap (va_up S16 a17 (aJ 1024 (fun _ => 0))) H _ from hO)
  rw [← eS18] at hO
  have h := h a17 hqa17 S18 eS18
  obtain ⟨fs19, e20, e20', h⟩ := h
  refine r_putF C hO 4 4 hin rfl inX5 tyX5_ok nmX5 (Nat.le_of_ble_eq_true rfl) rfl rfl rfl rfl e20 e20' (List.mem_of_getElem? (i := 9) (by decide +kernel)) dX5_init_37 (fun H locs hO => ?_)
  obtain ⟨S21, eS21⟩ : ∃ Sx, Sx = va_up S18 a0 (.inl (4, fs19.set 4 (.ref a17))) := ⟨_, rfl⟩
  rw [← eS21] at hO
  have h := h S21 eS21
  exact W.vret hx hb hr (fun t ht hW => ⟨⟨S21, rfl, h, hO.q ht⟩, hO.f ht⟩) hO.lc dX5_init_40
theorem hdS_X5_addMaker : yX5_addMaker.cls ≠ "java/lang/invoke/MethodHandle" ∧ yX5_addMaker.cls ≠ "java/lang/invoke/VarHandle" ∧ (parseMethodDescriptor yX5_addMaker.desc).map (fun d => d.parameters.length) = some 1 := by decide +kernel
set_option maxHeartbeats 4000000 in
set_option maxRecDepth 100000 in
theorem c_X5_addMaker (l : Launch) (D : va_G) (Y : Nat → ClassId) (L : List Nat) (S : PS) (sz : Nat) (a0 : Nat) (v1 : Int64) (Post : PS → Prop) (h : wp_X5_addMaker S a0 v1 Post) : Met l yX5_addMaker wsX5_addMaker ({ frames := 1, cells := 0, slots := 0, locals := 21 }) (va_Pc [.ref a0, .long v1] (PrO D Y L S sz)) (va_Qv Post (QtO D Y (fR L sz)) (fR L sz)) 0 0 (fR L sz) := by
  refine Met.ofW (cc := cX5_addMaker) (maxL := 3) (ret := none) (by decide) rfl ?_
  intro p e s m args below meth c s₁ B hml hv
  obtain ⟨rfl, hsz, hJ, hP, hK, hD0, hZ⟩ := hv
  have hx := B.exec
  have hb := B.bytes
  have hr := B.returns
  have hts := atoms_spec (ws := wsX5_addMaker) B.pre
  have hown : s.vm.findClass RX5 = some m.cls := findClass_of_methodNamed B.named
  have hlocks := B.notSynchronized
  have CF : CallFix p m c cX5_addMaker 3 s ([.ref a0, .long v1] : List Value).toArray wsX5_addMaker RX5 := ⟨hx, hb, hml, hown, hts⟩
  have C : CX p m c cX5_addMaker 3 s ([.ref a0, .long v1] : List Value).toArray wsX5_addMaker RX5 D Y := ⟨CF, hK, hZ⟩
  have hO : HO D Y (fR L sz) s.heap S s.heap [] := HO.entry hsz hJ hP hD0
  subst hsz
  have inX5 : ∀ w ∈ wsX50, w ∈ wsX5_addMaker := fun w h => List.mem_cons_of_mem _ (List.mem_append_right _ h)
  have hl := lv_entry ([.ref a0, .long v1]) (n := 3) (Nat.le_of_ble_eq_true rfl)
  rw [lg_entry_eq]
  generalize (lg_sl ([.ref a0, .long v1]) ++ List.replicate (3 - (lg_sl ([.ref a0, .long v1])).length) Slot.unset).toArray = ls at hl ⊢
  have hl : lv_has ls 3 [(0, .ref a0), (1, .long v1)] := hl
  unfold wp_X5_addMaker at h
  refine lv_aload_n hx hb dX5_addMaker_0 rfl (lv_at hl 0 rfl) ?_
  obtain ⟨fs1, i2, e3, e3', h⟩ := h
  refine r_get C hO 4 1 rfl inX5 (Nat.le_of_ble_eq_true rfl) e3 e3' (List.mem_of_getElem? (i := 1) (by decide +kernel)) dX5_addMaker_1 ?_
  refine lv_bipush (v := (nI 6)) hx hb dX5_addMaker_4 (by decide) ?_
  refine cN_si (As := [.int i2, .int (nI 6)]) (rest := []) (n := 2) CF hZ (c_X7_isBelow l i2 (nI 6) _ h) ⟨va_cnB 2 hts gX5_addMaker_X7_isBelow_n28 rfl rfl rfl (hZ.nest 10 rfl) (hts _ (List.mem_of_getElem? (i := 4) (by decide +kernel : wsX5_addMaker[4]? = some (Cond.initialized RX7)))) hdS_X7_isBelow ⟨Nat.le_of_ble_eq_true rfl, Nat.le_of_ble_eq_true rfl⟩, (hts _ (List.mem_of_getElem? (i := 3) (by decide +kernel : wsX5_addMaker[3]? = some (Cond.static yX7_isBelow)))), trivial⟩ rfl hl.1 rfl (Nat.le_of_ble_eq_true rfl) dX5_addMaker_6 ⟨(Nat.le_of_ble_eq_true rfl), (Nat.le_of_ble_eq_true rfl)⟩ (fun i4 h => ?_)
  refine lv_if_ne (tgt := 13) hx hb dX5_addMaker_9 (by decide) (fun c5 => ?_) (fun c5 => ?_)
  · have h := h.2 c5
    refine lv_aload_n hx hb dX5_addMaker_13 rfl (lv_at hl 0 rfl) ?_
    obtain ⟨fs6, a7, e8, e8', h⟩ := h
    refine r_get C hO 4 0 rfl inX5 (Nat.le_of_ble_eq_true rfl) e8 e8' (List.mem_of_getElem? (i := 2) (by decide +kernel)) dX5_addMaker_14 ?_
    refine lv_aload_n hx hb dX5_addMaker_17 rfl (lv_at hl 0 rfl) ?_
    obtain ⟨fs9, i10, e11, e11', h⟩ := h
    refine r_get C hO 4 1 rfl inX5 (Nat.le_of_ble_eq_true rfl) e11 e11' (List.mem_of_getElem? (i := 1) (by decide +kernel)) dX5_addMaker_18 ?_
    refine lv_lload_n hx hb dX5_addMaker_21 rfl (lv_at hl 1 rfl) ?_
    obtain ⟨n12, f13, e14, e14', h⟩ := h
    refine r_last C hO e14 e14' dX5_addMaker_22 (fun H locs hO => ?_)
    obtain ⟨S15, eS15⟩ : ∃ Sx, Sx = va_up S a7 (aJ n12 (vp_updL f13 (i10).toNatClampNeg v1)) := ⟨_, rfl⟩
    rw [← eS15] at hO
    have h := h S15 eS15
    refine lv_aload_n hx hb dX5_addMaker_23 rfl (lv_at hl 0 rfl) ?_
    refine lv_dup hx hb dX5_addMaker_24 rfl ?_
    obtain ⟨fs16, i17, e18, e18', h⟩ := h
    refine r_get C hO 4 1 rfl inX5 (Nat.le_of_ble_eq_true rfl) e18 e18' (List.mem_of_getElem? (i := 1) (by decide +kernel)) dX5_addMaker_25 ?_
    refine lv_iconst (v := (nI 1)) hx hb dX5_addMaker_28 (by decide) ?_
    refine lv_iadd hx hb dX5_addMaker_29 ?_
    obtain ⟨fs19, e20, e20', h⟩ := h
    refine r_put C hO 4 1 rfl inX5 tyX5_ok nmX5 (Nat.le_of_ble_eq_true rfl) rfl rfl rfl e20 e20' (List.mem_of_getElem? (i := 1) (by decide +kernel)) dX5_addMaker_30 (fun H locs hO => ?_)
    obtain ⟨S21, eS21⟩ : ∃ Sx, Sx = va_up S15 a0 (.inl (4, fs19.set 1 (.int (i17 + (nI 1))))) := ⟨_, rfl⟩
    rw [← eS21] at hO
    have h := h S21 eS21
    exact W.vret hx hb hr (fun t ht hW => ⟨⟨S21, rfl, h, hO.q ht⟩, hO.f ht⟩) hO.lc dX5_addMaker_33
  · have h := h.1 c5
    exact W.vret hx hb hr (fun t ht hW => ⟨⟨S, rfl, h, hO.q ht⟩, hO.f ht⟩) hO.lc dX5_addMaker_12
theorem hdS_X5_broughtTo : yX5_broughtTo.cls ≠ "java/lang/invoke/MethodHandle" ∧ yX5_broughtTo.cls ≠ "java/lang/invoke/VarHandle" ∧ (parseMethodDescriptor yX5_broughtTo.desc).map (fun d => d.parameters.length) = some 2 := by decide +kernel
set_option maxHeartbeats 4000000 in
set_option maxRecDepth 100000 in
theorem c_X5_broughtTo (l : Launch) (v0 : Int64) (v2 : Int32) (Post : Int32 → Prop) (h : wp_X5_broughtTo v0 v2 Post) : Met l yX5_broughtTo wsX5_broughtTo ({ frames := 1, cells := 0, slots := 0, locals := 22 }) (va_Pc [.long v0, .int v2] NZ) (vp_Si Post) 0 0 (fun _ => False) := by
  refine Met.ofW (cc := cX5_broughtTo) (maxL := 5) (ret := (some .int)) (by decide) rfl ?_
  intro p e s m args below meth c s₁ B hml hv
  obtain ⟨rfl, hZ⟩ := hv
  have hx := B.exec
  have hb := B.bytes
  have hr := B.returns
  have hts := atoms_spec (ws := wsX5_broughtTo) B.pre
  have hown : s.vm.findClass RX5 = some m.cls := findClass_of_methodNamed B.named
  have hlocks := B.notSynchronized
  have CF : CallFix p m c cX5_broughtTo 5 s ([.long v0, .int v2] : List Value).toArray wsX5_broughtTo RX5 := ⟨hx, hb, hml, hown, hts⟩
  have hl := lv_entry ([.long v0, .int v2]) (n := 5) (Nat.le_of_ble_eq_true rfl)
  rw [lg_entry_eq]
  generalize (lg_sl ([.long v0, .int v2]) ++ List.replicate (5 - (lg_sl ([.long v0, .int v2])).length) Slot.unset).toArray = ls at hl ⊢
  have hl : lv_has ls 5 [(0, .long v0), (2, .int v2)] := hl
  unfold wp_X5_broughtTo at h
  refine lv_iconst (v := (nI 0)) hx hb dX5_broughtTo_0 (by decide) ?_
  refine lv_istore_n (lv' := [(3, .int (nI 0)), (0, .long v0), (2, .int v2)]) hx hb dX5_broughtTo_1 rfl hl (by decide) rfl (fun ls hl => ?_)
  refine lv_iconst (v := (nI 0)) hx hb dX5_broughtTo_2 (by decide) ?_
  refine lv_istore (lv' := [(4, .int (nI 0)), (3, .int (nI 0)), (0, .long v0), (2, .int v2)]) hx hb dX5_broughtTo_3 hl (by decide) rfl (fun ls hl => ?_)
  obtain ⟨n10, h⟩ := h
  refine lp_P (nL := 5) (fun q => [(4, .int q.1), (3, .int q.2), (0, .long v0), (2, .int v2)]) h (lv_sub hl [0, 1, 2, 3] rfl) (fun K5 ih5 q ls h hl => ?_)
  obtain ⟨i1, i2⟩ := q
  have h : wpb_X5_broughtTo_5 v0 v2 Post K5 i1 i2 := h
  have hl : lv_has ls 5 [(4, .int i1), (3, .int i2), (0, .long v0), (2, .int v2)] := hl
  unfold wpb_X5_broughtTo_5 at h
  refine lv_iload hx hb dX5_broughtTo_5 (lv_at hl 0 rfl) ?_
  refine lv_bipush (v := (nI 12)) hx hb dX5_broughtTo_7 (by decide) ?_
  refine lv_icmp_ge (tgt := 38) hx hb dX5_broughtTo_9 (by decide) (fun c3 => ?_) (fun c3 => ?_)
  · have h := h.1 c3
    refine lv_iload_n hx hb dX5_broughtTo_38 rfl (lv_at hl 1 rfl) ?_
    exact W.iret hx hb hr (fun t ht hW => ⟨i2, rfl, h, ht⟩) no_locs dX5_broughtTo_39
  · have h := h.2 c3
    refine lv_iload_n hx hb dX5_broughtTo_12 rfl (lv_at hl 3 rfl) ?_
    refine lv_iload hx hb dX5_broughtTo_13 (lv_at hl 0 rfl) ?_
    refine cN_si (As := [.int v2, .int i1]) (rest := []) (n := 2) CF hZ (c_X7_hasBit l v2 i1 _ h) ⟨va_cnB 2 hts gX5_broughtTo_X7_hasBit_n50 rfl rfl rfl (hZ.nest 11 rfl) (hts _ (List.mem_of_getElem? (i := 2) (by decide +kernel : wsX5_broughtTo[2]? = some (Cond.initialized RX7)))) hdS_X7_hasBit ⟨Nat.le_of_ble_eq_true rfl, Nat.le_of_ble_eq_true rfl⟩, (hts _ (List.mem_of_getElem? (i := 1) (by decide +kernel : wsX5_broughtTo[1]? = some (Cond.static yX7_hasBit)))), trivial⟩ rfl hl.1 rfl (Nat.le_of_ble_eq_true rfl) dX5_broughtTo_15 ⟨(Nat.le_of_ble_eq_true rfl), (Nat.le_of_ble_eq_true rfl)⟩ (fun i4 h => ?_)
    refine lv_if_eq (tgt := 32) hx hb dX5_broughtTo_18 (by decide) (fun c5 => ?_) (fun c5 => ?_)
    · have h := h.1 c5
      obtain ⟨i6, ei6⟩ : ∃ y : Int32, y = i1 + (nI 1) := ⟨_, rfl⟩
      have h := h i6 ei6
      refine lv_iinc (v := i6) (lv' := [(4, .int i6), (3, .int i2), (0, .long v0), (2, .int v2)]) hx hb dX5_broughtTo_32 hl (k := 0) rfl (by rw [ei6]; rfl) (by decide) rfl (fun ls hl => ?_)
      refine lv_goto (tgt := 5) hx hb dX5_broughtTo_35 (by decide) ?_
      exact ih5 (i6, i2) _ h (lv_sub hl [0, 1, 2, 3] rfl)
    · have h := h.2 c5
      refine lv_iload_n hx hb dX5_broughtTo_21 rfl (lv_at hl 1 rfl) ?_
      refine lv_iconst (v := (nI 1)) hx hb dX5_broughtTo_22 (by decide) ?_
      refine lv_lload_n hx hb dX5_broughtTo_23 rfl (lv_at hl 2 rfl) ?_
      refine lv_iload hx hb dX5_broughtTo_24 (lv_at hl 0 rfl) ?_
      refine cS_si (As := [.long v0, .int i1]) (rest := [.int (nI 1), .int i2]) (n := 2) CF hZ (c_X4_at l v0 i1 _ h) (va_cwS 2 hts gX5_broughtTo_X4_at rfl rfl rfl hdS_X4_at ⟨Nat.le_of_ble_eq_true rfl, Nat.le_of_ble_eq_true rfl⟩) rfl hl.1 rfl (Nat.le_of_ble_eq_true rfl) dX5_broughtTo_26 ⟨(Nat.le_of_ble_eq_true rfl), (Nat.le_of_ble_eq_true rfl)⟩ (fun i7 h => ?_)
      refine lv_ishl hx hb dX5_broughtTo_29 ?_
      refine lv_ior hx hb dX5_broughtTo_30 ?_
      refine lv_topi (fun i8 ei8 => ?_)
      have h := h i8 ei8
      refine lv_istore_n (lv' := [(3, .int i8), (4, .int i1), (0, .long v0), (2, .int v2)]) hx hb dX5_broughtTo_31 rfl hl (by decide) rfl (fun ls hl => ?_)
      obtain ⟨i9, ei9⟩ : ∃ y : Int32, y = i1 + (nI 1) := ⟨_, rfl⟩
      have h := h i9 ei9
      refine lv_iinc (v := i9) (lv' := [(4, .int i9), (3, .int i8), (0, .long v0), (2, .int v2)]) hx hb dX5_broughtTo_32 hl (k := 1) rfl (by rw [ei9]; rfl) (by decide) rfl (fun ls hl => ?_)
      refine lv_goto (tgt := 5) hx hb dX5_broughtTo_35 (by decide) ?_
      exact ih5 (i9, i8) _ h (lv_sub hl [0, 1, 2, 3] rfl)
theorem hdS_X5_placesFrom : yX5_placesFrom.cls ≠ "java/lang/invoke/MethodHandle" ∧ yX5_placesFrom.cls ≠ "java/lang/invoke/VarHandle" ∧ (parseMethodDescriptor yX5_placesFrom.desc).map (fun d => d.parameters.length) = some 1 := by decide +kernel
set_option maxHeartbeats 4000000 in
set_option maxRecDepth 100000 in
theorem c_X5_placesFrom (l : Launch) (D : va_G) (Y : Nat → ClassId) (L : List Nat) (S : PS) (sz : Nat) (a0 : Nat) (v1 : Int32) (Post : Int32 → Prop) (h : wp_X5_placesFrom S a0 v1 Post) : Met l yX5_placesFrom wsX5_placesFrom ({ frames := 2, cells := 0, slots := 0, locals := 46 }) (va_Pc [.ref a0, .int v1] (PrO D Y L S sz)) (vp_Si Post) 0 0 (fun _ => False) := by
  refine Met.ofW (cc := cX5_placesFrom) (maxL := 5) (ret := (some .int)) (by decide) rfl ?_
  intro p e s m args below meth c s₁ B hml hv
  obtain ⟨rfl, hsz, hJ, hP, hK, hD0, hZ⟩ := hv
  have hx := B.exec
  have hb := B.bytes
  have hr := B.returns
  have hts := atoms_spec (ws := wsX5_placesFrom) B.pre
  have hown : s.vm.findClass RX5 = some m.cls := findClass_of_methodNamed B.named
  have hlocks := B.notSynchronized
  have CF : CallFix p m c cX5_placesFrom 5 s ([.ref a0, .int v1] : List Value).toArray wsX5_placesFrom RX5 := ⟨hx, hb, hml, hown, hts⟩
  have C : CX p m c cX5_placesFrom 5 s ([.ref a0, .int v1] : List Value).toArray wsX5_placesFrom RX5 D Y := ⟨CF, hK, hZ⟩
  have hO : HO D Y (fR L sz) s.heap S s.heap [] := HO.entry hsz hJ hP hD0
  subst hsz
  have inX5 : ∀ w ∈ wsX50, w ∈ wsX5_placesFrom := fun w h => List.mem_cons_of_mem _ (List.mem_append_right _ h)
  have hl := lv_entry ([.ref a0, .int v1]) (n := 5) (Nat.le_of_ble_eq_true rfl)
  rw [lg_entry_eq]
  generalize (lg_sl ([.ref a0, .int v1]) ++ List.replicate (5 - (lg_sl ([.ref a0, .int v1])).length) Slot.unset).toArray = ls at hl ⊢
  have hl : lv_has ls 5 [(0, .ref a0), (1, .int v1)] := hl
  unfold wp_X5_placesFrom at h
  refine lv_iconst (v := (nI 1)) hx hb dX5_placesFrom_0 (by decide) ?_
  refine lv_iload_n hx hb dX5_placesFrom_1 rfl (lv_at hl 1 rfl) ?_
  refine lv_ishl hx hb dX5_placesFrom_2 ?_
  refine lv_topi (fun i1 ei1 => ?_)
  have h := h i1 ei1
  refine lv_istore_n (lv' := [(2, .int i1), (0, .ref a0), (1, .int v1)]) hx hb dX5_placesFrom_3 rfl hl (by decide) rfl (fun ls hl => ?_)
  refine lv_iconst (v := (nI 0)) hx hb dX5_placesFrom_4 (by decide) ?_
  refine lv_istore_n (lv' := [(3, .int (nI 0)), (2, .int i1), (0, .ref a0), (1, .int v1)]) hx hb dX5_placesFrom_5 rfl hl (by decide) rfl (fun ls hl => ?_)
  obtain ⟨n25, h⟩ := h
  refine lp_P (nL := 5) (fun q => [(3, .int q.1), (2, .int q.2), (0, .ref a0)]) h (lv_sub hl [0, 1, 2] rfl) (fun K6 ih6 q ls h hl => ?_)
  obtain ⟨i2, i3⟩ := q
  have h : wpb_X5_placesFrom_6 S a0 Post K6 i2 i3 := h
  have hl : lv_has ls 5 [(3, .int i2), (2, .int i3), (0, .ref a0)] := hl
  unfold wpb_X5_placesFrom_6 at h
  refine lv_iload_n hx hb dX5_placesFrom_6 rfl (lv_at hl 0 rfl) ?_
  refine lv_bipush (v := (nI 12)) hx hb dX5_placesFrom_7 (by decide) ?_
  refine lv_icmp_ge (tgt := 57) hx hb dX5_placesFrom_9 (by decide) (fun c4 => ?_) (fun c4 => ?_)
  · have h := h.1 c4
    refine lv_iload_n hx hb dX5_placesFrom_57 rfl (lv_at hl 1 rfl) ?_
    exact W.iret hx hb hr (fun t ht hW => ⟨i3, rfl, h, ht⟩) no_locs dX5_placesFrom_58
  · have h := h.2 c4
    refine lv_iconst (v := (nI 0)) hx hb dX5_placesFrom_12 (by decide) ?_
    refine lv_istore (lv' := [(4, .int (nI 0)), (3, .int i2), (2, .int i3), (0, .ref a0)]) hx hb dX5_placesFrom_13 hl (by decide) rfl (fun ls hl => ?_)
    obtain ⟨n24, h⟩ := h
    refine lp_P (nL := 5) (fun q => [(4, .int q.1), (3, .int i2), (2, .int q.2), (0, .ref a0)]) h (lv_sub hl [0, 1, 2, 3] rfl) (fun K15 ih15 q ls h hl => ?_)
    obtain ⟨i5, i6⟩ := q
    have h : wpb_X5_placesFrom_15 S a0 i2 K6 K15 i5 i6 := h
    have hl : lv_has ls 5 [(4, .int i5), (3, .int i2), (2, .int i6), (0, .ref a0)] := hl
    unfold wpb_X5_placesFrom_15 at h
    refine lv_iload hx hb dX5_placesFrom_15 (lv_at hl 0 rfl) ?_
    refine lv_aload_n hx hb dX5_placesFrom_17 rfl (lv_at hl 3 rfl) ?_
    obtain ⟨fs7, i8, e9, e9', h⟩ := h
    refine r_get C hO 4 1 rfl inX5 (Nat.le_of_ble_eq_true rfl) e9 e9' (List.mem_of_getElem? (i := 1) (by decide +kernel)) dX5_placesFrom_18 ?_
    refine lv_icmp_ge (tgt := 51) hx hb dX5_placesFrom_21 (by decide) (fun c10 => ?_) (fun c10 => ?_)
    · have h := h.1 c10
      obtain ⟨i11, ei11⟩ : ∃ y : Int32, y = i2 + (nI 1) := ⟨_, rfl⟩
      have h := h i11 ei11
      refine lv_iinc (v := i11) (lv' := [(3, .int i11), (4, .int i5), (2, .int i6), (0, .ref a0)]) hx hb dX5_placesFrom_51 hl (k := 1) rfl (by rw [ei11]; rfl) (by decide) rfl (fun ls hl => ?_)
      refine lv_goto (tgt := 6) hx hb dX5_placesFrom_54 (by decide) ?_
      exact ih6 (i11, i6) _ h (lv_sub hl [0, 2, 3] rfl)
    · have h := h.2 c10
      refine lv_iload hx hb dX5_placesFrom_24 (lv_at hl 0 rfl) ?_
      refine lv_bipush (v := (nI 6)) hx hb dX5_placesFrom_26 (by decide) ?_
      refine lv_icmp_ge (tgt := 51) hx hb dX5_placesFrom_28 (by decide) (fun c12 => ?_) (fun c12 => ?_)
      · have h := h.1 c12
        obtain ⟨i13, ei13⟩ : ∃ y : Int32, y = i2 + (nI 1) := ⟨_, rfl⟩
        have h := h i13 ei13
        refine lv_iinc (v := i13) (lv' := [(3, .int i13), (4, .int i5), (2, .int i6), (0, .ref a0)]) hx hb dX5_placesFrom_51 hl (k := 1) rfl (by rw [ei13]; rfl) (by decide) rfl (fun ls hl => ?_)
        refine lv_goto (tgt := 6) hx hb dX5_placesFrom_54 (by decide) ?_
        exact ih6 (i13, i6) _ h (lv_sub hl [0, 2, 3] rfl)
      · have h := h.2 c12
        refine lv_iload_n hx hb dX5_placesFrom_31 rfl (lv_at hl 2 rfl) ?_
        refine lv_aload_n hx hb dX5_placesFrom_32 rfl (lv_at hl 3 rfl) ?_
        obtain ⟨fs14, a15, e16, e16', h⟩ := h
        refine r_get C hO 4 0 rfl inX5 (Nat.le_of_ble_eq_true rfl) e16 e16' (List.mem_of_getElem? (i := 2) (by decide +kernel)) dX5_placesFrom_33 ?_
        refine lv_iload hx hb dX5_placesFrom_36 (lv_at hl 0 rfl) ?_
        obtain ⟨n17, f18, j20, e19, e19', exj20, h⟩ := h
        refine r_lald C hO e19 e19' dX5_placesFrom_38 ?_
        rw [exj20]
        refine lv_iload_n hx hb dX5_placesFrom_39 rfl (lv_at hl 2 rfl) ?_
        refine cS_si (As := [.long j20, .int i6]) (rest := [.int i6]) (n := 2) CF hZ (c_X5_broughtTo l j20 i6 _ h) (va_cwS 2 hts gX5_placesFrom_X5_broughtTo rfl rfl rfl hdS_X5_broughtTo ⟨Nat.le_of_ble_eq_true rfl, Nat.le_of_ble_eq_true rfl⟩) rfl hl.1 rfl (Nat.le_of_ble_eq_true rfl) dX5_placesFrom_40 ⟨(Nat.le_of_ble_eq_true rfl), (Nat.le_of_ble_eq_true rfl)⟩ (fun i21 h => ?_)
        refine lv_ior hx hb dX5_placesFrom_43 ?_
        refine lv_topi (fun i22 ei22 => ?_)
        have h := h i22 ei22
        refine lv_istore_n (lv' := [(2, .int i22), (4, .int i5), (3, .int i2), (0, .ref a0)]) hx hb dX5_placesFrom_44 rfl hl (by decide) rfl (fun ls hl => ?_)
        obtain ⟨i23, ei23⟩ : ∃ y : Int32, y = i5 + (nI 1) := ⟨_, rfl⟩
        have h := h i23 ei23
        refine lv_iinc (v := i23) (lv' := [(4, .int i23), (2, .int i22), (3, .int i2), (0, .ref a0)]) hx hb dX5_placesFrom_45 hl (k := 1) rfl (by rw [ei23]; rfl) (by decide) rfl (fun ls hl => ?_)
        refine lv_goto (tgt := 15) hx hb dX5_placesFrom_48 (by decide) ?_
        exact ih15 (i23, i22) _ h (lv_sub hl [0, 2, 1, 3] rfl)
theorem hdS_X6_power : yX6_power.cls ≠ "java/lang/invoke/MethodHandle" ∧ yX6_power.cls ≠ "java/lang/invoke/VarHandle" ∧ (parseMethodDescriptor yX6_power.desc).map (fun d => d.parameters.length) = some 2 := by decide +kernel
set_option maxHeartbeats 4000000 in
set_option maxRecDepth 100000 in
theorem c_X6_power (l : Launch) (v0 : Int64) (v2 : Int32) (Post : Int64 → Prop) (h : wp_X6_power v0 v2 Post) : Met l yX6_power wsX6_power ({ frames := 2, cells := 0, slots := 0, locals := 48 }) (va_Pc [.long v0, .int v2] NZ) (vp_Sl Post) 0 0 (fun _ => False) := by
  refine Met.ofW (cc := cX6_power) (maxL := 8) (ret := (some .long)) (by decide) rfl ?_
  intro p e s m args below meth c s₁ B hml hv
  obtain ⟨rfl, hZ⟩ := hv
  have hx := B.exec
  have hb := B.bytes
  have hr := B.returns
  have hts := atoms_spec (ws := wsX6_power) B.pre
  have hown : s.vm.findClass RX6 = some m.cls := findClass_of_methodNamed B.named
  have hlocks := B.notSynchronized
  have CF : CallFix p m c cX6_power 8 s ([.long v0, .int v2] : List Value).toArray wsX6_power RX6 := ⟨hx, hb, hml, hown, hts⟩
  have hl := lv_entry ([.long v0, .int v2]) (n := 8) (Nat.le_of_ble_eq_true rfl)
  rw [lg_entry_eq]
  generalize (lg_sl ([.long v0, .int v2]) ++ List.replicate (8 - (lg_sl ([.long v0, .int v2])).length) Slot.unset).toArray = ls at hl ⊢
  have hl : lv_has ls 8 [(0, .long v0), (2, .int v2)] := hl
  unfold wp_X6_power at h
  refine lv_ldc2 hx hb hown (hts _ (List.mem_of_getElem? (i := 1) (by decide +kernel : wsX6_power[1]? = some (Cond.constantLong RX6 15 (205163983024656))))) dX6_power_0 ?_
  refine lv_lstore_n (lv' := [(3, .long (205163983024656 : Int64)), (0, .long v0), (2, .int v2)]) hx hb dX6_power_3 rfl hl (by decide) rfl (fun ls hl => ?_)
  refine lv_lload_n hx hb dX6_power_4 rfl (lv_at hl 1 rfl) ?_
  refine lv_lstore (lv' := [(5, .long v0), (3, .long (205163983024656 : Int64)), (0, .long v0), (2, .int v2)]) hx hb dX6_power_5 hl (by decide) rfl (fun ls hl => ?_)
  refine lv_iload_n hx hb dX6_power_7 rfl (lv_at hl 3 rfl) ?_
  refine lv_istore (lv' := [(7, .int v2), (5, .long v0), (3, .long (205163983024656 : Int64)), (0, .long v0), (2, .int v2)]) hx hb dX6_power_8 hl (by decide) rfl (fun ls hl => ?_)
  obtain ⟨n11, h⟩ := h
  refine lp_P (nL := 8) (fun q => [(7, .int q.1), (5, .long q.2.1), (3, .long q.2.2)]) h (lv_sub hl [0, 1, 2] rfl) (fun K10 ih10 q ls h hl => ?_)
  obtain ⟨i1, j2, j3⟩ := q
  have h : wpb_X6_power_10 Post K10 i1 j2 j3 := h
  have hl : lv_has ls 8 [(7, .int i1), (5, .long j2), (3, .long j3)] := hl
  unfold wpb_X6_power_10 at h
  refine lv_iload hx hb dX6_power_10 (lv_at hl 0 rfl) ?_
  refine lv_if_le (tgt := 48) hx hb dX6_power_12 (by decide) (fun c4 => ?_) (fun c4 => ?_)
  · have h := h.1 c4
    refine lv_lload_n hx hb dX6_power_48 rfl (lv_at hl 2 rfl) ?_
    exact W.lret hx hb hr (fun t ht hW => ⟨j3, rfl, h, ht⟩) no_locs dX6_power_49
  · have h := h.2 c4
    refine lv_iload hx hb dX6_power_15 (lv_at hl 0 rfl) ?_
    refine lv_iconst (v := (nI 1)) hx hb dX6_power_17 (by decide) ?_
    refine lv_iand hx hb dX6_power_18 ?_
    refine lv_iconst (v := (nI 1)) hx hb dX6_power_19 (by decide) ?_
    refine lv_icmp_ne (tgt := 30) hx hb dX6_power_20 (by decide) (fun c5 => ?_) (fun c5 => ?_)
    · have h := h.2 c5
      refine lv_lload hx hb dX6_power_30 (lv_at hl 1 rfl) ?_
      refine lv_lload hx hb dX6_power_32 (lv_at hl 1 rfl) ?_
      refine cS_sl (As := [.long j2, .long j2]) (rest := []) (n := 2) CF hZ (c_X6_then l j2 j2 _ h) (va_cwS 2 hts gX6_power_X6_then rfl rfl rfl hdS_X6_then ⟨Nat.le_of_ble_eq_true rfl, Nat.le_of_ble_eq_true rfl⟩) rfl hl.1 rfl (Nat.le_of_ble_eq_true rfl) dX6_power_34 ⟨(Nat.le_of_ble_eq_true rfl), (Nat.le_of_ble_eq_true rfl)⟩ (fun j6 h => ?_)
      refine lv_lstore (lv' := [(5, .long j6), (7, .int i1), (3, .long j3)]) hx hb dX6_power_37 hl (by decide) rfl (fun ls hl => ?_)
      refine lv_iload hx hb dX6_power_39 (lv_at hl 1 rfl) ?_
      refine lv_iconst (v := (nI 1)) hx hb dX6_power_41 (by decide) ?_
      refine lv_ishr hx hb dX6_power_42 ?_
      refine lv_topi (fun i7 ei7 => ?_)
      have h := h i7 ei7
      refine lv_istore (lv' := [(7, .int i7), (5, .long j6), (3, .long j3)]) hx hb dX6_power_43 hl (by decide) rfl (fun ls hl => ?_)
      refine lv_goto (tgt := 10) hx hb dX6_power_45 (by decide) ?_
      exact ih10 (i7, j6, j3) _ h (lv_sub hl [0, 1, 2] rfl)
    · have h := h.1 c5
      refine lv_lload_n hx hb dX6_power_23 rfl (lv_at hl 2 rfl) ?_
      refine lv_lload hx hb dX6_power_24 (lv_at hl 1 rfl) ?_
      refine cS_sl (As := [.long j3, .long j2]) (rest := []) (n := 2) CF hZ (c_X6_then l j3 j2 _ h) (va_cwS 2 hts gX6_power_X6_then rfl rfl rfl hdS_X6_then ⟨Nat.le_of_ble_eq_true rfl, Nat.le_of_ble_eq_true rfl⟩) rfl hl.1 rfl (Nat.le_of_ble_eq_true rfl) dX6_power_26 ⟨(Nat.le_of_ble_eq_true rfl), (Nat.le_of_ble_eq_true rfl)⟩ (fun j8 h => ?_)
      refine lv_lstore_n (lv' := [(3, .long j8), (7, .int i1), (5, .long j2)]) hx hb dX6_power_29 rfl hl (by decide) rfl (fun ls hl => ?_)
      refine lv_lload hx hb dX6_power_30 (lv_at hl 2 rfl) ?_
      refine lv_lload hx hb dX6_power_32 (lv_at hl 2 rfl) ?_
      refine cS_sl (As := [.long j2, .long j2]) (rest := []) (n := 2) CF hZ (c_X6_then l j2 j2 _ h) (va_cwS 2 hts gX6_power_X6_then rfl rfl rfl hdS_X6_then ⟨Nat.le_of_ble_eq_true rfl, Nat.le_of_ble_eq_true rfl⟩) rfl hl.1 rfl (Nat.le_of_ble_eq_true rfl) dX6_power_34 ⟨(Nat.le_of_ble_eq_true rfl), (Nat.le_of_ble_eq_true rfl)⟩ (fun j9 h => ?_)
      refine lv_lstore (lv' := [(5, .long j9), (3, .long j8), (7, .int i1)]) hx hb dX6_power_37 hl (by decide) rfl (fun ls hl => ?_)
      refine lv_iload hx hb dX6_power_39 (lv_at hl 2 rfl) ?_
      refine lv_iconst (v := (nI 1)) hx hb dX6_power_41 (by decide) ?_
      refine lv_ishr hx hb dX6_power_42 ?_
      refine lv_topi (fun i10 ei10 => ?_)
      have h := h i10 ei10
      refine lv_istore (lv' := [(7, .int i10), (5, .long j9), (3, .long j8)]) hx hb dX6_power_43 hl (by decide) rfl (fun ls hl => ?_)
      refine lv_goto (tgt := 10) hx hb dX6_power_45 (by decide) ?_
      exact ih10 (i10, j9, j8) _ h (lv_sub hl [0, 1, 2] rfl)
theorem hdS_X6_alikePlaces : yX6_alikePlaces.cls ≠ "java/lang/invoke/MethodHandle" ∧ yX6_alikePlaces.cls ≠ "java/lang/invoke/VarHandle" ∧ (parseMethodDescriptor yX6_alikePlaces.desc).map (fun d => d.parameters.length) = some 2 := by decide +kernel
set_option maxHeartbeats 4000000 in
set_option maxRecDepth 100000 in
theorem c_X6_alikePlaces (l : Launch) (v0 : Int64) (v2 : Int64) (Post : Int32 → Prop) (h : wp_X6_alikePlaces v0 v2 Post) : Met l yX6_alikePlaces wsX6_alikePlaces ({ frames := 1, cells := 0, slots := 0, locals := 22 }) (va_Pc [.long v0, .long v2] NZ) (vp_Si Post) 0 0 (fun _ => False) := by
  refine Met.ofW (cc := cX6_alikePlaces) (maxL := 6) (ret := (some .int)) (by decide) rfl ?_
  intro p e s m args below meth c s₁ B hml hv
  obtain ⟨rfl, hZ⟩ := hv
  have hx := B.exec
  have hb := B.bytes
  have hr := B.returns
  have hts := atoms_spec (ws := wsX6_alikePlaces) B.pre
  have hown : s.vm.findClass RX6 = some m.cls := findClass_of_methodNamed B.named
  have hlocks := B.notSynchronized
  have CF : CallFix p m c cX6_alikePlaces 6 s ([.long v0, .long v2] : List Value).toArray wsX6_alikePlaces RX6 := ⟨hx, hb, hml, hown, hts⟩
  have hl := lv_entry ([.long v0, .long v2]) (n := 6) (Nat.le_of_ble_eq_true rfl)
  rw [lg_entry_eq]
  generalize (lg_sl ([.long v0, .long v2]) ++ List.replicate (6 - (lg_sl ([.long v0, .long v2])).length) Slot.unset).toArray = ls at hl ⊢
  have hl : lv_has ls 6 [(0, .long v0), (2, .long v2)] := hl
  unfold wp_X6_alikePlaces at h
  refine lv_iconst (v := (nI 0)) hx hb dX6_alikePlaces_0 (by decide) ?_
  refine lv_istore (lv' := [(4, .int (nI 0)), (0, .long v0), (2, .long v2)]) hx hb dX6_alikePlaces_1 hl (by decide) rfl (fun ls hl => ?_)
  refine lv_iconst (v := (nI 0)) hx hb dX6_alikePlaces_3 (by decide) ?_
  refine lv_istore (lv' := [(5, .int (nI 0)), (4, .int (nI 0)), (0, .long v0), (2, .long v2)]) hx hb dX6_alikePlaces_4 hl (by decide) rfl (fun ls hl => ?_)
  obtain ⟨n10, h⟩ := h
  refine lp_P (nL := 6) (fun q => [(5, .int q.1), (4, .int q.2), (0, .long v0), (2, .long v2)]) h (lv_sub hl [0, 1, 2, 3] rfl) (fun K6 ih6 q ls h hl => ?_)
  obtain ⟨i1, i2⟩ := q
  have h : wpb_X6_alikePlaces_6 v0 v2 Post K6 i1 i2 := h
  have hl : lv_has ls 6 [(5, .int i1), (4, .int i2), (0, .long v0), (2, .long v2)] := hl
  unfold wpb_X6_alikePlaces_6 at h
  refine lv_iload hx hb dX6_alikePlaces_6 (lv_at hl 0 rfl) ?_
  refine lv_bipush (v := (nI 12)) hx hb dX6_alikePlaces_8 (by decide) ?_
  refine lv_icmp_ge (tgt := 43) hx hb dX6_alikePlaces_10 (by decide) (fun c3 => ?_) (fun c3 => ?_)
  · have h := h.1 c3
    refine lv_iload hx hb dX6_alikePlaces_43 (lv_at hl 1 rfl) ?_
    exact W.iret hx hb hr (fun t ht hW => ⟨i2, rfl, h, ht⟩) no_locs dX6_alikePlaces_45
  · have h := h.2 c3
    refine lv_lload_n hx hb dX6_alikePlaces_13 rfl (lv_at hl 2 rfl) ?_
    refine lv_iload hx hb dX6_alikePlaces_14 (lv_at hl 0 rfl) ?_
    refine cS_si (As := [.long v0, .int i1]) (rest := []) (n := 2) CF hZ (c_X4_at l v0 i1 _ h) (va_cwS 2 hts gX6_alikePlaces_X4_at rfl rfl rfl hdS_X4_at ⟨Nat.le_of_ble_eq_true rfl, Nat.le_of_ble_eq_true rfl⟩) rfl hl.1 rfl (Nat.le_of_ble_eq_true rfl) dX6_alikePlaces_16 ⟨(Nat.le_of_ble_eq_true rfl), (Nat.le_of_ble_eq_true rfl)⟩ (fun i4 h => ?_)
    refine lv_lload_n hx hb dX6_alikePlaces_19 rfl (lv_at hl 3 rfl) ?_
    refine lv_iload hx hb dX6_alikePlaces_20 (lv_at hl 0 rfl) ?_
    refine cS_si (As := [.long v2, .int i1]) (rest := [.int i4]) (n := 2) CF hZ (c_X4_at l v2 i1 _ h) (va_cwS 2 hts gX6_alikePlaces_X4_at rfl rfl rfl hdS_X4_at ⟨Nat.le_of_ble_eq_true rfl, Nat.le_of_ble_eq_true rfl⟩) rfl hl.1 rfl (Nat.le_of_ble_eq_true rfl) dX6_alikePlaces_22 ⟨(Nat.le_of_ble_eq_true rfl), (Nat.le_of_ble_eq_true rfl)⟩ (fun i5 h => ?_)
    refine lv_icmp_ne (tgt := 37) hx hb dX6_alikePlaces_25 (by decide) (fun c6 => ?_) (fun c6 => ?_)
    · have h := h.2 c6
      obtain ⟨i7, ei7⟩ : ∃ y : Int32, y = i1 + (nI 1) := ⟨_, rfl⟩
      have h := h i7 ei7
      refine lv_iinc (v := i7) (lv' := [(5, .int i7), (4, .int i2), (0, .long v0), (2, .long v2)]) hx hb dX6_alikePlaces_37 hl (k := 0) rfl (by rw [ei7]; rfl) (by decide) rfl (fun ls hl => ?_)
      refine lv_goto (tgt := 6) hx hb dX6_alikePlaces_40 (by decide) ?_
      exact ih6 (i7, i2) _ h (lv_sub hl [0, 1, 2, 3] rfl)
    · have h := h.1 c6
      refine lv_iload hx hb dX6_alikePlaces_28 (lv_at hl 1 rfl) ?_
      refine lv_iconst (v := (nI 1)) hx hb dX6_alikePlaces_30 (by decide) ?_
      refine lv_iload hx hb dX6_alikePlaces_31 (lv_at hl 0 rfl) ?_
      refine lv_ishl hx hb dX6_alikePlaces_33 ?_
      refine lv_ior hx hb dX6_alikePlaces_34 ?_
      refine lv_topi (fun i8 ei8 => ?_)
      have h := h i8 ei8
      refine lv_istore (lv' := [(4, .int i8), (5, .int i1), (0, .long v0), (2, .long v2)]) hx hb dX6_alikePlaces_35 hl (by decide) rfl (fun ls hl => ?_)
      obtain ⟨i9, ei9⟩ : ∃ y : Int32, y = i1 + (nI 1) := ⟨_, rfl⟩
      have h := h i9 ei9
      refine lv_iinc (v := i9) (lv' := [(5, .int i9), (4, .int i8), (0, .long v0), (2, .long v2)]) hx hb dX6_alikePlaces_37 hl (k := 1) rfl (by rw [ei9]; rfl) (by decide) rfl (fun ls hl => ?_)
      refine lv_goto (tgt := 6) hx hb dX6_alikePlaces_40 (by decide) ?_
      exact ih6 (i9, i8) _ h (lv_sub hl [0, 1, 2, 3] rfl)
theorem hdS_J6_bitCount_0f7a4 : yJ6_bitCount_0f7a4.cls ≠ "java/lang/invoke/MethodHandle" ∧ yJ6_bitCount_0f7a4.cls ≠ "java/lang/invoke/VarHandle" ∧ (parseMethodDescriptor yJ6_bitCount_0f7a4.desc).map (fun d => d.parameters.length) = some 1 := by decide +kernel
set_option maxHeartbeats 4000000 in
set_option maxRecDepth 100000 in
theorem c_J6_bitCount_0f7a4 (l : Launch) (v0 : Int32) (Post : Int32 → Prop) (h : wp_J6_bitCount_0f7a4 v0 Post) : Met l yJ6_bitCount_0f7a4 wsJ6_bitCount_0f7a4 ({ frames := 0, cells := 0, slots := 0, locals := 0 }) (va_Pc [.int v0] NZ) (vp_Si Post) 0 0 (fun _ => False) := by
  refine Met.ofW (cc := cJ6_bitCount_0f7a4) (maxL := 1) (ret := (some .int)) (by decide) rfl ?_
  intro p e s m args below meth c s₁ B hml hv
  obtain ⟨rfl, hZ⟩ := hv
  have hx := B.exec
  have hb := B.bytes
  have hr := B.returns
  have hts := atoms_spec (ws := wsJ6_bitCount_0f7a4) B.pre
  have hown : s.vm.findClass RJ6 = some m.cls := findClass_of_methodNamed B.named
  have hlocks := B.notSynchronized
  have CF : CallFix p m c cJ6_bitCount_0f7a4 1 s ([.int v0] : List Value).toArray wsJ6_bitCount_0f7a4 RJ6 := ⟨hx, hb, hml, hown, hts⟩
  have hl := lv_entry ([.int v0]) (n := 1) (Nat.le_of_ble_eq_true rfl)
  rw [lg_entry_eq]
  generalize (lg_sl ([.int v0]) ++ List.replicate (1 - (lg_sl ([.int v0])).length) Slot.unset).toArray = ls at hl ⊢
  have hl : lv_has ls 1 [(0, .int v0)] := hl
  unfold wp_J6_bitCount_0f7a4 at h
  refine lv_iload_n hx hb dJ6_bitCount_0f7a4_0 rfl (lv_at hl 0 rfl) ?_
  refine lv_iload_n hx hb dJ6_bitCount_0f7a4_1 rfl (lv_at hl 0 rfl) ?_
  refine lv_iconst (v := (nI 1)) hx hb dJ6_bitCount_0f7a4_2 (by decide) ?_
  refine lv_iushr (v := (uShr v0 (nI 1))) hx hb dJ6_bitCount_0f7a4_3 rfl ?_
  refine lv_ldcw hx hb hown (hts _ (List.mem_of_getElem? (i := 1) (by decide +kernel : wsJ6_bitCount_0f7a4[1]? = some (Cond.constant RJ6 265 (1431655765))))) dJ6_bitCount_0f7a4_4 ?_
  refine lv_iand hx hb dJ6_bitCount_0f7a4_7 ?_
  refine lv_isub hx hb dJ6_bitCount_0f7a4_8 ?_
  refine lv_topi (fun i1 ei1 => ?_)
  have h := h i1 ei1
  refine lv_istore_n (lv' := [(0, .int i1)]) hx hb dJ6_bitCount_0f7a4_9 rfl hl (by decide) rfl (fun ls hl => ?_)
  refine lv_iload_n hx hb dJ6_bitCount_0f7a4_10 rfl (lv_at hl 0 rfl) ?_
  refine lv_ldcw hx hb hown (hts _ (List.mem_of_getElem? (i := 2) (by decide +kernel : wsJ6_bitCount_0f7a4[2]? = some (Cond.constant RJ6 266 (858993459))))) dJ6_bitCount_0f7a4_11 ?_
  refine lv_iand hx hb dJ6_bitCount_0f7a4_14 ?_
  refine lv_iload_n hx hb dJ6_bitCount_0f7a4_15 rfl (lv_at hl 0 rfl) ?_
  refine lv_iconst (v := (nI 2)) hx hb dJ6_bitCount_0f7a4_16 (by decide) ?_
  refine lv_iushr (v := (uShr i1 (nI 2))) hx hb dJ6_bitCount_0f7a4_17 rfl ?_
  refine lv_ldcw hx hb hown (hts _ (List.mem_of_getElem? (i := 2) (by decide +kernel : wsJ6_bitCount_0f7a4[2]? = some (Cond.constant RJ6 266 (858993459))))) dJ6_bitCount_0f7a4_18 ?_
  refine lv_iand hx hb dJ6_bitCount_0f7a4_21 ?_
  refine lv_iadd hx hb dJ6_bitCount_0f7a4_22 ?_
  refine lv_topi (fun i2 ei2 => ?_)
  have h := h i2 ei2
  refine lv_istore_n (lv' := [(0, .int i2)]) hx hb dJ6_bitCount_0f7a4_23 rfl hl (by decide) rfl (fun ls hl => ?_)
  refine lv_iload_n hx hb dJ6_bitCount_0f7a4_24 rfl (lv_at hl 0 rfl) ?_
  refine lv_iload_n hx hb dJ6_bitCount_0f7a4_25 rfl (lv_at hl 0 rfl) ?_
  refine lv_iconst (v := (nI 4)) hx hb dJ6_bitCount_0f7a4_26 (by decide) ?_
  refine lv_iushr (v := (uShr i2 (nI 4))) hx hb dJ6_bitCount_0f7a4_27 rfl ?_
  refine lv_iadd hx hb dJ6_bitCount_0f7a4_28 ?_
  refine lv_ldcw hx hb hown (hts _ (List.mem_of_getElem? (i := 3) (by decide +kernel : wsJ6_bitCount_0f7a4[3]? = some (Cond.constant RJ6 267 (252645135))))) dJ6_bitCount_0f7a4_29 ?_
  refine lv_iand hx hb dJ6_bitCount_0f7a4_32 ?_
  refine lv_topi (fun i3 ei3 => ?_)
  have h := h i3 ei3
  refine lv_istore_n (lv' := [(0, .int i3)]) hx hb dJ6_bitCount_0f7a4_33 rfl hl (by decide) rfl (fun ls hl => ?_)
  refine lv_iload_n hx hb dJ6_bitCount_0f7a4_34 rfl (lv_at hl 0 rfl) ?_
  refine lv_iload_n hx hb dJ6_bitCount_0f7a4_35 rfl (lv_at hl 0 rfl) ?_
  refine lv_bipush (v := (nI 8)) hx hb dJ6_bitCount_0f7a4_36 (by decide) ?_
  refine lv_iushr (v := (uShr i3 (nI 8))) hx hb dJ6_bitCount_0f7a4_38 rfl ?_
  refine lv_iadd hx hb dJ6_bitCount_0f7a4_39 ?_
  refine lv_topi (fun i4 ei4 => ?_)
  have h := h i4 ei4
  refine lv_istore_n (lv' := [(0, .int i4)]) hx hb dJ6_bitCount_0f7a4_40 rfl hl (by decide) rfl (fun ls hl => ?_)
  refine lv_iload_n hx hb dJ6_bitCount_0f7a4_41 rfl (lv_at hl 0 rfl) ?_
  refine lv_iload_n hx hb dJ6_bitCount_0f7a4_42 rfl (lv_at hl 0 rfl) ?_
  refine lv_bipush (v := (nI 16)) hx hb dJ6_bitCount_0f7a4_43 (by decide) ?_
  refine lv_iushr (v := (uShr i4 (nI 16))) hx hb dJ6_bitCount_0f7a4_45 rfl ?_
  refine lv_iadd hx hb dJ6_bitCount_0f7a4_46 ?_
  refine lv_topi (fun i5 ei5 => ?_)
  have h := h i5 ei5
  refine lv_istore_n (lv' := [(0, .int i5)]) hx hb dJ6_bitCount_0f7a4_47 rfl hl (by decide) rfl (fun ls hl => ?_)
  refine lv_iload_n hx hb dJ6_bitCount_0f7a4_48 rfl (lv_at hl 0 rfl) ?_
  refine lv_bipush (v := (nI 63)) hx hb dJ6_bitCount_0f7a4_49 (by decide) ?_
  refine lv_iand hx hb dJ6_bitCount_0f7a4_51 ?_
  exact W.iret hx hb hr (fun t ht hW => ⟨(i5 &&& (nI 63)), rfl, h, ht⟩) no_locs dJ6_bitCount_0f7a4_52
theorem hdS_X6_staying : yX6_staying.cls ≠ "java/lang/invoke/MethodHandle" ∧ yX6_staying.cls ≠ "java/lang/invoke/VarHandle" ∧ (parseMethodDescriptor yX6_staying.desc).map (fun d => d.parameters.length) = some 1 := by decide +kernel
set_option maxHeartbeats 4000000 in
set_option maxRecDepth 100000 in
theorem c_X6_staying (l : Launch) (v0 : Int64) (Post : Int32 → Prop) (h : wp_X6_staying v0 Post) : Met l yX6_staying wsX6_staying ({ frames := 2, cells := 0, slots := 0, locals := 47 }) (va_Pc [.long v0] NZ) (vp_Si Post) 0 0 (fun _ => False) := by
  refine Met.ofW (cc := cX6_staying) (maxL := 2) (ret := (some .int)) (by decide) rfl ?_
  intro p e s m args below meth c s₁ B hml hv
  obtain ⟨rfl, hZ⟩ := hv
  have hx := B.exec
  have hb := B.bytes
  have hr := B.returns
  have hts := atoms_spec (ws := wsX6_staying) B.pre
  have hown : s.vm.findClass RX6 = some m.cls := findClass_of_methodNamed B.named
  have hlocks := B.notSynchronized
  have CF : CallFix p m c cX6_staying 2 s ([.long v0] : List Value).toArray wsX6_staying RX6 := ⟨hx, hb, hml, hown, hts⟩
  have hl := lv_entry ([.long v0]) (n := 2) (Nat.le_of_ble_eq_true rfl)
  rw [lg_entry_eq]
  generalize (lg_sl ([.long v0]) ++ List.replicate (2 - (lg_sl ([.long v0])).length) Slot.unset).toArray = ls at hl ⊢
  have hl : lv_has ls 2 [(0, .long v0)] := hl
  unfold wp_X6_staying at h
  refine lv_lload_n hx hb dX6_staying_0 rfl (lv_at hl 0 rfl) ?_
  refine lv_ldc2 hx hb hown (hts _ (List.mem_of_getElem? (i := 1) (by decide +kernel : wsX6_staying[1]? = some (Cond.constantLong RX6 15 (205163983024656))))) dX6_staying_1 ?_
  refine cS_si (As := [.long v0, .long (205163983024656 : Int64)]) (rest := []) (n := 2) CF hZ (c_X6_alikePlaces l v0 (205163983024656 : Int64) _ h) (va_cwS 2 hts gX6_staying_X6_alikePlaces rfl rfl rfl hdS_X6_alikePlaces ⟨Nat.le_of_ble_eq_true rfl, Nat.le_of_ble_eq_true rfl⟩) rfl hl.1 rfl (Nat.le_of_ble_eq_true rfl) dX6_staying_4 ⟨(Nat.le_of_ble_eq_true rfl), (Nat.le_of_ble_eq_true rfl)⟩ (fun i1 h => ?_)
  refine cS_si (As := [.int i1]) (rest := []) (n := 1) CF hZ (c_J6_bitCount_0f7a4 l i1 _ h) (va_cwS 1 hts gX6_staying_J6_bitCount_0f7a4 rfl rfl rfl hdS_J6_bitCount_0f7a4 ⟨Nat.le_of_ble_eq_true rfl, Nat.le_of_ble_eq_true rfl⟩) rfl hl.1 rfl (Nat.le_of_ble_eq_true rfl) dX6_staying_7 ⟨(Nat.le_of_ble_eq_true rfl), (Nat.le_of_ble_eq_true rfl)⟩ (fun i2 h => ?_)
  exact W.iret hx hb hr (fun t ht hW => ⟨i2, rfl, h, ht⟩) no_locs dX6_staying_10
theorem hdS_X6_timesUntilAgain : yX6_timesUntilAgain.cls ≠ "java/lang/invoke/MethodHandle" ∧ yX6_timesUntilAgain.cls ≠ "java/lang/invoke/VarHandle" ∧ (parseMethodDescriptor yX6_timesUntilAgain.desc).map (fun d => d.parameters.length) = some 2 := by decide +kernel
set_option maxHeartbeats 4000000 in
set_option maxRecDepth 100000 in
theorem c_X6_timesUntilAgain (l : Launch) (v0 : Int64) (v2 : Int64) (Post : Int32 → Prop) (h : wp_X6_timesUntilAgain v0 v2 Post) : Met l yX6_timesUntilAgain wsX6_timesUntilAgain ({ frames := 2, cells := 0, slots := 0, locals := 48 }) (va_Pc [.long v0, .long v2] NZ) (vp_Si Post) 0 0 (fun _ => False) := by
  refine Met.ofW (cc := cX6_timesUntilAgain) (maxL := 7) (ret := (some .int)) (by decide) rfl ?_
  intro p e s m args below meth c s₁ B hml hv
  obtain ⟨rfl, hZ⟩ := hv
  have hx := B.exec
  have hb := B.bytes
  have hr := B.returns
  have hts := atoms_spec (ws := wsX6_timesUntilAgain) B.pre
  have hown : s.vm.findClass RX6 = some m.cls := findClass_of_methodNamed B.named
  have hlocks := B.notSynchronized
  have CF : CallFix p m c cX6_timesUntilAgain 7 s ([.long v0, .long v2] : List Value).toArray wsX6_timesUntilAgain RX6 := ⟨hx, hb, hml, hown, hts⟩
  have hl := lv_entry ([.long v0, .long v2]) (n := 7) (Nat.le_of_ble_eq_true rfl)
  rw [lg_entry_eq]
  generalize (lg_sl ([.long v0, .long v2]) ++ List.replicate (7 - (lg_sl ([.long v0, .long v2])).length) Slot.unset).toArray = ls at hl ⊢
  have hl : lv_has ls 7 [(0, .long v0), (2, .long v2)] := hl
  unfold wp_X6_timesUntilAgain at h
  refine lv_lload_n hx hb dX6_timesUntilAgain_0 rfl (lv_at hl 1 rfl) ?_
  refine lv_lload_n hx hb dX6_timesUntilAgain_1 rfl (lv_at hl 0 rfl) ?_
  refine cS_sl (As := [.long v2, .long v0]) (rest := []) (n := 2) CF hZ (c_X4_moved l v2 v0 _ h) (va_cwS 2 hts gX6_timesUntilAgain_X4_moved rfl rfl rfl hdS_X4_moved ⟨Nat.le_of_ble_eq_true rfl, Nat.le_of_ble_eq_true rfl⟩) rfl hl.1 rfl (Nat.le_of_ble_eq_true rfl) dX6_timesUntilAgain_2 ⟨(Nat.le_of_ble_eq_true rfl), (Nat.le_of_ble_eq_true rfl)⟩ (fun j1 h => ?_)
  refine lv_lstore (lv' := [(4, .long j1), (0, .long v0), (2, .long v2)]) hx hb dX6_timesUntilAgain_5 hl (by decide) rfl (fun ls hl => ?_)
  refine lv_iconst (v := (nI 1)) hx hb dX6_timesUntilAgain_7 (by decide) ?_
  refine lv_istore (lv' := [(6, .int (nI 1)), (4, .long j1), (0, .long v0), (2, .long v2)]) hx hb dX6_timesUntilAgain_8 hl (by decide) rfl (fun ls hl => ?_)
  obtain ⟨n8, h⟩ := h
  refine lp_P (nL := 7) (fun q => [(6, .int q.1), (4, .long q.2), (0, .long v0), (2, .long v2)]) h (lv_sub hl [0, 1, 2, 3] rfl) (fun K10 ih10 q ls h hl => ?_)
  obtain ⟨i2, j3⟩ := q
  have h : wpb_X6_timesUntilAgain_10 v0 v2 Post K10 i2 j3 := h
  have hl : lv_has ls 7 [(6, .int i2), (4, .long j3), (0, .long v0), (2, .long v2)] := hl
  unfold wpb_X6_timesUntilAgain_10 at h
  refine lv_lload hx hb dX6_timesUntilAgain_10 (lv_at hl 1 rfl) ?_
  refine lv_lload_n hx hb dX6_timesUntilAgain_12 rfl (lv_at hl 3 rfl) ?_
  refine W.lcmp hx hb dX6_timesUntilAgain_13 ?_
  refine lv_if_eq (tgt := 38) hx hb dX6_timesUntilAgain_14 (by decide) (fun c4 => ?_) (fun c4 => ?_)
  · have h := h.1 c4
    refine lv_iload hx hb dX6_timesUntilAgain_38 (lv_at hl 0 rfl) ?_
    exact W.iret hx hb hr (fun t ht hW => ⟨i2, rfl, h, ht⟩) no_locs dX6_timesUntilAgain_40
  · have h := h.2 c4
    refine lv_iload hx hb dX6_timesUntilAgain_17 (lv_at hl 0 rfl) ?_
    refine lv_bipush (v := (nI 60)) hx hb dX6_timesUntilAgain_19 (by decide) ?_
    refine lv_icmp_ge (tgt := 38) hx hb dX6_timesUntilAgain_21 (by decide) (fun c5 => ?_) (fun c5 => ?_)
    · have h := h.1 c5
      refine lv_iload hx hb dX6_timesUntilAgain_38 (lv_at hl 0 rfl) ?_
      exact W.iret hx hb hr (fun t ht hW => ⟨i2, rfl, h, ht⟩) no_locs dX6_timesUntilAgain_40
    · have h := h.2 c5
      refine lv_lload hx hb dX6_timesUntilAgain_24 (lv_at hl 1 rfl) ?_
      refine lv_lload_n hx hb dX6_timesUntilAgain_26 rfl (lv_at hl 2 rfl) ?_
      refine cS_sl (As := [.long j3, .long v0]) (rest := []) (n := 2) CF hZ (c_X4_moved l j3 v0 _ h) (va_cwS 2 hts gX6_timesUntilAgain_X4_moved rfl rfl rfl hdS_X4_moved ⟨Nat.le_of_ble_eq_true rfl, Nat.le_of_ble_eq_true rfl⟩) rfl hl.1 rfl (Nat.le_of_ble_eq_true rfl) dX6_timesUntilAgain_27 ⟨(Nat.le_of_ble_eq_true rfl), (Nat.le_of_ble_eq_true rfl)⟩ (fun j6 h => ?_)
      refine lv_lstore (lv' := [(4, .long j6), (6, .int i2), (0, .long v0), (2, .long v2)]) hx hb dX6_timesUntilAgain_30 hl (by decide) rfl (fun ls hl => ?_)
      obtain ⟨i7, ei7⟩ : ∃ y : Int32, y = i2 + (nI 1) := ⟨_, rfl⟩
      have h := h i7 ei7
      refine lv_iinc (v := i7) (lv' := [(6, .int i7), (4, .long j6), (0, .long v0), (2, .long v2)]) hx hb dX6_timesUntilAgain_32 hl (k := 1) rfl (by rw [ei7]; rfl) (by decide) rfl (fun ls hl => ?_)
      refine lv_goto (tgt := 10) hx hb dX6_timesUntilAgain_35 (by decide) ?_
      exact ih10 (i7, j6) _ h (lv_sub hl [0, 1, 2, 3] rfl)
theorem hdS_X6_cycleOf : yX6_cycleOf.cls ≠ "java/lang/invoke/MethodHandle" ∧ yX6_cycleOf.cls ≠ "java/lang/invoke/VarHandle" ∧ (parseMethodDescriptor yX6_cycleOf.desc).map (fun d => d.parameters.length) = some 2 := by decide +kernel
set_option maxHeartbeats 4000000 in
set_option maxRecDepth 100000 in
theorem c_X6_cycleOf (l : Launch) (v0 : Int64) (v2 : Int32) (Post : Int32 → Prop) (h : wp_X6_cycleOf v0 v2 Post) : Met l yX6_cycleOf wsX6_cycleOf ({ frames := 1, cells := 0, slots := 0, locals := 22 }) (va_Pc [.long v0, .int v2] NZ) (vp_Si Post) 0 0 (fun _ => False) := by
  refine Met.ofW (cc := cX6_cycleOf) (maxL := 6) (ret := (some .int)) (by decide) rfl ?_
  intro p e s m args below meth c s₁ B hml hv
  obtain ⟨rfl, hZ⟩ := hv
  have hx := B.exec
  have hb := B.bytes
  have hr := B.returns
  have hts := atoms_spec (ws := wsX6_cycleOf) B.pre
  have hown : s.vm.findClass RX6 = some m.cls := findClass_of_methodNamed B.named
  have hlocks := B.notSynchronized
  have CF : CallFix p m c cX6_cycleOf 6 s ([.long v0, .int v2] : List Value).toArray wsX6_cycleOf RX6 := ⟨hx, hb, hml, hown, hts⟩
  have hl := lv_entry ([.long v0, .int v2]) (n := 6) (Nat.le_of_ble_eq_true rfl)
  rw [lg_entry_eq]
  generalize (lg_sl ([.long v0, .int v2]) ++ List.replicate (6 - (lg_sl ([.long v0, .int v2])).length) Slot.unset).toArray = ls at hl ⊢
  have hl : lv_has ls 6 [(0, .long v0), (2, .int v2)] := hl
  unfold wp_X6_cycleOf at h
  refine lv_iconst (v := (nI 1)) hx hb dX6_cycleOf_0 (by decide) ?_
  refine lv_iload_n hx hb dX6_cycleOf_1 rfl (lv_at hl 1 rfl) ?_
  refine lv_ishl hx hb dX6_cycleOf_2 ?_
  refine lv_topi (fun i1 ei1 => ?_)
  have h := h i1 ei1
  refine lv_istore_n (lv' := [(3, .int i1), (0, .long v0), (2, .int v2)]) hx hb dX6_cycleOf_3 rfl hl (by decide) rfl (fun ls hl => ?_)
  refine lv_lload_n hx hb dX6_cycleOf_4 rfl (lv_at hl 1 rfl) ?_
  refine lv_iload_n hx hb dX6_cycleOf_5 rfl (lv_at hl 2 rfl) ?_
  refine cS_si (As := [.long v0, .int v2]) (rest := []) (n := 2) CF hZ (c_X4_at l v0 v2 _ h) (va_cwS 2 hts gX6_cycleOf_X4_at rfl rfl rfl hdS_X4_at ⟨Nat.le_of_ble_eq_true rfl, Nat.le_of_ble_eq_true rfl⟩) rfl hl.1 rfl (Nat.le_of_ble_eq_true rfl) dX6_cycleOf_6 ⟨(Nat.le_of_ble_eq_true rfl), (Nat.le_of_ble_eq_true rfl)⟩ (fun i2 h => ?_)
  refine lv_istore (lv' := [(4, .int i2), (3, .int i1), (0, .long v0), (2, .int v2)]) hx hb dX6_cycleOf_9 hl (by decide) rfl (fun ls hl => ?_)
  refine lv_iconst (v := (nI 1)) hx hb dX6_cycleOf_11 (by decide) ?_
  refine lv_istore (lv' := [(5, .int (nI 1)), (4, .int i2), (3, .int i1), (0, .long v0), (2, .int v2)]) hx hb dX6_cycleOf_12 hl (by decide) rfl (fun ls hl => ?_)
  obtain ⟨n11, h⟩ := h
  refine lp_P (nL := 6) (fun q => [(5, .int q.1), (4, .int q.2.1), (3, .int q.2.2), (0, .long v0), (2, .int v2)]) h (lv_sub hl [0, 1, 2, 3, 4] rfl) (fun K14 ih14 q ls h hl => ?_)
  obtain ⟨i3, i4, i5⟩ := q
  have h : wpb_X6_cycleOf_14 v0 v2 Post K14 i3 i4 i5 := h
  have hl : lv_has ls 6 [(5, .int i3), (4, .int i4), (3, .int i5), (0, .long v0), (2, .int v2)] := hl
  unfold wpb_X6_cycleOf_14 at h
  refine lv_iload hx hb dX6_cycleOf_14 (lv_at hl 0 rfl) ?_
  refine lv_bipush (v := (nI 12)) hx hb dX6_cycleOf_16 (by decide) ?_
  refine lv_icmp_ge (tgt := 48) hx hb dX6_cycleOf_18 (by decide) (fun c6 => ?_) (fun c6 => ?_)
  · have h := h.1 c6
    refine lv_iload_n hx hb dX6_cycleOf_48 rfl (lv_at hl 2 rfl) ?_
    exact W.iret hx hb hr (fun t ht hW => ⟨i5, rfl, h, ht⟩) no_locs dX6_cycleOf_49
  · have h := h.2 c6
    refine lv_iload hx hb dX6_cycleOf_21 (lv_at hl 1 rfl) ?_
    refine lv_iload_n hx hb dX6_cycleOf_23 rfl (lv_at hl 4 rfl) ?_
    refine lv_icmp_eq (tgt := 48) hx hb dX6_cycleOf_24 (by decide) (fun c7 => ?_) (fun c7 => ?_)
    · have h := h.1 c7
      refine lv_iload_n hx hb dX6_cycleOf_48 rfl (lv_at hl 2 rfl) ?_
      exact W.iret hx hb hr (fun t ht hW => ⟨i5, rfl, h, ht⟩) no_locs dX6_cycleOf_49
    · have h := h.2 c7
      refine lv_iload_n hx hb dX6_cycleOf_27 rfl (lv_at hl 2 rfl) ?_
      refine lv_iconst (v := (nI 1)) hx hb dX6_cycleOf_28 (by decide) ?_
      refine lv_iload hx hb dX6_cycleOf_29 (lv_at hl 1 rfl) ?_
      refine lv_ishl hx hb dX6_cycleOf_31 ?_
      refine lv_ior hx hb dX6_cycleOf_32 ?_
      refine lv_topi (fun i8 ei8 => ?_)
      have h := h i8 ei8
      refine lv_istore_n (lv' := [(3, .int i8), (5, .int i3), (4, .int i4), (0, .long v0), (2, .int v2)]) hx hb dX6_cycleOf_33 rfl hl (by decide) rfl (fun ls hl => ?_)
      refine lv_lload_n hx hb dX6_cycleOf_34 rfl (lv_at hl 3 rfl) ?_
      refine lv_iload hx hb dX6_cycleOf_35 (lv_at hl 2 rfl) ?_
      refine cS_si (As := [.long v0, .int i4]) (rest := []) (n := 2) CF hZ (c_X4_at l v0 i4 _ h) (va_cwS 2 hts gX6_cycleOf_X4_at rfl rfl rfl hdS_X4_at ⟨Nat.le_of_ble_eq_true rfl, Nat.le_of_ble_eq_true rfl⟩) rfl hl.1 rfl (Nat.le_of_ble_eq_true rfl) dX6_cycleOf_37 ⟨(Nat.le_of_ble_eq_true rfl), (Nat.le_of_ble_eq_true rfl)⟩ (fun i9 h => ?_)
      refine lv_istore (lv' := [(4, .int i9), (3, .int i8), (5, .int i3), (0, .long v0), (2, .int v2)]) hx hb dX6_cycleOf_40 hl (by decide) rfl (fun ls hl => ?_)
      obtain ⟨i10, ei10⟩ : ∃ y : Int32, y = i3 + (nI 1) := ⟨_, rfl⟩
      have h := h i10 ei10
      refine lv_iinc (v := i10) (lv' := [(5, .int i10), (4, .int i9), (3, .int i8), (0, .long v0), (2, .int v2)]) hx hb dX6_cycleOf_42 hl (k := 2) rfl (by rw [ei10]; rfl) (by decide) rfl (fun ls hl => ?_)
      refine lv_goto (tgt := 14) hx hb dX6_cycleOf_45 (by decide) ?_
      exact ih14 (i10, i9, i8) _ h (lv_sub hl [0, 1, 2, 3, 4] rfl)
theorem hdS_X6_cycles : yX6_cycles.cls ≠ "java/lang/invoke/MethodHandle" ∧ yX6_cycles.cls ≠ "java/lang/invoke/VarHandle" ∧ (parseMethodDescriptor yX6_cycles.desc).map (fun d => d.parameters.length) = some 1 := by decide +kernel
set_option maxHeartbeats 4000000 in
set_option maxRecDepth 100000 in
theorem c_X6_cycles (l : Launch) (v0 : Int64) (Post : Int32 → Prop) (h : wp_X6_cycles v0 Post) : Met l yX6_cycles wsX6_cycles ({ frames := 2, cells := 0, slots := 0, locals := 47 }) (va_Pc [.long v0] NZ) (vp_Si Post) 0 0 (fun _ => False) := by
  refine Met.ofW (cc := cX6_cycles) (maxL := 6) (ret := (some .int)) (by decide) rfl ?_
  intro p e s m args below meth c s₁ B hml hv
  obtain ⟨rfl, hZ⟩ := hv
  have hx := B.exec
  have hb := B.bytes
  have hr := B.returns
  have hts := atoms_spec (ws := wsX6_cycles) B.pre
  have hown : s.vm.findClass RX6 = some m.cls := findClass_of_methodNamed B.named
  have hlocks := B.notSynchronized
  have CF : CallFix p m c cX6_cycles 6 s ([.long v0] : List Value).toArray wsX6_cycles RX6 := ⟨hx, hb, hml, hown, hts⟩
  have hl := lv_entry ([.long v0]) (n := 6) (Nat.le_of_ble_eq_true rfl)
  rw [lg_entry_eq]
  generalize (lg_sl ([.long v0]) ++ List.replicate (6 - (lg_sl ([.long v0])).length) Slot.unset).toArray = ls at hl ⊢
  have hl : lv_has ls 6 [(0, .long v0)] := hl
  unfold wp_X6_cycles at h
  refine lv_iconst (v := (nI 0)) hx hb dX6_cycles_0 (by decide) ?_
  refine lv_istore_n (lv' := [(2, .int (nI 0)), (0, .long v0)]) hx hb dX6_cycles_1 rfl hl (by decide) rfl (fun ls hl => ?_)
  refine lv_iconst (v := (nI 0)) hx hb dX6_cycles_2 (by decide) ?_
  refine lv_istore_n (lv' := [(3, .int (nI 0)), (2, .int (nI 0)), (0, .long v0)]) hx hb dX6_cycles_3 rfl hl (by decide) rfl (fun ls hl => ?_)
  obtain ⟨n11, h⟩ := h
  refine lp_P (nL := 6) (fun q => [(3, .int q.1), (2, .int q.2), (0, .long v0)]) h (lv_sub hl [0, 1, 2] rfl) (fun K4 ih4 q ls h hl => ?_)
  obtain ⟨i1, i2⟩ := q
  have h : wpb_X6_cycles_4 v0 Post K4 i1 i2 := h
  have hl : lv_has ls 6 [(3, .int i1), (2, .int i2), (0, .long v0)] := hl
  unfold wpb_X6_cycles_4 at h
  refine lv_iload_n hx hb dX6_cycles_4 rfl (lv_at hl 0 rfl) ?_
  refine lv_bipush (v := (nI 12)) hx hb dX6_cycles_5 (by decide) ?_
  refine lv_icmp_ge (tgt := 57) hx hb dX6_cycles_7 (by decide) (fun c3 => ?_) (fun c3 => ?_)
  · have h := h.1 c3
    refine lv_iload_n hx hb dX6_cycles_57 rfl (lv_at hl 1 rfl) ?_
    exact W.iret hx hb hr (fun t ht hW => ⟨i2, rfl, h, ht⟩) no_locs dX6_cycles_58
  · have h := h.2 c3
    refine lv_lload_n hx hb dX6_cycles_10 rfl (lv_at hl 2 rfl) ?_
    refine lv_iload_n hx hb dX6_cycles_11 rfl (lv_at hl 0 rfl) ?_
    refine cS_si (As := [.long v0, .int i1]) (rest := []) (n := 2) CF hZ (c_X6_cycleOf l v0 i1 _ h) (va_cwS 2 hts gX6_cycles_X6_cycleOf rfl rfl rfl hdS_X6_cycleOf ⟨Nat.le_of_ble_eq_true rfl, Nat.le_of_ble_eq_true rfl⟩) rfl hl.1 rfl (Nat.le_of_ble_eq_true rfl) dX6_cycles_12 ⟨(Nat.le_of_ble_eq_true rfl), (Nat.le_of_ble_eq_true rfl)⟩ (fun i4 h => ?_)
    refine lv_istore (lv' := [(4, .int i4), (3, .int i1), (2, .int i2), (0, .long v0)]) hx hb dX6_cycles_15 hl (by decide) rfl (fun ls hl => ?_)
    refine lv_iload hx hb dX6_cycles_17 (lv_at hl 0 rfl) ?_
    refine lv_iconst (v := (nI 1)) hx hb dX6_cycles_19 (by decide) ?_
    refine lv_iload_n hx hb dX6_cycles_20 rfl (lv_at hl 1 rfl) ?_
    refine lv_ishl hx hb dX6_cycles_21 ?_
    refine lv_iconst (v := (nI 1)) hx hb dX6_cycles_22 (by decide) ?_
    refine lv_isub hx hb dX6_cycles_23 ?_
    refine lv_iand hx hb dX6_cycles_24 ?_
    refine lv_if_ne (tgt := 32) hx hb dX6_cycles_25 (by decide) (fun c5 => ?_) (fun c5 => ?_)
    · have h := h.2 c5
      refine lv_iconst (v := (nI 0)) hx hb dX6_cycles_32 (by decide) ?_
      refine lv_istore (lv' := [(5, .int (nI 0)), (4, .int i4), (3, .int i1), (2, .int i2), (0, .long v0)]) hx hb dX6_cycles_33 hl (by decide) rfl (fun ls hl => ?_)
      refine lv_iload hx hb dX6_cycles_35 (lv_at hl 0 rfl) ?_
      refine lv_if_eq (tgt := 51) hx hb dX6_cycles_37 (by decide) (fun _ => ?_) (fun c9 => absurd c9 (by decide))
      obtain ⟨i6, ei6⟩ : ∃ y : Int32, y = i1 + (nI 1) := ⟨_, rfl⟩
      have h := h i6 ei6
      refine lv_iinc (v := i6) (lv' := [(3, .int i6), (5, .int (nI 0)), (4, .int i4), (2, .int i2), (0, .long v0)]) hx hb dX6_cycles_51 hl (k := 2) rfl (by rw [ei6]; rfl) (by decide) rfl (fun ls hl => ?_)
      refine lv_goto (tgt := 4) hx hb dX6_cycles_54 (by decide) ?_
      exact ih4 (i6, i2) _ h (lv_sub hl [0, 3, 4] rfl)
    · have h := h.1 c5
      refine lv_iconst (v := (nI 1)) hx hb dX6_cycles_28 (by decide) ?_
      refine lv_goto (tgt := 33) hx hb dX6_cycles_29 (by decide) ?_
      refine lv_istore (lv' := [(5, .int (nI 1)), (4, .int i4), (3, .int i1), (2, .int i2), (0, .long v0)]) hx hb dX6_cycles_33 hl (by decide) rfl (fun ls hl => ?_)
      refine lv_iload hx hb dX6_cycles_35 (lv_at hl 0 rfl) ?_
      refine lv_if_eq (tgt := 51) hx hb dX6_cycles_37 (by decide) (fun c9 => absurd c9 (by decide)) (fun _ => ?_)
      refine lv_iload hx hb dX6_cycles_40 (lv_at hl 1 rfl) ?_
      refine lv_iconst (v := (nI 1)) hx hb dX6_cycles_42 (by decide) ?_
      refine lv_iload_n hx hb dX6_cycles_43 rfl (lv_at hl 2 rfl) ?_
      refine lv_ishl hx hb dX6_cycles_44 ?_
      refine lv_icmp_eq (tgt := 51) hx hb dX6_cycles_45 (by decide) (fun c7 => ?_) (fun c7 => ?_)
      · have h := h.1 c7
        obtain ⟨i8, ei8⟩ : ∃ y : Int32, y = i1 + (nI 1) := ⟨_, rfl⟩
        have h := h i8 ei8
        refine lv_iinc (v := i8) (lv' := [(3, .int i8), (5, .int (nI 1)), (4, .int i4), (2, .int i2), (0, .long v0)]) hx hb dX6_cycles_51 hl (k := 2) rfl (by rw [ei8]; rfl) (by decide) rfl (fun ls hl => ?_)
        refine lv_goto (tgt := 4) hx hb dX6_cycles_54 (by decide) ?_
        exact ih4 (i8, i2) _ h (lv_sub hl [0, 3, 4] rfl)
      · have h := h.2 c7
        obtain ⟨i9, ei9⟩ : ∃ y : Int32, y = i2 + (nI 1) := ⟨_, rfl⟩
        have h := h i9 ei9
        refine lv_iinc (v := i9) (lv' := [(2, .int i9), (5, .int (nI 1)), (4, .int i4), (3, .int i1), (0, .long v0)]) hx hb dX6_cycles_48 hl (k := 3) rfl (by rw [ei9]; rfl) (by decide) rfl (fun ls hl => ?_)
        obtain ⟨i10, ei10⟩ : ∃ y : Int32, y = i1 + (nI 1) := ⟨_, rfl⟩
        have h := h i10 ei10
        refine lv_iinc (v := i10) (lv' := [(3, .int i10), (2, .int i9), (5, .int (nI 1)), (4, .int i4), (0, .long v0)]) hx hb dX6_cycles_51 hl (k := 3) rfl (by rw [ei10]; rfl) (by decide) rfl (fun ls hl => ?_)
        refine lv_goto (tgt := 4) hx hb dX6_cycles_54 (by decide) ?_
        exact ih4 (i10, i9) _ h (lv_sub hl [0, 1, 4] rfl)
theorem hdS_X6_longestCycle : yX6_longestCycle.cls ≠ "java/lang/invoke/MethodHandle" ∧ yX6_longestCycle.cls ≠ "java/lang/invoke/VarHandle" ∧ (parseMethodDescriptor yX6_longestCycle.desc).map (fun d => d.parameters.length) = some 1 := by decide +kernel
set_option maxHeartbeats 4000000 in
set_option maxRecDepth 100000 in
theorem c_X6_longestCycle (l : Launch) (v0 : Int64) (Post : Int32 → Prop) (h : wp_X6_longestCycle v0 Post) : Met l yX6_longestCycle wsX6_longestCycle ({ frames := 2, cells := 0, slots := 0, locals := 47 }) (va_Pc [.long v0] NZ) (vp_Si Post) 0 0 (fun _ => False) := by
  refine Met.ofW (cc := cX6_longestCycle) (maxL := 5) (ret := (some .int)) (by decide) rfl ?_
  intro p e s m args below meth c s₁ B hml hv
  obtain ⟨rfl, hZ⟩ := hv
  have hx := B.exec
  have hb := B.bytes
  have hr := B.returns
  have hts := atoms_spec (ws := wsX6_longestCycle) B.pre
  have hown : s.vm.findClass RX6 = some m.cls := findClass_of_methodNamed B.named
  have hlocks := B.notSynchronized
  have CF : CallFix p m c cX6_longestCycle 5 s ([.long v0] : List Value).toArray wsX6_longestCycle RX6 := ⟨hx, hb, hml, hown, hts⟩
  have hl := lv_entry ([.long v0]) (n := 5) (Nat.le_of_ble_eq_true rfl)
  rw [lg_entry_eq]
  generalize (lg_sl ([.long v0]) ++ List.replicate (5 - (lg_sl ([.long v0])).length) Slot.unset).toArray = ls at hl ⊢
  have hl : lv_has ls 5 [(0, .long v0)] := hl
  unfold wp_X6_longestCycle at h
  refine lv_iconst (v := (nI 0)) hx hb dX6_longestCycle_0 (by decide) ?_
  refine lv_istore_n (lv' := [(2, .int (nI 0)), (0, .long v0)]) hx hb dX6_longestCycle_1 rfl hl (by decide) rfl (fun ls hl => ?_)
  refine lv_iconst (v := (nI 0)) hx hb dX6_longestCycle_2 (by decide) ?_
  refine lv_istore_n (lv' := [(3, .int (nI 0)), (2, .int (nI 0)), (0, .long v0)]) hx hb dX6_longestCycle_3 rfl hl (by decide) rfl (fun ls hl => ?_)
  obtain ⟨n11, h⟩ := h
  refine lp_P (nL := 5) (fun q => [(3, .int q.1), (2, .int q.2), (0, .long v0)]) h (lv_sub hl [0, 1, 2] rfl) (fun K4 ih4 q ls h hl => ?_)
  obtain ⟨i1, i2⟩ := q
  have h : wpb_X6_longestCycle_4 v0 Post K4 i1 i2 := h
  have hl : lv_has ls 5 [(3, .int i1), (2, .int i2), (0, .long v0)] := hl
  unfold wpb_X6_longestCycle_4 at h
  refine lv_iload_n hx hb dX6_longestCycle_4 rfl (lv_at hl 0 rfl) ?_
  refine lv_bipush (v := (nI 12)) hx hb dX6_longestCycle_5 (by decide) ?_
  refine lv_icmp_ge (tgt := 41) hx hb dX6_longestCycle_7 (by decide) (fun c3 => ?_) (fun c3 => ?_)
  · have h := h.1 c3
    refine lv_iload_n hx hb dX6_longestCycle_41 rfl (lv_at hl 1 rfl) ?_
    exact W.iret hx hb hr (fun t ht hW => ⟨i2, rfl, h, ht⟩) no_locs dX6_longestCycle_42
  · have h := h.2 c3
    refine lv_lload_n hx hb dX6_longestCycle_10 rfl (lv_at hl 2 rfl) ?_
    refine lv_iload_n hx hb dX6_longestCycle_11 rfl (lv_at hl 0 rfl) ?_
    refine cS_si (As := [.long v0, .int i1]) (rest := []) (n := 2) CF hZ (c_X6_cycleOf l v0 i1 _ h) (va_cwS 2 hts gX6_longestCycle_X6_cycleOf rfl rfl rfl hdS_X6_cycleOf ⟨Nat.le_of_ble_eq_true rfl, Nat.le_of_ble_eq_true rfl⟩) rfl hl.1 rfl (Nat.le_of_ble_eq_true rfl) dX6_longestCycle_12 ⟨(Nat.le_of_ble_eq_true rfl), (Nat.le_of_ble_eq_true rfl)⟩ (fun i4 h => ?_)
    refine cS_si (As := [.int i4]) (rest := []) (n := 1) CF hZ (c_J6_bitCount_0f7a4 l i4 _ h) (va_cwS 1 hts gX6_longestCycle_J6_bitCount_0f7a4 rfl rfl rfl hdS_J6_bitCount_0f7a4 ⟨Nat.le_of_ble_eq_true rfl, Nat.le_of_ble_eq_true rfl⟩) rfl hl.1 rfl (Nat.le_of_ble_eq_true rfl) dX6_longestCycle_15 ⟨(Nat.le_of_ble_eq_true rfl), (Nat.le_of_ble_eq_true rfl)⟩ (fun i5 h => ?_)
    refine lv_istore (lv' := [(4, .int i5), (3, .int i1), (2, .int i2), (0, .long v0)]) hx hb dX6_longestCycle_18 hl (by decide) rfl (fun ls hl => ?_)
    refine lv_iload hx hb dX6_longestCycle_20 (lv_at hl 0 rfl) ?_
    refine lv_iconst (v := (nI 1)) hx hb dX6_longestCycle_22 (by decide) ?_
    refine lv_icmp_le (tgt := 35) hx hb dX6_longestCycle_23 (by decide) (fun c6 => ?_) (fun c6 => ?_)
    · have h := h.1 c6
      obtain ⟨i7, ei7⟩ : ∃ y : Int32, y = i1 + (nI 1) := ⟨_, rfl⟩
      have h := h i7 ei7
      refine lv_iinc (v := i7) (lv' := [(3, .int i7), (4, .int i5), (2, .int i2), (0, .long v0)]) hx hb dX6_longestCycle_35 hl (k := 1) rfl (by rw [ei7]; rfl) (by decide) rfl (fun ls hl => ?_)
      refine lv_goto (tgt := 4) hx hb dX6_longestCycle_38 (by decide) ?_
      exact ih4 (i7, i2) _ h (lv_sub hl [0, 2, 3] rfl)
    · have h := h.2 c6
      refine lv_iload hx hb dX6_longestCycle_26 (lv_at hl 0 rfl) ?_
      refine lv_iload_n hx hb dX6_longestCycle_28 rfl (lv_at hl 2 rfl) ?_
      refine lv_icmp_le (tgt := 35) hx hb dX6_longestCycle_29 (by decide) (fun c8 => ?_) (fun c8 => ?_)
      · have h := h.1 c8
        obtain ⟨i9, ei9⟩ : ∃ y : Int32, y = i1 + (nI 1) := ⟨_, rfl⟩
        have h := h i9 ei9
        refine lv_iinc (v := i9) (lv' := [(3, .int i9), (4, .int i5), (2, .int i2), (0, .long v0)]) hx hb dX6_longestCycle_35 hl (k := 1) rfl (by rw [ei9]; rfl) (by decide) rfl (fun ls hl => ?_)
        refine lv_goto (tgt := 4) hx hb dX6_longestCycle_38 (by decide) ?_
        exact ih4 (i9, i2) _ h (lv_sub hl [0, 2, 3] rfl)
      · have h := h.2 c8
        refine lv_iload hx hb dX6_longestCycle_32 (lv_at hl 0 rfl) ?_
        refine lv_istore_n (lv' := [(2, .int i5), (4, .int i5), (3, .int i1), (0, .long v0)]) hx hb dX6_longestCycle_34 rfl hl (by decide) rfl (fun ls hl => ?_)
        obtain ⟨i10, ei10⟩ : ∃ y : Int32, y = i1 + (nI 1) := ⟨_, rfl⟩
        have h := h i10 ei10
        refine lv_iinc (v := i10) (lv' := [(3, .int i10), (2, .int i5), (4, .int i5), (0, .long v0)]) hx hb dX6_longestCycle_35 hl (k := 2) rfl (by rw [ei10]; rfl) (by decide) rfl (fun ls hl => ?_)
        refine lv_goto (tgt := 4) hx hb dX6_longestCycle_38 (by decide) ?_
        exact ih4 (i10, i5) _ h (lv_sub hl [0, 1, 3] rfl)
theorem hdS_X6_crossings : yX6_crossings.cls ≠ "java/lang/invoke/MethodHandle" ∧ yX6_crossings.cls ≠ "java/lang/invoke/VarHandle" ∧ (parseMethodDescriptor yX6_crossings.desc).map (fun d => d.parameters.length) = some 1 := by decide +kernel
set_option maxHeartbeats 4000000 in
set_option maxRecDepth 100000 in
theorem c_X6_crossings (l : Launch) (v0 : Int64) (Post : Int32 → Prop) (h : wp_X6_crossings v0 Post) : Met l yX6_crossings wsX6_crossings ({ frames := 1, cells := 0, slots := 0, locals := 22 }) (va_Pc [.long v0] NZ) (vp_Si Post) 0 0 (fun _ => False) := by
  refine Met.ofW (cc := cX6_crossings) (maxL := 5) (ret := (some .int)) (by decide) rfl ?_
  intro p e s m args below meth c s₁ B hml hv
  obtain ⟨rfl, hZ⟩ := hv
  have hx := B.exec
  have hb := B.bytes
  have hr := B.returns
  have hts := atoms_spec (ws := wsX6_crossings) B.pre
  have hown : s.vm.findClass RX6 = some m.cls := findClass_of_methodNamed B.named
  have hlocks := B.notSynchronized
  have CF : CallFix p m c cX6_crossings 5 s ([.long v0] : List Value).toArray wsX6_crossings RX6 := ⟨hx, hb, hml, hown, hts⟩
  have hl := lv_entry ([.long v0]) (n := 5) (Nat.le_of_ble_eq_true rfl)
  rw [lg_entry_eq]
  generalize (lg_sl ([.long v0]) ++ List.replicate (5 - (lg_sl ([.long v0])).length) Slot.unset).toArray = ls at hl ⊢
  have hl : lv_has ls 5 [(0, .long v0)] := hl
  unfold wp_X6_crossings at h
  refine lv_iconst (v := (nI 0)) hx hb dX6_crossings_0 (by decide) ?_
  refine lv_istore_n (lv' := [(2, .int (nI 0)), (0, .long v0)]) hx hb dX6_crossings_1 rfl hl (by decide) rfl (fun ls hl => ?_)
  refine lv_iconst (v := (nI 0)) hx hb dX6_crossings_2 (by decide) ?_
  refine lv_istore_n (lv' := [(3, .int (nI 0)), (2, .int (nI 0)), (0, .long v0)]) hx hb dX6_crossings_3 rfl hl (by decide) rfl (fun ls hl => ?_)
  obtain ⟨n16, h⟩ := h
  refine lp_P (nL := 5) (fun q => [(3, .int q.1), (2, .int q.2), (0, .long v0)]) h (lv_sub hl [0, 1, 2] rfl) (fun K4 ih4 q ls h hl => ?_)
  obtain ⟨i1, i2⟩ := q
  have h : wpb_X6_crossings_4 v0 Post K4 i1 i2 := h
  have hl : lv_has ls 5 [(3, .int i1), (2, .int i2), (0, .long v0)] := hl
  unfold wpb_X6_crossings_4 at h
  refine lv_iload_n hx hb dX6_crossings_4 rfl (lv_at hl 0 rfl) ?_
  refine lv_bipush (v := (nI 12)) hx hb dX6_crossings_5 (by decide) ?_
  refine lv_icmp_ge (tgt := 51) hx hb dX6_crossings_7 (by decide) (fun c3 => ?_) (fun c3 => ?_)
  · have h := h.1 c3
    refine lv_iload_n hx hb dX6_crossings_51 rfl (lv_at hl 1 rfl) ?_
    exact W.iret hx hb hr (fun t ht hW => ⟨i2, rfl, h, ht⟩) no_locs dX6_crossings_52
  · have h := h.2 c3
    refine lv_iload_n hx hb dX6_crossings_10 rfl (lv_at hl 0 rfl) ?_
    refine lv_iconst (v := (nI 1)) hx hb dX6_crossings_11 (by decide) ?_
    refine lv_iadd hx hb dX6_crossings_12 ?_
    refine lv_topi (fun i4 ei4 => ?_)
    have h := h i4 ei4
    refine lv_istore (lv' := [(4, .int i4), (3, .int i1), (2, .int i2), (0, .long v0)]) hx hb dX6_crossings_13 hl (by decide) rfl (fun ls hl => ?_)
    obtain ⟨n15, h⟩ := h
    refine lp_P (nL := 5) (fun q => [(4, .int q.1), (3, .int i1), (2, .int q.2), (0, .long v0)]) h (lv_sub hl [0, 1, 2, 3] rfl) (fun K15 ih15 q ls h hl => ?_)
    obtain ⟨i5, i6⟩ := q
    have h : wpb_X6_crossings_15 v0 i1 K4 K15 i5 i6 := h
    have hl : lv_has ls 5 [(4, .int i5), (3, .int i1), (2, .int i6), (0, .long v0)] := hl
    unfold wpb_X6_crossings_15 at h
    refine lv_iload hx hb dX6_crossings_15 (lv_at hl 0 rfl) ?_
    refine lv_bipush (v := (nI 12)) hx hb dX6_crossings_17 (by decide) ?_
    refine lv_icmp_ge (tgt := 45) hx hb dX6_crossings_19 (by decide) (fun c7 => ?_) (fun c7 => ?_)
    · have h := h.1 c7
      obtain ⟨i8, ei8⟩ : ∃ y : Int32, y = i1 + (nI 1) := ⟨_, rfl⟩
      have h := h i8 ei8
      refine lv_iinc (v := i8) (lv' := [(3, .int i8), (4, .int i5), (2, .int i6), (0, .long v0)]) hx hb dX6_crossings_45 hl (k := 1) rfl (by rw [ei8]; rfl) (by decide) rfl (fun ls hl => ?_)
      refine lv_goto (tgt := 4) hx hb dX6_crossings_48 (by decide) ?_
      exact ih4 (i8, i6) _ h (lv_sub hl [0, 2, 3] rfl)
    · have h := h.2 c7
      refine lv_lload_n hx hb dX6_crossings_22 rfl (lv_at hl 3 rfl) ?_
      refine lv_iload_n hx hb dX6_crossings_23 rfl (lv_at hl 1 rfl) ?_
      refine cS_si (As := [.long v0, .int i1]) (rest := []) (n := 2) CF hZ (c_X4_at l v0 i1 _ h) (va_cwS 2 hts gX6_crossings_X4_at rfl rfl rfl hdS_X4_at ⟨Nat.le_of_ble_eq_true rfl, Nat.le_of_ble_eq_true rfl⟩) rfl hl.1 rfl (Nat.le_of_ble_eq_true rfl) dX6_crossings_24 ⟨(Nat.le_of_ble_eq_true rfl), (Nat.le_of_ble_eq_true rfl)⟩ (fun i9 h => ?_)
      refine lv_lload_n hx hb dX6_crossings_27 rfl (lv_at hl 3 rfl) ?_
      refine lv_iload hx hb dX6_crossings_28 (lv_at hl 0 rfl) ?_
      refine cS_si (As := [.long v0, .int i5]) (rest := [.int i9]) (n := 2) CF hZ (c_X4_at l v0 i5 _ h) (va_cwS 2 hts gX6_crossings_X4_at rfl rfl rfl hdS_X4_at ⟨Nat.le_of_ble_eq_true rfl, Nat.le_of_ble_eq_true rfl⟩) rfl hl.1 rfl (Nat.le_of_ble_eq_true rfl) dX6_crossings_30 ⟨(Nat.le_of_ble_eq_true rfl), (Nat.le_of_ble_eq_true rfl)⟩ (fun i10 h => ?_)
      refine lv_icmp_le (tgt := 39) hx hb dX6_crossings_33 (by decide) (fun c11 => ?_) (fun c11 => ?_)
      · have h := h.1 c11
        obtain ⟨i12, ei12⟩ : ∃ y : Int32, y = i5 + (nI 1) := ⟨_, rfl⟩
        have h := h i12 ei12
        refine lv_iinc (v := i12) (lv' := [(4, .int i12), (3, .int i1), (2, .int i6), (0, .long v0)]) hx hb dX6_crossings_39 hl (k := 0) rfl (by rw [ei12]; rfl) (by decide) rfl (fun ls hl => ?_)
        refine lv_goto (tgt := 15) hx hb dX6_crossings_42 (by decide) ?_
        exact ih15 (i12, i6) _ h (lv_sub hl [0, 1, 2, 3] rfl)
      · have h := h.2 c11
        obtain ⟨i13, ei13⟩ : ∃ y : Int32, y = i6 + (nI 1) := ⟨_, rfl⟩
        have h := h i13 ei13
        refine lv_iinc (v := i13) (lv' := [(2, .int i13), (4, .int i5), (3, .int i1), (0, .long v0)]) hx hb dX6_crossings_36 hl (k := 2) rfl (by rw [ei13]; rfl) (by decide) rfl (fun ls hl => ?_)
        obtain ⟨i14, ei14⟩ : ∃ y : Int32, y = i5 + (nI 1) := ⟨_, rfl⟩
        have h := h i14 ei14
        refine lv_iinc (v := i14) (lv' := [(4, .int i14), (2, .int i13), (3, .int i1), (0, .long v0)]) hx hb dX6_crossings_39 hl (k := 1) rfl (by rw [ei14]; rfl) (by decide) rfl (fun ls hl => ?_)
        refine lv_goto (tgt := 15) hx hb dX6_crossings_42 (by decide) ?_
        exact ih15 (i14, i13) _ h (lv_sub hl [0, 2, 1, 3] rfl)
theorem hdS_X7_init : yX7_init.cls ≠ "java/lang/invoke/MethodHandle" ∧ yX7_init.cls ≠ "java/lang/invoke/VarHandle" ∧ (parseMethodDescriptor yX7_init.desc).map (fun d => d.parameters.length) = some 0 := by decide +kernel
set_option maxHeartbeats 4000000 in
set_option maxRecDepth 100000 in
theorem c_X7_init (l : Launch) (D : va_G) (Y : Nat → ClassId) (L : List Nat) (S : PS) (sz : Nat) (a0 : Nat) (Post : PS → Prop) (h : wp_X7_init S a0 Post) : Met l yX7_init wsX7_init ({ frames := 3, cells := 26, slots := 1589, locals := 53 }) (va_Pc [.ref a0] (PrO D Y L S sz)) (va_Qv Post (QtO D Y (fR L sz)) (fR L sz)) 26 1589 (fR L sz) := by
  refine Met.ofW (cc := cX7_init) (maxL := 1) (ret := none) (by decide) rfl ?_
  intro p e s m args below meth c s₁ B hml hv
  obtain ⟨rfl, hsz, hJ, hP, hK, hD0, hZ⟩ := hv
  have hx := B.exec
  have hb := B.bytes
  have hr := B.returns
  have hts := atoms_spec (ws := wsX7_init) B.pre
  have hown : s.vm.findClass RX7 = some m.cls := findClass_of_methodNamed B.named
  have hlocks := B.notSynchronized
  have hin : meth.name = "<init>" := (name_of_methodNamed B.named B.method).1
  have CF : CallFix p m c cX7_init 1 s ([.ref a0] : List Value).toArray wsX7_init RX7 := ⟨hx, hb, hml, hown, hts⟩
  have C : CX p m c cX7_init 1 s ([.ref a0] : List Value).toArray wsX7_init RX7 D Y := ⟨CF, hK, hZ⟩
  have hO : HO D Y (fR L sz) s.heap S s.heap [] := HO.entry hsz hJ hP hD0
  subst hsz
  have inX0 : ∀ w ∈ wsX00, w ∈ wsX7_init := fun w h => List.mem_cons_of_mem _ (List.mem_append_right _ h)
  have inX1 : ∀ w ∈ wsX10, w ∈ wsX7_init := fun w h => List.mem_cons_of_mem _ (List.mem_append_left _ (List.mem_append_left _ (List.mem_append_left _ (List.mem_append_left _ (List.mem_append_left _ (List.mem_append_right _ h))))))
  have inX2 : ∀ w ∈ wsX20, w ∈ wsX7_init := fun w h => List.mem_cons_of_mem _ (List.mem_append_left _ (List.mem_append_left _ (List.mem_append_right _ h)))
  have inX3 : ∀ w ∈ wsX30, w ∈ wsX7_init := fun w h => List.mem_cons_of_mem _ (List.mem_append_left _ (List.mem_append_left _ (List.mem_append_left _ (List.mem_append_right _ h))))
  have inX5 : ∀ w ∈ wsX50, w ∈ wsX7_init := fun w h => List.mem_cons_of_mem _ (List.mem_append_left _ (List.mem_append_right _ h))
  have inX7 : ∀ w ∈ wsX70, w ∈ wsX7_init := fun w h => List.mem_cons_of_mem _ (List.mem_append_left _ (List.mem_append_left _ (List.mem_append_left _ (List.mem_append_left _ (List.mem_append_right _ h)))))
  have hl := lv_entry ([.ref a0]) (n := 1) (Nat.le_of_ble_eq_true rfl)
  rw [lg_entry_eq]
  generalize (lg_sl ([.ref a0]) ++ List.replicate (1 - (lg_sl ([.ref a0])).length) Slot.unset).toArray = ls at hl ⊢
  have hl : lv_has ls 1 [(0, .ref a0)] := hl
  unfold wp_X7_init at h
  refine lv_aload_n hx hb dX7_init_0 rfl (lv_at hl 0 rfl) ?_
  refine W.objInit hx hb hown (hts _ (List.mem_of_getElem? (i := 1) (by decide +kernel : wsX7_init[1]? = some (Cond.methodLink RX7 1 objectInit)))) (hts _ (List.mem_of_getElem? (i := 2) (by decide +kernel : wsX7_init[2]? = some (Cond.instanceMethod objectInit)))) (hts _ (List.mem_of_getElem? (i := 3) (by decide +kernel : wsX7_init[3]? = some (Cond.code objectInit ⟨#[0xb1]⟩ 1 none)))) rfl (by rw [hml]; exact hl.1) rfl dX7_init_1 (Nat.le_of_ble_eq_true rfl) (Nat.le_of_ble_eq_true rfl) ?_
  refine W.eq (g2 := F0 m 4 ls []) rfl ?_
  refine lv_aload_n hx hb dX7_init_4 rfl (lv_at hl 0 rfl) ?_
  refine r_new C hO 1 [.long 0, .long 0, .long 0, .null, .null, .int 0, .int 0] rfl inX1 tyX1_ok (fun j hj => by have hj : j < 7 := hj; rcases (show j = 0 ∨ j = 1 ∨ j = 2 ∨ j = 3 ∨ j = 4 ∨ j = 5 ∨ j = 6 by omega) with rfl | rfl | rfl | rfl | rfl | rfl | rfl <;> rfl) (N := 7) rfl (List.mem_of_getElem? (i := 4) (by decide +kernel)) (List.mem_of_getElem? (i := 5) (by decide +kernel)) (List.mem_of_getElem? (i := 6) (by decide +kernel)) (Nat.le_of_ble_eq_true rfl) (Nat.le_of_ble_eq_true rfl) dX7_init_5 (fun a1 H hqa1 hO => ?_)
  obtain ⟨S2, eS2⟩ : ∃ Sx, Sx = va_up S a1 (.inl (1, [.long 0, .long 0, .long 0, .null, .null, .int 0, .int 0])) := ⟨_, rfl⟩
  rw [← eS2] at hO
  have h := h a1 hqa1 S2 eS2
  refine lv_dup hx hb dX7_init_8 rfl ?_
  obtain ⟨e4, h⟩ := h
  refine cI_wv (As := []) (rest := [.ref a1, .ref a0]) (n := 0) C hO (fun L => c_X1_init l D Y L S2 H.size a1 _ h) e4 (cwI 0 hts gX7_init_X1_init rfl rfl rfl (hts _ (List.mem_of_getElem? (i := 6) (by decide +kernel : wsX7_init[6]? = some (Cond.initialized RX1)))) (hts _ (List.mem_of_getElem? (i := 25) (by decide +kernel : wsX7_init[25]? = some (Cond.methodLink RX7 9 yX1_init)))) (hts _ (List.mem_of_getElem? (i := 26) (by decide +kernel : wsX7_init[26]? = some (Cond.instanceMethod yX1_init)))) rfl hdS_X1_init ⟨Nat.le_of_ble_eq_true rfl, Nat.le_of_ble_eq_true rfl⟩) rfl hl.1 rfl (Nat.le_of_ble_eq_true rfl) dX7_init_9 ⟨(Nat.le_of_ble_eq_true rfl), (Nat.le_of_ble_eq_true rfl)⟩ (fun S3 H locs h hO => ?_)
  obtain ⟨fs5, e6, e6', h⟩ := h
  refine r_putF C hO 5 0 hin rfl inX7 tyX7_ok nmX7 (Nat.le_of_ble_eq_true rfl) rfl rfl rfl rfl e6 e6' (List.mem_of_getElem? (i := 7) (by decide +kernel)) dX7_init_12 (fun H locs hO => ?_)
  obtain ⟨S7, eS7⟩ : ∃ Sx, Sx = va_up S3 a0 (.inl (5, fs5.set 0 (.ref a1))) := ⟨_, rfl⟩
  rw [← eS7] at hO
  have h := h S7 eS7
  refine lv_aload_n hx hb dX7_init_15 rfl (lv_at hl 0 rfl) ?_
  refine r_new C hO 3 [.null, .int 0] rfl inX3 tyX3_ok (fun j hj => by have hj : j < 2 := hj; rcases (show j = 0 ∨ j = 1 by omega) with rfl | rfl <;> rfl) (N := 2) rfl (List.mem_of_getElem? (i := 8) (by decide +kernel)) (List.mem_of_getElem? (i := 9) (by decide +kernel)) (List.mem_of_getElem? (i := 10) (by decide +kernel)) (Nat.le_of_ble_eq_true rfl) (Nat.le_of_ble_eq_true rfl) dX7_init_16 (fun a8 H hqa8 hO => ?_)
  obtain ⟨S9, eS9⟩ : ∃ Sx, Sx = va_up S7 a8 (.inl (3, [.null, .int 0])) := ⟨_, rfl⟩
  rw [← eS9] at hO
  have h := h a8 hqa8 S9 eS9
  refine lv_dup hx hb dX7_init_19 rfl ?_
  obtain ⟨e11, h⟩ := h
  refine cIN_wv (As := []) (rest := [.ref a8, .ref a0]) (n := 0) C hO (fun L => c_X3_init l D Y L S9 H.size a8 _ h) e11 ⟨va_cnB 0 hts gX7_init_X3_init_n18 rfl rfl rfl (hZ.nest 1 rfl) (hts _ (List.mem_of_getElem? (i := 10) (by decide +kernel : wsX7_init[10]? = some (Cond.initialized RX3)))) hdS_X3_init ⟨Nat.le_of_ble_eq_true rfl, Nat.le_of_ble_eq_true rfl⟩, rfl, (hts _ (List.mem_of_getElem? (i := 45) (by decide +kernel : wsX7_init[45]? = some (Cond.instanceMethod yX3_init))))⟩ rfl hl.1 rfl (Nat.le_of_ble_eq_true rfl) dX7_init_20 ⟨(Nat.le_of_ble_eq_true rfl), (Nat.le_of_ble_eq_true rfl)⟩ (fun S10 H locs h hO => ?_)
  obtain ⟨fs12, e13, e13', h⟩ := h
  refine r_putF C hO 5 1 hin rfl inX7 tyX7_ok nmX7 (Nat.le_of_ble_eq_true rfl) rfl rfl rfl rfl e13 e13' (List.mem_of_getElem? (i := 11) (by decide +kernel)) dX7_init_23 (fun H locs hO => ?_)
  obtain ⟨S14, eS14⟩ : ∃ Sx, Sx = va_up S10 a0 (.inl (5, fs12.set 1 (.ref a8))) := ⟨_, rfl⟩
  rw [← eS14] at hO
  have h := h S14 eS14
  refine lv_aload_n hx hb dX7_init_26 rfl (lv_at hl 0 rfl) ?_
  refine lv_iconst (v := (nI 2)) hx hb dX7_init_27 (by decide) ?_
  refine r_anew (k := 4) (Cn := RX1) (N' := 2) C hO rfl hZ.2.2 (List.mem_of_getElem? (i := 4) (by decide +kernel)) (by decide) (by decide) (Nat.le_of_ble_eq_true rfl) (Nat.le_of_ble_eq_true rfl) (Nat.le_of_ble_eq_true rfl) dX7_init_28 (fun a15 H hqa15 hO => ?_)
  obtain ⟨S16, eS16⟩ : ∃ Sx, Sx = va_up S14 a15 (aL 2 (fun _ => none)) := ⟨_, rfl⟩
  have hO := (show HO D Y (fR L s.heap.size) s.heap (va_up S14 a15 (aL 2 (fun _ => none))) H _ from hO)
  rw [← eS16] at hO
  have h := h a15 hqa15 S16 eS16
  obtain ⟨fs17, e18, e18', h⟩ := h
  refine r_putF C hO 5 2 hin rfl inX7 tyX7_ok nmX7 (Nat.le_of_ble_eq_true rfl) rfl rfl rfl rfl e18 e18' (List.mem_of_getElem? (i := 12) (by decide +kernel)) dX7_init_31 (fun H locs hO => ?_)
  obtain ⟨S19, eS19⟩ : ∃ Sx, Sx = va_up S16 a0 (.inl (5, fs17.set 2 (.ref a15))) := ⟨_, rfl⟩
  rw [← eS19] at hO
  have h := h S19 eS19
  refine lv_aload_n hx hb dX7_init_34 rfl (lv_at hl 0 rfl) ?_
  refine r_new C hO 2 [.null, .int 0] rfl inX2 tyX2_ok (fun j hj => by have hj : j < 2 := hj; rcases (show j = 0 ∨ j = 1 by omega) with rfl | rfl <;> rfl) (N := 2) rfl (List.mem_of_getElem? (i := 13) (by decide +kernel)) (List.mem_of_getElem? (i := 14) (by decide +kernel)) (List.mem_of_getElem? (i := 15) (by decide +kernel)) (Nat.le_of_ble_eq_true rfl) (Nat.le_of_ble_eq_true rfl) dX7_init_35 (fun a20 H hqa20 hO => ?_)
  obtain ⟨S21, eS21⟩ : ∃ Sx, Sx = va_up S19 a20 (.inl (2, [.null, .int 0])) := ⟨_, rfl⟩
  rw [← eS21] at hO
  have h := h a20 hqa20 S21 eS21
  refine lv_dup hx hb dX7_init_38 rfl ?_
  obtain ⟨e23, h⟩ := h
  refine cIN_wv (As := []) (rest := [.ref a20, .ref a0]) (n := 0) C hO (fun L => c_X2_init l D Y L S21 H.size a20 _ h) e23 ⟨va_cnB 0 hts gX7_init_X2_init_n29 rfl rfl rfl (hZ.nest 2 rfl) (hts _ (List.mem_of_getElem? (i := 15) (by decide +kernel : wsX7_init[15]? = some (Cond.initialized RX2)))) hdS_X2_init ⟨Nat.le_of_ble_eq_true rfl, Nat.le_of_ble_eq_true rfl⟩, rfl, (hts _ (List.mem_of_getElem? (i := 51) (by decide +kernel : wsX7_init[51]? = some (Cond.instanceMethod yX2_init))))⟩ rfl hl.1 rfl (Nat.le_of_ble_eq_true rfl) dX7_init_39 ⟨(Nat.le_of_ble_eq_true rfl), (Nat.le_of_ble_eq_true rfl)⟩ (fun S22 H locs h hO => ?_)
  obtain ⟨fs24, e25, e25', h⟩ := h
  refine r_putF C hO 5 3 hin rfl inX7 tyX7_ok nmX7 (Nat.le_of_ble_eq_true rfl) rfl rfl rfl rfl e25 e25' (List.mem_of_getElem? (i := 16) (by decide +kernel)) dX7_init_42 (fun H locs hO => ?_)
  obtain ⟨S26, eS26⟩ : ∃ Sx, Sx = va_up S22 a0 (.inl (5, fs24.set 3 (.ref a20))) := ⟨_, rfl⟩
  rw [← eS26] at hO
  have h := h S26 eS26
  refine lv_aload_n hx hb dX7_init_45 rfl (lv_at hl 0 rfl) ?_
  refine r_new C hO 4 [.null, .int 0, .null, .int 0, .null] rfl inX5 tyX5_ok (fun j hj => by have hj : j < 5 := hj; rcases (show j = 0 ∨ j = 1 ∨ j = 2 ∨ j = 3 ∨ j = 4 by omega) with rfl | rfl | rfl | rfl | rfl <;> rfl) (N := 5) rfl (List.mem_of_getElem? (i := 17) (by decide +kernel)) (List.mem_of_getElem? (i := 18) (by decide +kernel)) (List.mem_of_getElem? (i := 19) (by decide +kernel)) (Nat.le_of_ble_eq_true rfl) (Nat.le_of_ble_eq_true rfl) dX7_init_46 (fun a27 H hqa27 hO => ?_)
  obtain ⟨S28, eS28⟩ : ∃ Sx, Sx = va_up S26 a27 (.inl (4, [.null, .int 0, .null, .int 0, .null])) := ⟨_, rfl⟩
  rw [← eS28] at hO
  have h := h a27 hqa27 S28 eS28
  refine lv_dup hx hb dX7_init_49 rfl ?_
  obtain ⟨e30, h⟩ := h
  refine cIN_wv (As := []) (rest := [.ref a27, .ref a0]) (n := 0) C hO (fun L => c_X5_init l D Y L S28 H.size a27 _ h) e30 ⟨va_cnB 0 hts gX7_init_X5_init_n36 rfl rfl rfl (hZ.nest 3 rfl) (hts _ (List.mem_of_getElem? (i := 19) (by decide +kernel : wsX7_init[19]? = some (Cond.initialized RX5)))) hdS_X5_init ⟨Nat.le_of_ble_eq_true rfl, Nat.le_of_ble_eq_true rfl⟩, rfl, (hts _ (List.mem_of_getElem? (i := 57) (by decide +kernel : wsX7_init[57]? = some (Cond.instanceMethod yX5_init))))⟩ rfl hl.1 rfl (Nat.le_of_ble_eq_true rfl) dX7_init_50 ⟨(Nat.le_of_ble_eq_true rfl), (Nat.le_of_ble_eq_true rfl)⟩ (fun S29 H locs h hO => ?_)
  obtain ⟨fs31, e32, e32', h⟩ := h
  refine r_putF C hO 5 4 hin rfl inX7 tyX7_ok nmX7 (Nat.le_of_ble_eq_true rfl) rfl rfl rfl rfl e32 e32' (List.mem_of_getElem? (i := 20) (by decide +kernel)) dX7_init_53 (fun H locs hO => ?_)
  obtain ⟨S33, eS33⟩ : ∃ Sx, Sx = va_up S29 a0 (.inl (5, fs31.set 4 (.ref a27))) := ⟨_, rfl⟩
  rw [← eS33] at hO
  have h := h S33 eS33
  refine lv_aload_n hx hb dX7_init_56 rfl (lv_at hl 0 rfl) ?_
  refine r_new C hO 0 [.null, .int 0] rfl inX0 tyX0_ok (fun j hj => by have hj : j < 2 := hj; rcases (show j = 0 ∨ j = 1 by omega) with rfl | rfl <;> rfl) (N := 2) rfl (List.mem_of_getElem? (i := 21) (by decide +kernel)) (List.mem_of_getElem? (i := 22) (by decide +kernel)) (List.mem_of_getElem? (i := 23) (by decide +kernel)) (Nat.le_of_ble_eq_true rfl) (Nat.le_of_ble_eq_true rfl) dX7_init_57 (fun a34 H hqa34 hO => ?_)
  obtain ⟨S35, eS35⟩ : ∃ Sx, Sx = va_up S33 a34 (.inl (0, [.null, .int 0])) := ⟨_, rfl⟩
  rw [← eS35] at hO
  have h := h a34 hqa34 S35 eS35
  refine lv_dup hx hb dX7_init_60 rfl ?_
  obtain ⟨e37, h⟩ := h
  refine cIN_wv (As := []) (rest := [.ref a34, .ref a0]) (n := 0) C hO (fun L => c_X0_init l D Y L S35 H.size a34 _ h) e37 ⟨va_cnB 0 hts gX7_init_X0_init_n43 rfl rfl rfl (hZ.nest 4 rfl) (hts _ (List.mem_of_getElem? (i := 23) (by decide +kernel : wsX7_init[23]? = some (Cond.initialized RX0)))) hdS_X0_init ⟨Nat.le_of_ble_eq_true rfl, Nat.le_of_ble_eq_true rfl⟩, rfl, (hts _ (List.mem_of_getElem? (i := 40) (by decide +kernel : wsX7_init[40]? = some (Cond.instanceMethod yX0_init))))⟩ rfl hl.1 rfl (Nat.le_of_ble_eq_true rfl) dX7_init_61 ⟨(Nat.le_of_ble_eq_true rfl), (Nat.le_of_ble_eq_true rfl)⟩ (fun S36 H locs h hO => ?_)
  obtain ⟨fs38, e39, e39', h⟩ := h
  refine r_putF C hO 5 5 hin rfl inX7 tyX7_ok nmX7 (Nat.le_of_ble_eq_true rfl) rfl rfl rfl rfl e39 e39' (List.mem_of_getElem? (i := 24) (by decide +kernel)) dX7_init_64 (fun H locs hO => ?_)
  obtain ⟨S40, eS40⟩ : ∃ Sx, Sx = va_up S36 a0 (.inl (5, fs38.set 5 (.ref a34))) := ⟨_, rfl⟩
  rw [← eS40] at hO
  have h := h S40 eS40
  exact W.vret hx hb hr (fun t ht hW => ⟨⟨S40, rfl, h, hO.q ht⟩, hO.f ht⟩) hO.lc dX7_init_67
