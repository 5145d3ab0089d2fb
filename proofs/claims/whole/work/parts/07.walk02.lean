theorem hdS_X3_keep : yX3_keep.cls ≠ "java/lang/invoke/MethodHandle" ∧ yX3_keep.cls ≠ "java/lang/invoke/VarHandle" ∧ (parseMethodDescriptor yX3_keep.desc).map (fun d => d.parameters.length) = some 1 := by decide +kernel
set_option maxHeartbeats 4000000 in
set_option maxRecDepth 100000 in
theorem c_X3_keep (l : Launch) (D : va_G) (Y : Nat → ClassId) (L : List Nat) (S : PS) (sz : Nat) (a0 : Nat) (v1 : Nat) (Post : PS → Prop) (h : wp_X3_keep S a0 v1 Post) : Met l yX3_keep wsX3_keep ({ frames := 3, cells := 15, slots := 175, locals := 63 }) (va_Pc [.ref a0, .ref v1] (PrO D Y L S sz)) (va_Qv Post (QtO D Y (fR L sz)) (fR L sz)) 15 175 (fR L sz) := by
  refine Met.ofW (cc := cX3_keep) (maxL := 3) (ret := none) (by decide) rfl ?_
  intro p e s m args below meth c s₁ B hml hv
  obtain ⟨rfl, hsz, hJ, hP, hK, hD0, hZ⟩ := hv
  have hx := B.exec
  have hb := B.bytes
  have hr := B.returns
  have hts := atoms_spec (ws := wsX3_keep) B.pre
  have hown : s.vm.findClass RX3 = some m.cls := findClass_of_methodNamed B.named
  have hlocks := B.notSynchronized
  have CF : CallFix p m c cX3_keep 3 s ([.ref a0, .ref v1] : List Value).toArray wsX3_keep RX3 := ⟨hx, hb, hml, hown, hts⟩
  have C : CX p m c cX3_keep 3 s ([.ref a0, .ref v1] : List Value).toArray wsX3_keep RX3 D Y := ⟨CF, hK, hZ⟩
  have hO : HO D Y (fR L sz) s.heap S s.heap [] := HO.entry hsz hJ hP hD0
  subst hsz
  have inX1 : ∀ w ∈ wsX10, w ∈ wsX3_keep := fun w h => List.mem_cons_of_mem _ (List.mem_append_left _ (List.mem_append_right _ h))
  have inX3 : ∀ w ∈ wsX30, w ∈ wsX3_keep := fun w h => List.mem_cons_of_mem _ (List.mem_append_left _ (List.mem_append_left _ (List.mem_append_right _ h)))
  have hl := lv_entry ([.ref a0, .ref v1]) (n := 3) (Nat.le_of_ble_eq_true rfl)
  rw [lg_entry_eq]
  generalize (lg_sl ([.ref a0, .ref v1]) ++ List.replicate (3 - (lg_sl ([.ref a0, .ref v1])).length) Slot.unset).toArray = ls at hl ⊢
  have hl : lv_has ls 3 [(0, .ref a0), (1, .ref v1)] := hl
  unfold wp_X3_keep at h
  refine lv_aload_n hx hb dX3_keep_0 rfl (lv_at hl 0 rfl) ?_
  obtain ⟨fs1, i2, e3, e3', h⟩ := h
  refine r_get C hO 3 1 rfl inX3 (Nat.le_of_ble_eq_true rfl) e3 e3' (List.mem_of_getElem? (i := 1) (by decide +kernel)) dX3_keep_1 ?_
  refine lv_bipush (v := (nI 6)) hx hb dX3_keep_4 (by decide) ?_
  refine cut_W D Y (fR L s.heap.size) s.heap (nL := 3) (fun (q : PS) => wpk_X3_keep_13 a0 v1 Post q) (fun q => [(0, .ref a0), (1, .ref v1)]) (fun q => q) 13 ?_ (fun kc13 => ?_)
  · intro q ls H locs h hl hO
    obtain ⟨S4, rfl⟩ : ∃ z, z = q := ⟨q, rfl⟩
    have h : wpk_X3_keep_13 a0 v1 Post S4 := h
    have hl : lv_has ls 3 [(0, .ref a0), (1, .ref v1)] := hl
    have hO : HO D Y (fR L s.heap.size) s.heap S4 H locs := hO
    unfold wpk_X3_keep_13 at h
    refine lv_aload_n hx hb dX3_keep_13 rfl (lv_at hl 0 rfl) ?_
    obtain ⟨fs5, i6, e7, e7', h⟩ := h
    refine r_get C hO 3 1 rfl inX3 (Nat.le_of_ble_eq_true rfl) e7 e7' (List.mem_of_getElem? (i := 1) (by decide +kernel)) dX3_keep_14 ?_
    refine lv_bipush (v := (nI 6)) hx hb dX3_keep_17 (by decide) ?_
    refine cN_si (As := [.int i6, .int (nI 6)]) (rest := []) (n := 2) CF hZ (c_X7_isBelow l i6 (nI 6) _ h) ⟨va_cnB 2 hts gX3_keep_X7_isBelow_n24 rfl rfl rfl (hZ.nest 5 rfl) (hts _ (List.mem_of_getElem? (i := 12) (by decide +kernel : wsX3_keep[12]? = some (Cond.initialized RX7)))) hdS_X7_isBelow ⟨Nat.le_of_ble_eq_true rfl, Nat.le_of_ble_eq_true rfl⟩, (hts _ (List.mem_of_getElem? (i := 11) (by decide +kernel : wsX3_keep[11]? = some (Cond.static yX7_isBelow)))), trivial⟩ rfl hl.1 rfl (Nat.le_of_ble_eq_true rfl) dX3_keep_19 ⟨Nat.le_of_ble_eq_true rfl, Nat.le_of_ble_eq_true rfl⟩ (fun i8 h => ?_)
    refine lv_if_ne (tgt := 26) hx hb dX3_keep_22 (by decide) (fun c9 => ?_) (fun c9 => ?_)
    · have h := h.2 c9
      refine lv_aload_n hx hb dX3_keep_26 rfl (lv_at hl 0 rfl) ?_
      obtain ⟨fs10, a11, e12, e12', h⟩ := h
      refine r_get C hO 3 0 rfl inX3 (Nat.le_of_ble_eq_true rfl) e12 e12' (List.mem_of_getElem? (i := 2) (by decide +kernel)) dX3_keep_27 ?_
      refine lv_aload_n hx hb dX3_keep_30 rfl (lv_at hl 0 rfl) ?_
      obtain ⟨fs13, i14, e15, e15', h⟩ := h
      refine r_get C hO 3 1 rfl inX3 (Nat.le_of_ble_eq_true rfl) e15 e15' (List.mem_of_getElem? (i := 1) (by decide +kernel)) dX3_keep_31 ?_
      obtain ⟨n16, f17, e18, e18', h⟩ := h
      rcases hrq : f17 (i14).toNatClampNeg with _ | a19
      · have h := h.1 hrq
        refine r_aaldL C hO e18 e18' (congrArg va_rf hrq) dX3_keep_34 ?_
        show W _ _ _ _ _ _ _ _ _ _ _ _ _ _ _ (F0 _ _ _ (.null :: _))
        refine lv_astore_nN (lv' := [(2, .null), (0, .ref a0), (1, .ref v1)]) hx hb dX3_keep_35 rfl hl (by decide) rfl (fun ls hl => ?_)
        refine lv_aload_nN hx hb dX3_keep_36 rfl (lv_at hl 0 rfl) ?_
        refine lv_ifnonnullN hx hb dX3_keep_37 ?_
        refine r_new C hO 1 [.long 0, .long 0, .long 0, .null, .null, .int 0, .int 0] rfl inX1 tyX1_ok (fun j hj => by have hj : j < 7 := hj; rcases (show j = 0 ∨ j = 1 ∨ j = 2 ∨ j = 3 ∨ j = 4 ∨ j = 5 ∨ j = 6 by omega) with rfl | rfl | rfl | rfl | rfl | rfl | rfl <;> rfl) (N := 7) rfl (List.mem_of_getElem? (i := 3) (by decide +kernel)) (List.mem_of_getElem? (i := 4) (by decide +kernel)) (List.mem_of_getElem? (i := 5) (by decide +kernel)) (Nat.le_of_ble_eq_true rfl) (Nat.le_of_ble_eq_true rfl) dX3_keep_40 (fun a20 H hqa20 hO => ?_)
        obtain ⟨S21, eS21⟩ : ∃ Sx, Sx = va_up S4 a20 (.inl (1, [.long 0, .long 0, .long 0, .null, .null, .int 0, .int 0])) := ⟨_, rfl⟩
        rw [← eS21] at hO
        have h := h a20 hqa20 S21 eS21
        refine lv_dup hx hb dX3_keep_43 rfl ?_
        obtain ⟨e23, h⟩ := h
        refine cI_wv (As := []) (rest := [.ref a20]) (n := 0) C hO (fun L => c_X1_init l D Y L S21 H.size a20 _ h) e23 (cwI 0 hts gX3_keep_X1_init rfl rfl rfl (hts _ (List.mem_of_getElem? (i := 5) (by decide +kernel : wsX3_keep[5]? = some (Cond.initialized RX1)))) (hts _ (List.mem_of_getElem? (i := 14) (by decide +kernel : wsX3_keep[14]? = some (Cond.methodLink RX3 28 yX1_init)))) (hts _ (List.mem_of_getElem? (i := 15) (by decide +kernel : wsX3_keep[15]? = some (Cond.instanceMethod yX1_init)))) rfl hdS_X1_init ⟨Nat.le_of_ble_eq_true rfl, Nat.le_of_ble_eq_true rfl⟩) rfl hl.1 rfl (Nat.le_of_ble_eq_true rfl) dX3_keep_44 ⟨Nat.le_of_ble_eq_true rfl, Nat.le_of_ble_eq_true rfl⟩ (fun S22 H locs h hO => ?_)
        refine lv_astore_n (lv' := [(2, .ref a20), (0, .ref a0), (1, .ref v1)]) hx hb dX3_keep_47 rfl hl (by decide) rfl (fun ls hl => ?_)
        refine lv_aload_n hx hb dX3_keep_48 rfl (lv_at hl 0 rfl) ?_
        refine lv_aload_n hx hb dX3_keep_49 rfl (lv_at hl 2 rfl) ?_
        obtain ⟨fs26, e25, h⟩ := h
        refine cV_wv (As := [.ref v1]) (rest := []) (n := 1) C hO (fun L => c_X1_copyFrom l D Y L S22 H.size a20 v1 _ h) 1 rfl e25 (cwV 1 hts gX3_keep_X1_copyFrom rfl rfl rfl ⟨rfl, hdS_X1_copyFrom⟩ ⟨Nat.le_of_ble_eq_true rfl, Nat.le_of_ble_eq_true rfl⟩) rfl hl.1 rfl (Nat.le_of_ble_eq_true rfl) dX3_keep_50 ⟨Nat.le_of_ble_eq_true rfl, Nat.le_of_ble_eq_true rfl⟩ (fun S24 H locs h hO => ?_)
        refine lv_aload_n hx hb dX3_keep_53 rfl (lv_at hl 1 rfl) ?_
        obtain ⟨fs27, a28, e29, e29', h⟩ := h
        refine r_get C hO 3 0 rfl inX3 (Nat.le_of_ble_eq_true rfl) e29 e29' (List.mem_of_getElem? (i := 2) (by decide +kernel)) dX3_keep_54 ?_
        refine lv_aload_n hx hb dX3_keep_57 rfl (lv_at hl 1 rfl) ?_
        obtain ⟨fs30, i31, e32, e32', h⟩ := h
        refine r_get C hO 3 1 rfl inX3 (Nat.le_of_ble_eq_true rfl) e32 e32' (List.mem_of_getElem? (i := 1) (by decide +kernel)) dX3_keep_58 ?_
        refine lv_aload_n hx hb dX3_keep_61 rfl (lv_at hl 0 rfl) ?_
        obtain ⟨n33, f34, vs35, e36, e36', e36v, h⟩ := h
        refine r_aastL C hO e36 e36' e36v dX3_keep_62 (fun H locs hO => ?_)
        obtain ⟨S37, eS37⟩ : ∃ Sx, Sx = va_up S24 a28 (aL n33 (va_up f34 (i31).toNatClampNeg (some a20))) := ⟨_, rfl⟩
        rw [← eS37] at hO
        have h := h S37 eS37
        refine lv_aload_n hx hb dX3_keep_63 rfl (lv_at hl 1 rfl) ?_
        refine lv_dup hx hb dX3_keep_64 rfl ?_
        obtain ⟨fs38, i39, e40, e40', h⟩ := h
        refine r_get C hO 3 1 rfl inX3 (Nat.le_of_ble_eq_true rfl) e40 e40' (List.mem_of_getElem? (i := 1) (by decide +kernel)) dX3_keep_65 ?_
        refine lv_iconst (v := (nI 1)) hx hb dX3_keep_68 (by decide) ?_
        refine lv_iadd hx hb dX3_keep_69 ?_
        obtain ⟨fs41, e42, e42', h⟩ := h
        refine r_put C hO 3 1 rfl inX3 tyX3_ok nmX3 (Nat.le_of_ble_eq_true rfl) rfl rfl rfl e42 e42' (List.mem_of_getElem? (i := 1) (by decide +kernel)) dX3_keep_70 (fun H locs hO => ?_)
        obtain ⟨S43, eS43⟩ : ∃ Sx, Sx = va_up S37 a0 (.inl (3, fs41.set 1 (.int (i39 + (nI 1))))) := ⟨_, rfl⟩
        rw [← eS43] at hO
        have h := h S43 eS43
        exact W.vret hx hb hr (fun t ht hW => ⟨⟨S43, rfl, h, hO.q ht⟩, hO.f ht⟩) hO.lc dX3_keep_73
      · have h := h.2 a19 hrq
        refine r_aaldL C hO e18 e18' (congrArg va_rf hrq) dX3_keep_34 ?_
        show W _ _ _ _ _ _ _ _ _ _ _ _ _ _ _ (F0 _ _ _ (.ref a19 :: _))
        refine lv_astore_n (lv' := [(2, .ref a19), (0, .ref a0), (1, .ref v1)]) hx hb dX3_keep_35 rfl hl (by decide) rfl (fun ls hl => ?_)
        refine lv_aload_n hx hb dX3_keep_36 rfl (lv_at hl 0 rfl) ?_
        refine lv_ifnonnull (tgt := 48) hx hb dX3_keep_37 (by decide) ?_
        refine lv_aload_n hx hb dX3_keep_48 rfl (lv_at hl 0 rfl) ?_
        refine lv_aload_n hx hb dX3_keep_49 rfl (lv_at hl 2 rfl) ?_
        obtain ⟨fs46, e45, h⟩ := h
        refine cV_wv (As := [.ref v1]) (rest := []) (n := 1) C hO (fun L => c_X1_copyFrom l D Y L S4 H.size a19 v1 _ h) 1 rfl e45 (cwV 1 hts gX3_keep_X1_copyFrom rfl rfl rfl ⟨rfl, hdS_X1_copyFrom⟩ ⟨Nat.le_of_ble_eq_true rfl, Nat.le_of_ble_eq_true rfl⟩) rfl hl.1 rfl (Nat.le_of_ble_eq_true rfl) dX3_keep_50 ⟨Nat.le_of_ble_eq_true rfl, Nat.le_of_ble_eq_true rfl⟩ (fun S44 H locs h hO => ?_)
        refine lv_aload_n hx hb dX3_keep_53 rfl (lv_at hl 1 rfl) ?_
        obtain ⟨fs47, a48, e49, e49', h⟩ := h
        refine r_get C hO 3 0 rfl inX3 (Nat.le_of_ble_eq_true rfl) e49 e49' (List.mem_of_getElem? (i := 2) (by decide +kernel)) dX3_keep_54 ?_
        refine lv_aload_n hx hb dX3_keep_57 rfl (lv_at hl 1 rfl) ?_
        obtain ⟨fs50, i51, e52, e52', h⟩ := h
        refine r_get C hO 3 1 rfl inX3 (Nat.le_of_ble_eq_true rfl) e52 e52' (List.mem_of_getElem? (i := 1) (by decide +kernel)) dX3_keep_58 ?_
        refine lv_aload_n hx hb dX3_keep_61 rfl (lv_at hl 0 rfl) ?_
        obtain ⟨n53, f54, vs55, e56, e56', e56v, h⟩ := h
        refine r_aastL C hO e56 e56' e56v dX3_keep_62 (fun H locs hO => ?_)
        obtain ⟨S57, eS57⟩ : ∃ Sx, Sx = va_up S44 a48 (aL n53 (va_up f54 (i51).toNatClampNeg (some a19))) := ⟨_, rfl⟩
        rw [← eS57] at hO
        have h := h S57 eS57
        refine lv_aload_n hx hb dX3_keep_63 rfl (lv_at hl 1 rfl) ?_
        refine lv_dup hx hb dX3_keep_64 rfl ?_
        obtain ⟨fs58, i59, e60, e60', h⟩ := h
        refine r_get C hO 3 1 rfl inX3 (Nat.le_of_ble_eq_true rfl) e60 e60' (List.mem_of_getElem? (i := 1) (by decide +kernel)) dX3_keep_65 ?_
        refine lv_iconst (v := (nI 1)) hx hb dX3_keep_68 (by decide) ?_
        refine lv_iadd hx hb dX3_keep_69 ?_
        obtain ⟨fs61, e62, e62', h⟩ := h
        refine r_put C hO 3 1 rfl inX3 tyX3_ok nmX3 (Nat.le_of_ble_eq_true rfl) rfl rfl rfl e62 e62' (List.mem_of_getElem? (i := 1) (by decide +kernel)) dX3_keep_70 (fun H locs hO => ?_)
        obtain ⟨S63, eS63⟩ : ∃ Sx, Sx = va_up S57 a0 (.inl (3, fs61.set 1 (.int (i59 + (nI 1))))) := ⟨_, rfl⟩
        rw [← eS63] at hO
        have h := h S63 eS63
        refine W.widen (k := 15) (n := 175) (Nat.le_of_ble_eq_true rfl) (Nat.le_of_ble_eq_true rfl) ?_
        exact W.vret hx hb hr (fun t ht hW => ⟨⟨S63, rfl, h, hO.q ht⟩, hO.f ht⟩) hO.lc dX3_keep_73
    · have h := h.1 c9
      refine W.widen (k := 15) (n := 175) (Nat.le_of_ble_eq_true rfl) (Nat.le_of_ble_eq_true rfl) ?_
      exact W.vret hx hb hr (fun t ht hW => ⟨⟨S4, rfl, h, hO.q ht⟩, hO.f ht⟩) hO.lc dX3_keep_25
  refine lv_icmp_lt (tgt := 13) hx hb dX3_keep_6 (by decide) (fun c64 => ?_) (fun c64 => ?_)
  · have h := h.1 c64
    exact kc13 S _ _ _ h (lv_sub hl [0, 1] rfl) hO
  · have h := h.2 c64
    refine lv_aload_n hx hb dX3_keep_9 rfl (lv_at hl 0 rfl) ?_
    obtain ⟨fs67, e66, h⟩ := h
    refine cV_wv (As := []) (rest := []) (n := 0) C hO (fun L => c_X3_dropOldest l D Y L S s.heap.size a0 _ h) 3 rfl e66 (cwV 0 hts gX3_keep_X3_dropOldest rfl rfl rfl ⟨rfl, hdS_X3_dropOldest⟩ ⟨Nat.le_of_ble_eq_true rfl, Nat.le_of_ble_eq_true rfl⟩) rfl hl.1 rfl (Nat.le_of_ble_eq_true rfl) dX3_keep_10 ⟨Nat.le_of_ble_eq_true rfl, Nat.le_of_ble_eq_true rfl⟩ (fun S65 H locs h hO => ?_)
    exact kc13 S65 _ _ _ h (lv_sub hl [0, 1] rfl) hO
theorem hdS_X3_giveBack : yX3_giveBack.cls ≠ "java/lang/invoke/MethodHandle" ∧ yX3_giveBack.cls ≠ "java/lang/invoke/VarHandle" ∧ (parseMethodDescriptor yX3_giveBack.desc).map (fun d => d.parameters.length) = some 1 := by decide +kernel
set_option maxHeartbeats 4000000 in
set_option maxRecDepth 100000 in
theorem c_X3_giveBack (l : Launch) (D : va_G) (Y : Nat → ClassId) (L : List Nat) (S : PS) (sz : Nat) (a0 : Nat) (v1 : Nat) (Post : PS → Prop) (h : wp_X3_giveBack S a0 v1 Post) : Met l yX3_giveBack wsX3_giveBack ({ frames := 3, cells := 0, slots := 0, locals := 63 }) (va_Pc [.ref a0, .ref v1] (PrO D Y L S sz)) (va_Qv Post (QtO D Y (fR L sz)) (fR L sz)) 0 0 (fR L sz) := by
  refine Met.ofW (cc := cX3_giveBack) (maxL := 3) (ret := none) (by decide) rfl ?_
  intro p e s m args below meth c s₁ B hml hv
  obtain ⟨rfl, hsz, hJ, hP, hK, hD0, hZ⟩ := hv
  have hx := B.exec
  have hb := B.bytes
  have hr := B.returns
  have hts := atoms_spec (ws := wsX3_giveBack) B.pre
  have hown : s.vm.findClass RX3 = some m.cls := findClass_of_methodNamed B.named
  have hlocks := B.notSynchronized
  have CF : CallFix p m c cX3_giveBack 3 s ([.ref a0, .ref v1] : List Value).toArray wsX3_giveBack RX3 := ⟨hx, hb, hml, hown, hts⟩
  have C : CX p m c cX3_giveBack 3 s ([.ref a0, .ref v1] : List Value).toArray wsX3_giveBack RX3 D Y := ⟨CF, hK, hZ⟩
  have hO : HO D Y (fR L sz) s.heap S s.heap [] := HO.entry hsz hJ hP hD0
  subst hsz
  have inX3 : ∀ w ∈ wsX30, w ∈ wsX3_giveBack := fun w h => List.mem_cons_of_mem _ (List.mem_append_left _ (List.mem_append_left _ (List.mem_append_right _ h)))
  have hl := lv_entry ([.ref a0, .ref v1]) (n := 3) (Nat.le_of_ble_eq_true rfl)
  rw [lg_entry_eq]
  generalize (lg_sl ([.ref a0, .ref v1]) ++ List.replicate (3 - (lg_sl ([.ref a0, .ref v1])).length) Slot.unset).toArray = ls at hl ⊢
  have hl : lv_has ls 3 [(0, .ref a0), (1, .ref v1)] := hl
  unfold wp_X3_giveBack at h
  refine lv_aload_n hx hb dX3_giveBack_0 rfl (lv_at hl 0 rfl) ?_
  obtain ⟨fs1, i2, e3, e3', h⟩ := h
  refine r_get C hO 3 1 rfl inX3 (Nat.le_of_ble_eq_true rfl) e3 e3' (List.mem_of_getElem? (i := 1) (by decide +kernel)) dX3_giveBack_1 ?_
  refine lv_iconst (v := (nI 1)) hx hb dX3_giveBack_4 (by decide) ?_
  refine lv_isub hx hb dX3_giveBack_5 ?_
  refine lv_bipush (v := (nI 6)) hx hb dX3_giveBack_6 (by decide) ?_
  refine cN_si (As := [.int (i2 - (nI 1)), .int (nI 6)]) (rest := []) (n := 2) CF hZ (c_X7_isBelow l ((i2 - (nI 1))) (nI 6) _ h) ⟨va_cnB 2 hts gX3_giveBack_X7_isBelow_n24 rfl rfl rfl (hZ.nest 5 rfl) (hts _ (List.mem_of_getElem? (i := 4) (by decide +kernel : wsX3_giveBack[4]? = some (Cond.initialized RX7)))) hdS_X7_isBelow ⟨Nat.le_of_ble_eq_true rfl, Nat.le_of_ble_eq_true rfl⟩, (hts _ (List.mem_of_getElem? (i := 3) (by decide +kernel : wsX3_giveBack[3]? = some (Cond.static yX7_isBelow)))), trivial⟩ rfl hl.1 rfl (Nat.le_of_ble_eq_true rfl) dX3_giveBack_8 ⟨Nat.le_of_ble_eq_true rfl, Nat.le_of_ble_eq_true rfl⟩ (fun i4 h => ?_)
  refine lv_if_ne (tgt := 15) hx hb dX3_giveBack_11 (by decide) (fun c5 => ?_) (fun c5 => ?_)
  · have h := h.2 c5
    refine lv_aload_n hx hb dX3_giveBack_15 rfl (lv_at hl 0 rfl) ?_
    refine lv_dup hx hb dX3_giveBack_16 rfl ?_
    obtain ⟨fs6, i7, e8, e8', h⟩ := h
    refine r_get C hO 3 1 rfl inX3 (Nat.le_of_ble_eq_true rfl) e8 e8' (List.mem_of_getElem? (i := 1) (by decide +kernel)) dX3_giveBack_17 ?_
    refine lv_iconst (v := (nI 1)) hx hb dX3_giveBack_20 (by decide) ?_
    refine lv_isub hx hb dX3_giveBack_21 ?_
    obtain ⟨fs9, e10, e10', h⟩ := h
    refine r_put C hO 3 1 rfl inX3 tyX3_ok nmX3 (Nat.le_of_ble_eq_true rfl) rfl rfl rfl e10 e10' (List.mem_of_getElem? (i := 1) (by decide +kernel)) dX3_giveBack_22 (fun H locs hO => ?_)
    obtain ⟨S11, eS11⟩ : ∃ Sx, Sx = va_up S a0 (.inl (3, fs9.set 1 (.int (i7 - (nI 1))))) := ⟨_, rfl⟩
    rw [← eS11] at hO
    have h := h S11 eS11
    refine lv_aload_n hx hb dX3_giveBack_25 rfl (lv_at hl 0 rfl) ?_
    obtain ⟨fs12, a13, e14, e14', h⟩ := h
    refine r_get C hO 3 0 rfl inX3 (Nat.le_of_ble_eq_true rfl) e14 e14' (List.mem_of_getElem? (i := 2) (by decide +kernel)) dX3_giveBack_26 ?_
    refine lv_aload_n hx hb dX3_giveBack_29 rfl (lv_at hl 0 rfl) ?_
    obtain ⟨fs15, i16, e17, e17', h⟩ := h
    refine r_get C hO 3 1 rfl inX3 (Nat.le_of_ble_eq_true rfl) e17 e17' (List.mem_of_getElem? (i := 1) (by decide +kernel)) dX3_giveBack_30 ?_
    obtain ⟨n18, f19, a21, e20, e20', hrq, h⟩ := h
    refine r_aaldL C hO e20 e20' (congrArg va_rf hrq) dX3_giveBack_33 ?_
    show W _ _ _ _ _ _ _ _ _ _ _ _ _ _ _ (F0 _ _ _ (.ref a21 :: _))
    refine lv_astore_n (lv' := [(2, .ref a21), (0, .ref a0), (1, .ref v1)]) hx hb dX3_giveBack_34 rfl hl (by decide) rfl (fun ls hl => ?_)
    refine lv_aload_n hx hb dX3_giveBack_35 rfl (lv_at hl 0 rfl) ?_
    refine lv_ifnull hx hb dX3_giveBack_36 ?_
    refine lv_aload_n hx hb dX3_giveBack_39 rfl (lv_at hl 2 rfl) ?_
    refine lv_aload_n hx hb dX3_giveBack_40 rfl (lv_at hl 0 rfl) ?_
    obtain ⟨fs24, e23, h⟩ := h
    refine cV_wv (As := [.ref a21]) (rest := []) (n := 1) C hO (fun L => c_X1_copyFrom l D Y L S11 H.size v1 a21 _ h) 1 rfl e23 (cwV 1 hts gX3_giveBack_X1_copyFrom rfl rfl rfl ⟨rfl, hdS_X1_copyFrom⟩ ⟨Nat.le_of_ble_eq_true rfl, Nat.le_of_ble_eq_true rfl⟩) rfl hl.1 rfl (Nat.le_of_ble_eq_true rfl) dX3_giveBack_41 ⟨Nat.le_of_ble_eq_true rfl, Nat.le_of_ble_eq_true rfl⟩ (fun S22 H locs h hO => ?_)
    exact W.vret hx hb hr (fun t ht hW => ⟨⟨S22, rfl, h, hO.q ht⟩, hO.f ht⟩) hO.lc dX3_giveBack_44
  · have h := h.1 c5
    exact W.vret hx hb hr (fun t ht hW => ⟨⟨S, rfl, h, hO.q ht⟩, hO.f ht⟩) hO.lc dX3_giveBack_14
theorem hdS_X5_init : yX5_init.cls ≠ "java/lang/invoke/MethodHandle" ∧ yX5_init.cls ≠ "java/lang/invoke/VarHandle" ∧ (parseMethodDescriptor yX5_init.desc).map (fun d => d.parameters.length) = some 0 := by decide +kernel
set_option maxHeartbeats 4000000 in
set_option maxRecDepth 100000 in
theorem c_X5_init (l : Launch) (D : va_G) (Y : Nat → ClassId) (L : List Nat) (S : PS) (sz : Nat) (a0 : Nat) (Post : PS → Prop) (h : wp_X5_init S a0 Post) : Met l yX5_init wsX5_init ({ frames := 1, cells := 3, slots := 1331, locals := 12 }) (va_Pc [.ref a0] (PrO D Y L S sz)) (va_Qv Post (QtO D Y (fR L sz)) (fR L sz)) 3 1331 (fR L sz) := by
  refine Met.ofW (cc := cX5_init) (maxL := 1) (ret := none) (by decide) rfl ?_
  intro p e s m args below meth c s₁ B hml hv
  obtain ⟨rfl, hsz, hJ, hP, hK, hD0, hZ⟩ := hv
  have hx := B.exec
  have hb := B.bytes
  have hr := B.returns
  have hts := atoms_spec (ws := wsX5_init) B.pre
  have hown : s.vm.findClass RX5 = some m.cls := findClass_of_methodNamed B.named
  have hlocks := B.notSynchronized
  have hin : meth.name = "<init>" := (name_of_methodNamed B.named B.method).1
  have CF : CallFix p m c cX5_init 1 s ([.ref a0] : List Value).toArray wsX5_init RX5 := ⟨hx, hb, hml, hown, hts⟩
  have C : CX p m c cX5_init 1 s ([.ref a0] : List Value).toArray wsX5_init RX5 D Y := ⟨CF, hK, hZ⟩
  have hO : HO D Y (fR L sz) s.heap S s.heap [] := HO.entry hsz hJ hP hD0
  subst hsz
  have inX5 : ∀ w ∈ wsX50, w ∈ wsX5_init := fun w h => List.mem_cons_of_mem _ (List.mem_append_right _ h)
  have hl := lv_entry ([.ref a0]) (n := 1) (Nat.le_of_ble_eq_true rfl)
  rw [lg_entry_eq]
  generalize (lg_sl ([.ref a0]) ++ List.replicate (1 - (lg_sl ([.ref a0])).length) Slot.unset).toArray = ls at hl ⊢
  have hl : lv_has ls 1 [(0, .ref a0)] := hl
  unfold wp_X5_init at h
  refine lv_aload_n hx hb dX5_init_0 rfl (lv_at hl 0 rfl) ?_
  refine W.objInit hx hb hown (hts _ (List.mem_of_getElem? (i := 1) (by decide +kernel : wsX5_init[1]? = some (Cond.methodLink RX5 3 objectInit)))) (hts _ (List.mem_of_getElem? (i := 2) (by decide +kernel : wsX5_init[2]? = some (Cond.instanceMethod objectInit)))) (hts _ (List.mem_of_getElem? (i := 3) (by decide +kernel : wsX5_init[3]? = some (Cond.code objectInit ⟨#[0xb1]⟩ 1 none)))) rfl (by rw [hml]; exact hl.1) rfl dX5_init_1 (Nat.le_of_ble_eq_true rfl) (Nat.le_of_ble_eq_true rfl) ?_
  refine W.eq (g2 := F0 m 4 ls []) rfl ?_
  refine lv_aload_n hx hb dX5_init_4 rfl (lv_at hl 0 rfl) ?_
  refine lv_bipush (v := (nI 6)) hx hb dX5_init_5 (by decide) ?_
  refine r_newa (k := 2) (ty := .long) (N' := 6) C hO (by intro C h; cases h) rfl rfl (List.mem_of_getElem? (i := 4) (by decide +kernel)) (6, .inr (.inl (fun _ => 0))) (fun _ => rfl) (by decide) (by decide) (Nat.le_of_ble_eq_true rfl) (Nat.le_of_ble_eq_true rfl) (Nat.le_of_ble_eq_true rfl) dX5_init_7 (fun a1 H hqa1 hO => ?_)
  obtain ⟨S2, eS2⟩ : ∃ Sx, Sx = va_up S a1 (aJ 6 (fun _ => 0)) := ⟨_, rfl⟩
  have hO := (show HO D Y (fR L s.heap.size) s.heap (va_up S a1 (aJ 6 (fun _ => 0))) H _ from hO)
  rw [← eS2] at hO
  have h := h a1 hqa1 S2 eS2
  obtain ⟨fs3, e4, e4', h⟩ := h
  refine r_putF C hO 4 0 hin rfl inX5 tyX5_ok nmX5 (Nat.le_of_ble_eq_true rfl) rfl rfl rfl rfl e4 e4' (List.mem_of_getElem? (i := 5) (by decide +kernel)) dX5_init_9 (fun H locs hO => ?_)
  obtain ⟨S5, eS5⟩ : ∃ Sx, Sx = va_up S2 a0 (.inl (4, fs3.set 0 (.ref a1))) := ⟨_, rfl⟩
  rw [← eS5] at hO
  have h := h S5 eS5
  refine lv_aload_n hx hb dX5_init_12 rfl (lv_at hl 0 rfl) ?_
  refine lv_iconst (v := (nI 0)) hx hb dX5_init_13 (by decide) ?_
  obtain ⟨fs6, e7, e7', h⟩ := h
  refine r_put C hO 4 1 rfl inX5 tyX5_ok nmX5 (Nat.le_of_ble_eq_true rfl) rfl rfl rfl e7 e7' (List.mem_of_getElem? (i := 6) (by decide +kernel)) dX5_init_14 (fun H locs hO => ?_)
  obtain ⟨S8, eS8⟩ : ∃ Sx, Sx = va_up S5 a0 (.inl (4, fs6.set 1 (.int (nI 0)))) := ⟨_, rfl⟩
  rw [← eS8] at hO
  have h := h S8 eS8
  refine lv_aload_n hx hb dX5_init_17 rfl (lv_at hl 0 rfl) ?_
  refine lv_sipush (v := (nI 301)) hx hb dX5_init_18 (by decide) ?_
  refine r_newa (k := 2) (ty := .long) (N' := 301) C hO (by intro C h; cases h) rfl rfl (List.mem_of_getElem? (i := 4) (by decide +kernel)) (301, .inr (.inl (fun _ => 0))) (fun _ => rfl) (by decide) (by decide) (Nat.le_of_ble_eq_true rfl) (Nat.le_of_ble_eq_true rfl) (Nat.le_of_ble_eq_true rfl) dX5_init_21 (fun a9 H hqa9 hO => ?_)
  obtain ⟨S10, eS10⟩ : ∃ Sx, Sx = va_up S8 a9 (aJ 301 (fun _ => 0)) := ⟨_, rfl⟩
  have hO := (show HO D Y (fR L s.heap.size) s.heap (va_up S8 a9 (aJ 301 (fun _ => 0))) H _ from hO)
  rw [← eS10] at hO
  have h := h a9 hqa9 S10 eS10
  obtain ⟨fs11, e12, e12', h⟩ := h
  refine r_putF C hO 4 2 hin rfl inX5 tyX5_ok nmX5 (Nat.le_of_ble_eq_true rfl) rfl rfl rfl rfl e12 e12' (List.mem_of_getElem? (i := 7) (by decide +kernel)) dX5_init_23 (fun H locs hO => ?_)
  obtain ⟨S13, eS13⟩ : ∃ Sx, Sx = va_up S10 a0 (.inl (4, fs11.set 2 (.ref a9))) := ⟨_, rfl⟩
  rw [← eS13] at hO
  have h := h S13 eS13
  refine lv_aload_n hx hb dX5_init_26 rfl (lv_at hl 0 rfl) ?_
  refine lv_iconst (v := (nI 0)) hx hb dX5_init_27 (by decide) ?_
  obtain ⟨fs14, e15, e15', h⟩ := h
  refine r_put C hO 4 3 rfl inX5 tyX5_ok nmX5 (Nat.le_of_ble_eq_true rfl) rfl rfl rfl e15 e15' (List.mem_of_getElem? (i := 8) (by decide +kernel)) dX5_init_28 (fun H locs hO => ?_)
  obtain ⟨S16, eS16⟩ : ∃ Sx, Sx = va_up S13 a0 (.inl (4, fs14.set 3 (.int (nI 0)))) := ⟨_, rfl⟩
  rw [← eS16] at hO
  have h := h S16 eS16
  refine lv_aload_n hx hb dX5_init_31 rfl (lv_at hl 0 rfl) ?_
  refine lv_sipush (v := (nI 1024)) hx hb dX5_init_32 (by decide) ?_
  refine r_newa (k := 2) (ty := .long) (N' := 1024) C hO (by intro C h; cases h) rfl rfl (List.mem_of_getElem? (i := 4) (by decide +kernel)) (1024, .inr (.inl (fun _ => 0))) (fun _ => rfl) (by decide) (by decide) (Nat.le_of_ble_eq_true rfl) (Nat.le_of_ble_eq_true rfl) (Nat.le_of_ble_eq_true rfl) dX5_init_35 (fun a17 H hqa17 hO => ?_)
  obtain ⟨S18, eS18⟩ : ∃ Sx, Sx = va_up S16 a17 (aJ 1024 (fun _ => 0)) := ⟨_, rfl⟩
  have hO := (show HO D Y (fR L s.heap.size) s.heap (va_up S16 a17 (aJ 1024 (fun _ => 0))) H _ from hO)
  rw [← eS18] at hO
  have h := h a17 hqa17 S18 eS18
  obtain ⟨fs19, e20, e20', h⟩ := h
  refine r_putF C hO 4 4 hin rfl inX5 tyX5_ok nmX5 (Nat.le_of_ble_eq_true rfl) rfl rfl rfl rfl e20 e20' (List.mem_of_getElem? (i := 9) (by decide +kernel)) dX5_init_37 (fun H locs hO => ?_)
  obtain ⟨S21, eS21⟩ : ∃ Sx, Sx = va_up S18 a0 (.inl (4, fs19.set 4 (.ref a17))) := ⟨_, rfl⟩
  rw [← eS21] at hO
  have h := h S21 eS21
  exact W.vret hx hb hr (fun t ht hW => ⟨⟨S21, rfl, h, hO.q ht⟩, hO.f ht⟩) hO.lc dX5_init_40
theorem hdS_X5_addMaker : yX5_addMaker.cls ≠ "java/lang/invoke/MethodHandle" ∧ yX5_addMaker.cls ≠ "java/lang/invoke/VarHandle" ∧ (parseMethodDescriptor yX5_addMaker.desc).map (fun d => d.parameters.length) = some 1 := by decide +kernel
set_option maxHeartbeats 4000000 in
set_option maxRecDepth 100000 in
theorem c_X5_addMaker (l : Launch) (D : va_G) (Y : Nat → ClassId) (L : List Nat) (S : PS) (sz : Nat) (a0 : Nat) (v1 : Int64) (Post : PS → Prop) (h : wp_X5_addMaker S a0 v1 Post) : Met l yX5_addMaker wsX5_addMaker ({ frames := 1, cells := 0, slots := 0, locals := 21 }) (va_Pc [.ref a0, .long v1] (PrO D Y L S sz)) (va_Qv Post (QtO D Y (fR L sz)) (fR L sz)) 0 0 (fR L sz) := by
  refine Met.ofW (cc := cX5_addMaker) (maxL := 3) (ret := none) (by decide) rfl ?_
  intro p e s m args below meth c s₁ B hml hv
  obtain ⟨rfl, hsz, hJ, hP, hK, hD0, hZ⟩ := hv
  have hx := B.exec
  have hb := B.bytes
  have hr := B.returns
  have hts := atoms_spec (ws := wsX5_addMaker) B.pre
  have hown : s.vm.findClass RX5 = some m.cls := findClass_of_methodNamed B.named
  have hlocks := B.notSynchronized
  have CF : CallFix p m c cX5_addMaker 3 s ([.ref a0, .long v1] : List Value).toArray wsX5_addMaker RX5 := ⟨hx, hb, hml, hown, hts⟩
  have C : CX p m c cX5_addMaker 3 s ([.ref a0, .long v1] : List Value).toArray wsX5_addMaker RX5 D Y := ⟨CF, hK, hZ⟩
  have hO : HO D Y (fR L sz) s.heap S s.heap [] := HO.entry hsz hJ hP hD0
  subst hsz
  have inX5 : ∀ w ∈ wsX50, w ∈ wsX5_addMaker := fun w h => List.mem_cons_of_mem _ (List.mem_append_right _ h)
  have hl := lv_entry ([.ref a0, .long v1]) (n := 3) (Nat.le_of_ble_eq_true rfl)
  rw [lg_entry_eq]
  generalize (lg_sl ([.ref a0, .long v1]) ++ List.replicate (3 - (lg_sl ([.ref a0, .long v1])).length) Slot.unset).toArray = ls at hl ⊢
  have hl : lv_has ls 3 [(0, .ref a0), (1, .long v1)] := hl
  unfold wp_X5_addMaker at h
  refine lv_aload_n hx hb dX5_addMaker_0 rfl (lv_at hl 0 rfl) ?_
  obtain ⟨fs1, i2, e3, e3', h⟩ := h
  refine r_get C hO 4 1 rfl inX5 (Nat.le_of_ble_eq_true rfl) e3 e3' (List.mem_of_getElem? (i := 1) (by decide +kernel)) dX5_addMaker_1 ?_
  refine lv_bipush (v := (nI 6)) hx hb dX5_addMaker_4 (by decide) ?_
  refine cN_si (As := [.int i2, .int (nI 6)]) (rest := []) (n := 2) CF hZ (c_X7_isBelow l i2 (nI 6) _ h) ⟨va_cnB 2 hts gX5_addMaker_X7_isBelow_n28 rfl rfl rfl (hZ.nest 10 rfl) (hts _ (List.mem_of_getElem? (i := 4) (by decide +kernel : wsX5_addMaker[4]? = some (Cond.initialized RX7)))) hdS_X7_isBelow ⟨Nat.le_of_ble_eq_true rfl, Nat.le_of_ble_eq_true rfl⟩, (hts _ (List.mem_of_getElem? (i := 3) (by decide +kernel : wsX5_addMaker[3]? = some (Cond.static yX7_isBelow)))), trivial⟩ rfl hl.1 rfl (Nat.le_of_ble_eq_true rfl) dX5_addMaker_6 ⟨Nat.le_of_ble_eq_true rfl, Nat.le_of_ble_eq_true rfl⟩ (fun i4 h => ?_)
  refine lv_if_ne (tgt := 13) hx hb dX5_addMaker_9 (by decide) (fun c5 => ?_) (fun c5 => ?_)
  · have h := h.2 c5
    refine lv_aload_n hx hb dX5_addMaker_13 rfl (lv_at hl 0 rfl) ?_
    obtain ⟨fs6, a7, e8, e8', h⟩ := h
    refine r_get C hO 4 0 rfl inX5 (Nat.le_of_ble_eq_true rfl) e8 e8' (List.mem_of_getElem? (i := 2) (by decide +kernel)) dX5_addMaker_14 ?_
    refine lv_aload_n hx hb dX5_addMaker_17 rfl (lv_at hl 0 rfl) ?_
    obtain ⟨fs9, i10, e11, e11', h⟩ := h
    refine r_get C hO 4 1 rfl inX5 (Nat.le_of_ble_eq_true rfl) e11 e11' (List.mem_of_getElem? (i := 1) (by decide +kernel)) dX5_addMaker_18 ?_
    refine lv_lload_n hx hb dX5_addMaker_21 rfl (lv_at hl 1 rfl) ?_
    obtain ⟨n12, f13, e14, e14', h⟩ := h
    refine r_last C hO e14 e14' dX5_addMaker_22 (fun H locs hO => ?_)
    obtain ⟨S15, eS15⟩ : ∃ Sx, Sx = va_up S a7 (aJ n12 (vp_updL f13 (i10).toNatClampNeg v1)) := ⟨_, rfl⟩
    rw [← eS15] at hO
    have h := h S15 eS15
    refine lv_aload_n hx hb dX5_addMaker_23 rfl (lv_at hl 0 rfl) ?_
    refine lv_dup hx hb dX5_addMaker_24 rfl ?_
    obtain ⟨fs16, i17, e18, e18', h⟩ := h
    refine r_get C hO 4 1 rfl inX5 (Nat.le_of_ble_eq_true rfl) e18 e18' (List.mem_of_getElem? (i := 1) (by decide +kernel)) dX5_addMaker_25 ?_
    refine lv_iconst (v := (nI 1)) hx hb dX5_addMaker_28 (by decide) ?_
    refine lv_iadd hx hb dX5_addMaker_29 ?_
    obtain ⟨fs19, e20, e20', h⟩ := h
    refine r_put C hO 4 1 rfl inX5 tyX5_ok nmX5 (Nat.le_of_ble_eq_true rfl) rfl rfl rfl e20 e20' (List.mem_of_getElem? (i := 1) (by decide +kernel)) dX5_addMaker_30 (fun H locs hO => ?_)
    obtain ⟨S21, eS21⟩ : ∃ Sx, Sx = va_up S15 a0 (.inl (4, fs19.set 1 (.int (i17 + (nI 1))))) := ⟨_, rfl⟩
    rw [← eS21] at hO
    have h := h S21 eS21
    exact W.vret hx hb hr (fun t ht hW => ⟨⟨S21, rfl, h, hO.q ht⟩, hO.f ht⟩) hO.lc dX5_addMaker_33
  · have h := h.1 c5
    exact W.vret hx hb hr (fun t ht hW => ⟨⟨S, rfl, h, hO.q ht⟩, hO.f ht⟩) hO.lc dX5_addMaker_12
theorem hdS_X5_broughtTo : yX5_broughtTo.cls ≠ "java/lang/invoke/MethodHandle" ∧ yX5_broughtTo.cls ≠ "java/lang/invoke/VarHandle" ∧ (parseMethodDescriptor yX5_broughtTo.desc).map (fun d => d.parameters.length) = some 2 := by decide +kernel
set_option maxHeartbeats 4000000 in
set_option maxRecDepth 100000 in
theorem c_X5_broughtTo (l : Launch) (v0 : Int64) (v2 : Int32) (Post : Int32 → Prop) (h : wp_X5_broughtTo v0 v2 Post) : Met l yX5_broughtTo wsX5_broughtTo ({ frames := 1, cells := 0, slots := 0, locals := 22 }) (va_Pc [.long v0, .int v2] NZ) (vp_Si Post) 0 0 (fun _ => False) := by
  refine Met.ofW (cc := cX5_broughtTo) (maxL := 5) (ret := (some .int)) (by decide) rfl ?_
  intro p e s m args below meth c s₁ B hml hv
  obtain ⟨rfl, hZ⟩ := hv
  have hx := B.exec
  have hb := B.bytes
  have hr := B.returns
  have hts := atoms_spec (ws := wsX5_broughtTo) B.pre
  have hown : s.vm.findClass RX5 = some m.cls := findClass_of_methodNamed B.named
  have hlocks := B.notSynchronized
  have CF : CallFix p m c cX5_broughtTo 5 s ([.long v0, .int v2] : List Value).toArray wsX5_broughtTo RX5 := ⟨hx, hb, hml, hown, hts⟩
  have hl := lv_entry ([.long v0, .int v2]) (n := 5) (Nat.le_of_ble_eq_true rfl)
  rw [lg_entry_eq]
  generalize (lg_sl ([.long v0, .int v2]) ++ List.replicate (5 - (lg_sl ([.long v0, .int v2])).length) Slot.unset).toArray = ls at hl ⊢
  have hl : lv_has ls 5 [(0, .long v0), (2, .int v2)] := hl
  unfold wp_X5_broughtTo at h
  refine lv_iconst (v := (nI 0)) hx hb dX5_broughtTo_0 (by decide) ?_
  refine lv_istore_n (lv' := [(3, .int (nI 0)), (0, .long v0), (2, .int v2)]) hx hb dX5_broughtTo_1 rfl hl (by decide) rfl (fun ls hl => ?_)
  refine lv_iconst (v := (nI 0)) hx hb dX5_broughtTo_2 (by decide) ?_
  refine lv_istore (lv' := [(4, .int (nI 0)), (3, .int (nI 0)), (0, .long v0), (2, .int v2)]) hx hb dX5_broughtTo_3 hl (by decide) rfl (fun ls hl => ?_)
  obtain ⟨n10, h⟩ := h
  refine lp_P (nL := 5) (fun q => [(4, .int q.1), (3, .int q.2), (0, .long v0), (2, .int v2)]) h (lv_sub hl [0, 1, 2, 3] rfl) (fun K5 ih5 q ls h hl => ?_)
  obtain ⟨i1, i2⟩ := q
  have h : wpb_X5_broughtTo_5 v0 v2 Post K5 i1 i2 := h
  have hl : lv_has ls 5 [(4, .int i1), (3, .int i2), (0, .long v0), (2, .int v2)] := hl
  unfold wpb_X5_broughtTo_5 at h
  refine lv_iload hx hb dX5_broughtTo_5 (lv_at hl 0 rfl) ?_
  refine lv_bipush (v := (nI 12)) hx hb dX5_broughtTo_7 (by decide) ?_
  refine lv_icmp_ge (tgt := 38) hx hb dX5_broughtTo_9 (by decide) (fun c3 => ?_) (fun c3 => ?_)
  · have h := h.1 c3
    refine lv_iload_n hx hb dX5_broughtTo_38 rfl (lv_at hl 1 rfl) ?_
    exact W.iret hx hb hr (fun t ht hW => ⟨i2, rfl, h, ht⟩) no_locs dX5_broughtTo_39
  · have h := h.2 c3
    refine lv_iload_n hx hb dX5_broughtTo_12 rfl (lv_at hl 3 rfl) ?_
    refine lv_iload hx hb dX5_broughtTo_13 (lv_at hl 0 rfl) ?_
    refine cN_si (As := [.int v2, .int i1]) (rest := []) (n := 2) CF hZ (c_X7_hasBit l v2 i1 _ h) ⟨va_cnB 2 hts gX5_broughtTo_X7_hasBit_n50 rfl rfl rfl (hZ.nest 11 rfl) (hts _ (List.mem_of_getElem? (i := 2) (by decide +kernel : wsX5_broughtTo[2]? = some (Cond.initialized RX7)))) hdS_X7_hasBit ⟨Nat.le_of_ble_eq_true rfl, Nat.le_of_ble_eq_true rfl⟩, (hts _ (List.mem_of_getElem? (i := 1) (by decide +kernel : wsX5_broughtTo[1]? = some (Cond.static yX7_hasBit)))), trivial⟩ rfl hl.1 rfl (Nat.le_of_ble_eq_true rfl) dX5_broughtTo_15 ⟨Nat.le_of_ble_eq_true rfl, Nat.le_of_ble_eq_true rfl⟩ (fun i4 h => ?_)
    refine lv_if_eq (tgt := 32) hx hb dX5_broughtTo_18 (by decide) (fun c5 => ?_) (fun c5 => ?_)
    · have h := h.1 c5
      obtain ⟨i6, ei6⟩ : ∃ y : Int32, y = i1 + (nI 1) := ⟨_, rfl⟩
      have h := h i6 ei6
      refine lv_iinc (v := i6) (lv' := [(4, .int i6), (3, .int i2), (0, .long v0), (2, .int v2)]) hx hb dX5_broughtTo_32 hl (k := 0) rfl (by rw [ei6]; rfl) (by decide) rfl (fun ls hl => ?_)
      refine lv_goto (tgt := 5) hx hb dX5_broughtTo_35 (by decide) ?_
      exact ih5 (i6, i2) _ h (lv_sub hl [0, 1, 2, 3] rfl)
    · have h := h.2 c5
      refine lv_iload_n hx hb dX5_broughtTo_21 rfl (lv_at hl 1 rfl) ?_
      refine lv_iconst (v := (nI 1)) hx hb dX5_broughtTo_22 (by decide) ?_
      refine lv_lload_n hx hb dX5_broughtTo_23 rfl (lv_at hl 2 rfl) ?_
      refine lv_iload hx hb dX5_broughtTo_24 (lv_at hl 0 rfl) ?_
      refine cS_si (As := [.long v0, .int i1]) (rest := [.int (nI 1), .int i2]) (n := 2) CF hZ (c_X4_at l v0 i1 _ h) (va_cwS 2 hts gX5_broughtTo_X4_at rfl rfl rfl hdS_X4_at ⟨Nat.le_of_ble_eq_true rfl, Nat.le_of_ble_eq_true rfl⟩) rfl hl.1 rfl (Nat.le_of_ble_eq_true rfl) dX5_broughtTo_26 ⟨Nat.le_of_ble_eq_true rfl, Nat.le_of_ble_eq_true rfl⟩ (fun i7 h => ?_)
      refine lv_ishl hx hb dX5_broughtTo_29 ?_
      refine lv_ior hx hb dX5_broughtTo_30 ?_
      refine lv_topi (fun i8 ei8 => ?_)
      have h := h i8 ei8
      refine lv_istore_n (lv' := [(3, .int i8), (4, .int i1), (0, .long v0), (2, .int v2)]) hx hb dX5_broughtTo_31 rfl hl (by decide) rfl (fun ls hl => ?_)
      obtain ⟨i9, ei9⟩ : ∃ y : Int32, y = i1 + (nI 1) := ⟨_, rfl⟩
      have h := h i9 ei9
      refine lv_iinc (v := i9) (lv' := [(4, .int i9), (3, .int i8), (0, .long v0), (2, .int v2)]) hx hb dX5_broughtTo_32 hl (k := 1) rfl (by rw [ei9]; rfl) (by decide) rfl (fun ls hl => ?_)
      refine lv_goto (tgt := 5) hx hb dX5_broughtTo_35 (by decide) ?_
      exact ih5 (i9, i8) _ h (lv_sub hl [0, 1, 2, 3] rfl)
theorem hdS_X5_placesFrom : yX5_placesFrom.cls ≠ "java/lang/invoke/MethodHandle" ∧ yX5_placesFrom.cls ≠ "java/lang/invoke/VarHandle" ∧ (parseMethodDescriptor yX5_placesFrom.desc).map (fun d => d.parameters.length) = some 1 := by decide +kernel
set_option maxHeartbeats 4000000 in
set_option maxRecDepth 100000 in
theorem c_X5_placesFrom (l : Launch) (D : va_G) (Y : Nat → ClassId) (L : List Nat) (S : PS) (sz : Nat) (a0 : Nat) (v1 : Int32) (Post : Int32 → Prop) (h : wp_X5_placesFrom S a0 v1 Post) : Met l yX5_placesFrom wsX5_placesFrom ({ frames := 2, cells := 0, slots := 0, locals := 46 }) (va_Pc [.ref a0, .int v1] (PrO D Y L S sz)) (vp_Si Post) 0 0 (fun _ => False) := by
  refine Met.ofW (cc := cX5_placesFrom) (maxL := 5) (ret := (some .int)) (by decide) rfl ?_
  intro p e s m args below meth c s₁ B hml hv
  obtain ⟨rfl, hsz, hJ, hP, hK, hD0, hZ⟩ := hv
  have hx := B.exec
  have hb := B.bytes
  have hr := B.returns
  have hts := atoms_spec (ws := wsX5_placesFrom) B.pre
  have hown : s.vm.findClass RX5 = some m.cls := findClass_of_methodNamed B.named
  have hlocks := B.notSynchronized
  have CF : CallFix p m c cX5_placesFrom 5 s ([.ref a0, .int v1] : List Value).toArray wsX5_placesFrom RX5 := ⟨hx, hb, hml, hown, hts⟩
  have C : CX p m c cX5_placesFrom 5 s ([.ref a0, .int v1] : List Value).toArray wsX5_placesFrom RX5 D Y := ⟨CF, hK, hZ⟩
  have hO : HO D Y (fR L sz) s.heap S s.heap [] := HO.entry hsz hJ hP hD0
  subst hsz
  have inX5 : ∀ w ∈ wsX50, w ∈ wsX5_placesFrom := fun w h => List.mem_cons_of_mem _ (List.mem_append_right _ h)
  have hl := lv_entry ([.ref a0, .int v1]) (n := 5) (Nat.le_of_ble_eq_true rfl)
  rw [lg_entry_eq]
  generalize (lg_sl ([.ref a0, .int v1]) ++ List.replicate (5 - (lg_sl ([.ref a0, .int v1])).length) Slot.unset).toArray = ls at hl ⊢
  have hl : lv_has ls 5 [(0, .ref a0), (1, .int v1)] := hl
  unfold wp_X5_placesFrom at h
  refine lv_iconst (v := (nI 1)) hx hb dX5_placesFrom_0 (by decide) ?_
  refine lv_iload_n hx hb dX5_placesFrom_1 rfl (lv_at hl 1 rfl) ?_
  refine lv_ishl hx hb dX5_placesFrom_2 ?_
  refine lv_topi (fun i1 ei1 => ?_)
  have h := h i1 ei1
  refine lv_istore_n (lv' := [(2, .int i1), (0, .ref a0), (1, .int v1)]) hx hb dX5_placesFrom_3 rfl hl (by decide) rfl (fun ls hl => ?_)
  refine lv_iconst (v := (nI 0)) hx hb dX5_placesFrom_4 (by decide) ?_
  refine lv_istore_n (lv' := [(3, .int (nI 0)), (2, .int i1), (0, .ref a0), (1, .int v1)]) hx hb dX5_placesFrom_5 rfl hl (by decide) rfl (fun ls hl => ?_)
  obtain ⟨n25, h⟩ := h
  refine lp_P (nL := 5) (fun q => [(3, .int q.1), (2, .int q.2), (0, .ref a0)]) h (lv_sub hl [0, 1, 2] rfl) (fun K6 ih6 q ls h hl => ?_)
  obtain ⟨i2, i3⟩ := q
  have h : wpb_X5_placesFrom_6 S a0 Post K6 i2 i3 := h
  have hl : lv_has ls 5 [(3, .int i2), (2, .int i3), (0, .ref a0)] := hl
  unfold wpb_X5_placesFrom_6 at h
  refine lv_iload_n hx hb dX5_placesFrom_6 rfl (lv_at hl 0 rfl) ?_
  refine lv_bipush (v := (nI 12)) hx hb dX5_placesFrom_7 (by decide) ?_
  refine lv_icmp_ge (tgt := 57) hx hb dX5_placesFrom_9 (by decide) (fun c4 => ?_) (fun c4 => ?_)
  · have h := h.1 c4
    refine lv_iload_n hx hb dX5_placesFrom_57 rfl (lv_at hl 1 rfl) ?_
    exact W.iret hx hb hr (fun t ht hW => ⟨i3, rfl, h, ht⟩) no_locs dX5_placesFrom_58
  · have h := h.2 c4
    refine lv_iconst (v := (nI 0)) hx hb dX5_placesFrom_12 (by decide) ?_
    refine lv_istore (lv' := [(4, .int (nI 0)), (3, .int i2), (2, .int i3), (0, .ref a0)]) hx hb dX5_placesFrom_13 hl (by decide) rfl (fun ls hl => ?_)
    obtain ⟨n24, h⟩ := h
    refine lp_P (nL := 5) (fun q => [(4, .int q.1), (3, .int i2), (2, .int q.2), (0, .ref a0)]) h (lv_sub hl [0, 1, 2, 3] rfl) (fun K15 ih15 q ls h hl => ?_)
    obtain ⟨i5, i6⟩ := q
    have h : wpb_X5_placesFrom_15 S a0 i2 K6 K15 i5 i6 := h
    have hl : lv_has ls 5 [(4, .int i5), (3, .int i2), (2, .int i6), (0, .ref a0)] := hl
    unfold wpb_X5_placesFrom_15 at h
    refine lv_iload hx hb dX5_placesFrom_15 (lv_at hl 0 rfl) ?_
    refine lv_aload_n hx hb dX5_placesFrom_17 rfl (lv_at hl 3 rfl) ?_
    obtain ⟨fs7, i8, e9, e9', h⟩ := h
    refine r_get C hO 4 1 rfl inX5 (Nat.le_of_ble_eq_true rfl) e9 e9' (List.mem_of_getElem? (i := 1) (by decide +kernel)) dX5_placesFrom_18 ?_
    refine lv_icmp_ge (tgt := 51) hx hb dX5_placesFrom_21 (by decide) (fun c10 => ?_) (fun c10 => ?_)
    · have h := h.1 c10
      obtain ⟨i11, ei11⟩ : ∃ y : Int32, y = i2 + (nI 1) := ⟨_, rfl⟩
      have h := h i11 ei11
      refine lv_iinc (v := i11) (lv' := [(3, .int i11), (4, .int i5), (2, .int i6), (0, .ref a0)]) hx hb dX5_placesFrom_51 hl (k := 1) rfl (by rw [ei11]; rfl) (by decide) rfl (fun ls hl => ?_)
      refine lv_goto (tgt := 6) hx hb dX5_placesFrom_54 (by decide) ?_
      exact ih6 (i11, i6) _ h (lv_sub hl [0, 2, 3] rfl)
    · have h := h.2 c10
      refine lv_iload hx hb dX5_placesFrom_24 (lv_at hl 0 rfl) ?_
      refine lv_bipush (v := (nI 6)) hx hb dX5_placesFrom_26 (by decide) ?_
      refine lv_icmp_ge (tgt := 51) hx hb dX5_placesFrom_28 (by decide) (fun c12 => ?_) (fun c12 => ?_)
      · have h := h.1 c12
        obtain ⟨i13, ei13⟩ : ∃ y : Int32, y = i2 + (nI 1) := ⟨_, rfl⟩
        have h := h i13 ei13
        refine lv_iinc (v := i13) (lv' := [(3, .int i13), (4, .int i5), (2, .int i6), (0, .ref a0)]) hx hb dX5_placesFrom_51 hl (k := 1) rfl (by rw [ei13]; rfl) (by decide) rfl (fun ls hl => ?_)
        refine lv_goto (tgt := 6) hx hb dX5_placesFrom_54 (by decide) ?_
        exact ih6 (i13, i6) _ h (lv_sub hl [0, 2, 3] rfl)
      · have h := h.2 c12
        refine lv_iload_n hx hb dX5_placesFrom_31 rfl (lv_at hl 2 rfl) ?_
        refine lv_aload_n hx hb dX5_placesFrom_32 rfl (lv_at hl 3 rfl) ?_
        obtain ⟨fs14, a15, e16, e16', h⟩ := h
        refine r_get C hO 4 0 rfl inX5 (Nat.le_of_ble_eq_true rfl) e16 e16' (List.mem_of_getElem? (i := 2) (by decide +kernel)) dX5_placesFrom_33 ?_
        refine lv_iload hx hb dX5_placesFrom_36 (lv_at hl 0 rfl) ?_
        obtain ⟨n17, f18, j20, e19, e19', exj20, h⟩ := h
        refine r_lald C hO e19 e19' dX5_placesFrom_38 ?_
        rw [exj20]
        refine lv_iload_n hx hb dX5_placesFrom_39 rfl (lv_at hl 2 rfl) ?_
        refine cS_si (As := [.long j20, .int i6]) (rest := [.int i6]) (n := 2) CF hZ (c_X5_broughtTo l j20 i6 _ h) (va_cwS 2 hts gX5_placesFrom_X5_broughtTo rfl rfl rfl hdS_X5_broughtTo ⟨Nat.le_of_ble_eq_true rfl, Nat.le_of_ble_eq_true rfl⟩) rfl hl.1 rfl (Nat.le_of_ble_eq_true rfl) dX5_placesFrom_40 ⟨Nat.le_of_ble_eq_true rfl, Nat.le_of_ble_eq_true rfl⟩ (fun i21 h => ?_)
        refine lv_ior hx hb dX5_placesFrom_43 ?_
        refine lv_topi (fun i22 ei22 => ?_)
        have h := h i22 ei22
        refine lv_istore_n (lv' := [(2, .int i22), (4, .int i5), (3, .int i2), (0, .ref a0)]) hx hb dX5_placesFrom_44 rfl hl (by decide) rfl (fun ls hl => ?_)
        obtain ⟨i23, ei23⟩ : ∃ y : Int32, y = i5 + (nI 1) := ⟨_, rfl⟩
        have h := h i23 ei23
        refine lv_iinc (v := i23) (lv' := [(4, .int i23), (2, .int i22), (3, .int i2), (0, .ref a0)]) hx hb dX5_placesFrom_45 hl (k := 1) rfl (by rw [ei23]; rfl) (by decide) rfl (fun ls hl => ?_)
        refine lv_goto (tgt := 15) hx hb dX5_placesFrom_48 (by decide) ?_
        exact ih15 (i23, i22) _ h (lv_sub hl [0, 2, 1, 3] rfl)
theorem hdS_X5_note : yX5_note.cls ≠ "java/lang/invoke/MethodHandle" ∧ yX5_note.cls ≠ "java/lang/invoke/VarHandle" ∧ (parseMethodDescriptor yX5_note.desc).map (fun d => d.parameters.length) = some 1 := by decide +kernel
set_option maxHeartbeats 4000000 in
set_option maxRecDepth 100000 in
theorem c_X5_note (l : Launch) (D : va_G) (Y : Nat → ClassId) (L : List Nat) (S : PS) (sz : Nat) (a0 : Nat) (v1 : Int64) (Post : PS → Prop) (h : wp_X5_note S a0 v1 Post) : Met l yX5_note wsX5_note ({ frames := 1, cells := 0, slots := 0, locals := 21 }) (va_Pc [.ref a0, .long v1] (PrO D Y L S sz)) (va_Qv Post (QtO D Y (fR L sz)) (fR L sz)) 0 0 (fR L sz) := by
  refine Met.ofW (cc := cX5_note) (maxL := 7) (ret := none) (by decide) rfl ?_
  intro p e s m args below meth c s₁ B hml hv
  obtain ⟨rfl, hsz, hJ, hP, hK, hD0, hZ⟩ := hv
  have hx := B.exec
  have hb := B.bytes
  have hr := B.returns
  have hts := atoms_spec (ws := wsX5_note) B.pre
  have hown : s.vm.findClass RX5 = some m.cls := findClass_of_methodNamed B.named
  have hlocks := B.notSynchronized
  have CF : CallFix p m c cX5_note 7 s ([.ref a0, .long v1] : List Value).toArray wsX5_note RX5 := ⟨hx, hb, hml, hown, hts⟩
  have C : CX p m c cX5_note 7 s ([.ref a0, .long v1] : List Value).toArray wsX5_note RX5 D Y := ⟨CF, hK, hZ⟩
  have hO : HO D Y (fR L sz) s.heap S s.heap [] := HO.entry hsz hJ hP hD0
  subst hsz
  have inX5 : ∀ w ∈ wsX50, w ∈ wsX5_note := fun w h => List.mem_cons_of_mem _ (List.mem_append_right _ h)
  have hl := lv_entry ([.ref a0, .long v1]) (n := 7) (Nat.le_of_ble_eq_true rfl)
  rw [lg_entry_eq]
  generalize (lg_sl ([.ref a0, .long v1]) ++ List.replicate (7 - (lg_sl ([.ref a0, .long v1])).length) Slot.unset).toArray = ls at hl ⊢
  have hl : lv_has ls 7 [(0, .ref a0), (1, .long v1)] := hl
  unfold wp_X5_note at h
  refine lv_aload_n hx hb dX5_note_0 rfl (lv_at hl 0 rfl) ?_
  obtain ⟨fs1, i2, e3, e3', h⟩ := h
  refine r_get C hO 4 3 rfl inX5 (Nat.le_of_ble_eq_true rfl) e3 e3' (List.mem_of_getElem? (i := 1) (by decide +kernel)) dX5_note_1 ?_
  refine lv_sipush (v := (nI 301)) hx hb dX5_note_4 (by decide) ?_
  refine cN_si (As := [.int i2, .int (nI 301)]) (rest := []) (n := 2) CF hZ (c_X7_isBelow l i2 (nI 301) _ h) ⟨va_cnB 2 hts gX5_note_X7_isBelow_n28 rfl rfl rfl (hZ.nest 10 rfl) (hts _ (List.mem_of_getElem? (i := 6) (by decide +kernel : wsX5_note[6]? = some (Cond.initialized RX7)))) hdS_X7_isBelow ⟨Nat.le_of_ble_eq_true rfl, Nat.le_of_ble_eq_true rfl⟩, (hts _ (List.mem_of_getElem? (i := 5) (by decide +kernel : wsX5_note[5]? = some (Cond.static yX7_isBelow)))), trivial⟩ rfl hl.1 rfl (Nat.le_of_ble_eq_true rfl) dX5_note_7 ⟨Nat.le_of_ble_eq_true rfl, Nat.le_of_ble_eq_true rfl⟩ (fun i4 h => ?_)
  refine lv_if_ne (tgt := 14) hx hb dX5_note_10 (by decide) (fun c5 => ?_) (fun c5 => ?_)
  · have h := h.2 c5
    refine lv_lload_n hx hb dX5_note_14 rfl (lv_at hl 1 rfl) ?_
    refine lv_ldc2 hx hb hown (hts _ (List.mem_of_getElem? (i := 2) (by decide +kernel : wsX5_note[2]? = some (Cond.constantLong RX5 56 (-7046029254386353131))))) dX5_note_15 ?_
    refine lv_lmul hx hb dX5_note_18 ?_
    refine lv_bipush (v := (nI 54)) hx hb dX5_note_19 (by decide) ?_
    refine lv_lushr (v := (uShrL (v1 * (-7046029254386353131 : Int64)) (nI 54))) hx hb dX5_note_21 rfl ?_
    refine lv_l2i (v := ((uShrL (v1 * (-7046029254386353131 : Int64)) (nI 54))).toInt32) hx hb dX5_note_22 rfl ?_
    refine lv_topi (fun i6 ei6 => ?_)
    have h := h i6 ei6
    refine lv_istore_n (lv' := [(3, .int i6), (0, .ref a0), (1, .long v1)]) hx hb dX5_note_23 rfl hl (by decide) rfl (fun ls hl => ?_)
    refine lv_iconst (v := (nI 0)) hx hb dX5_note_24 (by decide) ?_
    refine lv_istore (lv' := [(4, .int (nI 0)), (3, .int i6), (0, .ref a0), (1, .long v1)]) hx hb dX5_note_25 hl (by decide) rfl (fun ls hl => ?_)
    obtain ⟨n44, h⟩ := h
    refine lp_P (nL := 7) (fun q => [(4, .int q.1), (3, .int q.2), (0, .ref a0), (1, .long v1)]) h (lv_sub hl [0, 1, 2, 3] rfl) (fun K27 ih27 q ls h hl => ?_)
    obtain ⟨i7, i8⟩ := q
    have h : wpb_X5_note_27 S a0 v1 Post K27 i7 i8 := h
    have hl : lv_has ls 7 [(4, .int i7), (3, .int i8), (0, .ref a0), (1, .long v1)] := hl
    unfold wpb_X5_note_27 at h
    refine lv_iload hx hb dX5_note_27 (lv_at hl 0 rfl) ?_
    refine lv_sipush (v := (nI 1024)) hx hb dX5_note_29 (by decide) ?_
    refine lv_icmp_ge (tgt := 103) hx hb dX5_note_32 (by decide) (fun c9 => ?_) (fun c9 => ?_)
    · have h := h.1 c9
      exact W.vret hx hb hr (fun t ht hW => ⟨⟨S, rfl, h, hO.q ht⟩, hO.f ht⟩) hO.lc dX5_note_103
    · have h := h.2 c9
      refine lv_aload_n hx hb dX5_note_35 rfl (lv_at hl 2 rfl) ?_
      obtain ⟨fs10, a11, e12, e12', h⟩ := h
      refine r_get C hO 4 4 rfl inX5 (Nat.le_of_ble_eq_true rfl) e12 e12' (List.mem_of_getElem? (i := 3) (by decide +kernel)) dX5_note_36 ?_
      refine lv_iload_n hx hb dX5_note_39 rfl (lv_at hl 1 rfl) ?_
      refine lv_sipush (v := (nI 1023)) hx hb dX5_note_40 (by decide) ?_
      refine lv_iand hx hb dX5_note_43 ?_
      obtain ⟨n13, f14, j16, e15, e15', exj16, h⟩ := h
      refine r_lald C hO e15 e15' dX5_note_44 ?_
      rw [exj16]
      refine lv_lstore (lv' := [(5, .long j16), (4, .int i7), (3, .int i8), (0, .ref a0), (1, .long v1)]) hx hb dX5_note_45 hl (by decide) rfl (fun ls hl => ?_)
      refine lv_lload hx hb dX5_note_47 (lv_at hl 0 rfl) ?_
      refine lv_lload_n hx hb dX5_note_49 rfl (lv_at hl 4 rfl) ?_
      refine W.lcmp hx hb dX5_note_50 ?_
      refine lv_if_ne (tgt := 55) hx hb dX5_note_51 (by decide) (fun c17 => ?_) (fun c17 => ?_)
      · have h := h.2 c17
        refine lv_lload hx hb dX5_note_55 (lv_at hl 0 rfl) ?_
        refine lv_lconst (v := (lN 0)) hx hb dX5_note_57 (by decide) ?_
        refine W.lcmp hx hb dX5_note_58 ?_
        refine lv_if_ne (tgt := 94) hx hb dX5_note_59 (by decide) (fun c18 => ?_) (fun c18 => ?_)
        · have h := h.2 c18
          obtain ⟨i19, ei19⟩ : ∃ y : Int32, y = i8 + (nI 1) := ⟨_, rfl⟩
          have h := h i19 ei19
          refine lv_iinc (v := i19) (lv' := [(3, .int i19), (5, .long j16), (4, .int i7), (0, .ref a0), (1, .long v1)]) hx hb dX5_note_94 hl (k := 2) rfl (by rw [ei19]; rfl) (by decide) rfl (fun ls hl => ?_)
          obtain ⟨i20, ei20⟩ : ∃ y : Int32, y = i7 + (nI 1) := ⟨_, rfl⟩
          have h := h i20 ei20
          refine lv_iinc (v := i20) (lv' := [(4, .int i20), (3, .int i19), (5, .long j16), (0, .ref a0), (1, .long v1)]) hx hb dX5_note_97 hl (k := 2) rfl (by rw [ei20]; rfl) (by decide) rfl (fun ls hl => ?_)
          refine lv_goto (tgt := 27) hx hb dX5_note_100 (by decide) ?_
          exact ih27 (i20, i19) _ h (lv_sub hl [0, 1, 3, 4] rfl)
        · have h := h.1 c18
          refine lv_aload_n hx hb dX5_note_62 rfl (lv_at hl 3 rfl) ?_
          obtain ⟨fs21, a22, e23, e23', h⟩ := h
          refine r_get C hO 4 4 rfl inX5 (Nat.le_of_ble_eq_true rfl) e23 e23' (List.mem_of_getElem? (i := 3) (by decide +kernel)) dX5_note_63 ?_
          refine lv_iload_n hx hb dX5_note_66 rfl (lv_at hl 2 rfl) ?_
          refine lv_sipush (v := (nI 1023)) hx hb dX5_note_67 (by decide) ?_
          refine lv_iand hx hb dX5_note_70 ?_
          refine lv_lload_n hx hb dX5_note_71 rfl (lv_at hl 4 rfl) ?_
          obtain ⟨n24, f25, e26, e26', h⟩ := h
          refine r_last C hO e26 e26' dX5_note_72 (fun H locs hO => ?_)
          obtain ⟨S27, eS27⟩ : ∃ Sx, Sx = va_up S a22 (aJ n24 (vp_updL f25 ((i8 &&& (nI 1023))).toNatClampNeg v1)) := ⟨_, rfl⟩
          rw [← eS27] at hO
          have h := h S27 eS27
          refine lv_aload_n hx hb dX5_note_73 rfl (lv_at hl 3 rfl) ?_
          obtain ⟨fs28, a29, e30, e30', h⟩ := h
          refine r_get C hO 4 2 rfl inX5 (Nat.le_of_ble_eq_true rfl) e30 e30' (List.mem_of_getElem? (i := 4) (by decide +kernel)) dX5_note_74 ?_
          refine lv_aload_n hx hb dX5_note_77 rfl (lv_at hl 3 rfl) ?_
          obtain ⟨fs31, i32, e33, e33', h⟩ := h
          refine r_get C hO 4 3 rfl inX5 (Nat.le_of_ble_eq_true rfl) e33 e33' (List.mem_of_getElem? (i := 1) (by decide +kernel)) dX5_note_78 ?_
          refine lv_lload_n hx hb dX5_note_81 rfl (lv_at hl 4 rfl) ?_
          obtain ⟨n34, f35, e36, e36', h⟩ := h
          refine r_last C hO e36 e36' dX5_note_82 (fun H locs hO => ?_)
          obtain ⟨S37, eS37⟩ : ∃ Sx, Sx = va_up S27 a29 (aJ n34 (vp_updL f35 (i32).toNatClampNeg v1)) := ⟨_, rfl⟩
          rw [← eS37] at hO
          have h := h S37 eS37
          refine lv_aload_n hx hb dX5_note_83 rfl (lv_at hl 3 rfl) ?_
          refine lv_dup hx hb dX5_note_84 rfl ?_
          obtain ⟨fs38, i39, e40, e40', h⟩ := h
          refine r_get C hO 4 3 rfl inX5 (Nat.le_of_ble_eq_true rfl) e40 e40' (List.mem_of_getElem? (i := 1) (by decide +kernel)) dX5_note_85 ?_
          refine lv_iconst (v := (nI 1)) hx hb dX5_note_88 (by decide) ?_
          refine lv_iadd hx hb dX5_note_89 ?_
          obtain ⟨fs41, e42, e42', h⟩ := h
          refine r_put C hO 4 3 rfl inX5 tyX5_ok nmX5 (Nat.le_of_ble_eq_true rfl) rfl rfl rfl e42 e42' (List.mem_of_getElem? (i := 1) (by decide +kernel)) dX5_note_90 (fun H locs hO => ?_)
          obtain ⟨S43, eS43⟩ : ∃ Sx, Sx = va_up S37 a0 (.inl (4, fs41.set 3 (.int (i39 + (nI 1))))) := ⟨_, rfl⟩
          rw [← eS43] at hO
          have h := h S43 eS43
          exact W.vret hx hb hr (fun t ht hW => ⟨⟨S43, rfl, h, hO.q ht⟩, hO.f ht⟩) hO.lc dX5_note_93
      · have h := h.1 c17
        exact W.vret hx hb hr (fun t ht hW => ⟨⟨S, rfl, h, hO.q ht⟩, hO.f ht⟩) hO.lc dX5_note_54
  · have h := h.1 c5
    exact W.vret hx hb hr (fun t ht hW => ⟨⟨S, rfl, h, hO.q ht⟩, hO.f ht⟩) hO.lc dX5_note_13
theorem hdS_X5_allWays : yX5_allWays.cls ≠ "java/lang/invoke/MethodHandle" ∧ yX5_allWays.cls ≠ "java/lang/invoke/VarHandle" ∧ (parseMethodDescriptor yX5_allWays.desc).map (fun d => d.parameters.length) = some 0 := by decide +kernel
set_option maxHeartbeats 4000000 in
set_option maxRecDepth 100000 in
theorem c_X5_allWays (l : Launch) (D : va_G) (Y : Nat → ClassId) (L : List Nat) (S : PS) (sz : Nat) (a0 : Nat) (Post : Int32 → PS → Prop) (h : wp_X5_allWays S a0 Post) : Met l yX5_allWays wsX5_allWays ({ frames := 2, cells := 0, slots := 0, locals := 48 }) (va_Pc [.ref a0] (PrO D Y L S sz)) (va_Qi Post (QtO D Y (fR L sz)) (fR L sz)) 0 0 (fR L sz) := by
  refine Met.ofW (cc := cX5_allWays) (maxL := 3) (ret := (some .int)) (by decide) rfl ?_
  intro p e s m args below meth c s₁ B hml hv
  obtain ⟨rfl, hsz, hJ, hP, hK, hD0, hZ⟩ := hv
  have hx := B.exec
  have hb := B.bytes
  have hr := B.returns
  have hts := atoms_spec (ws := wsX5_allWays) B.pre
  have hown : s.vm.findClass RX5 = some m.cls := findClass_of_methodNamed B.named
  have hlocks := B.notSynchronized
  have CF : CallFix p m c cX5_allWays 3 s ([.ref a0] : List Value).toArray wsX5_allWays RX5 := ⟨hx, hb, hml, hown, hts⟩
  have C : CX p m c cX5_allWays 3 s ([.ref a0] : List Value).toArray wsX5_allWays RX5 D Y := ⟨CF, hK, hZ⟩
  have hO : HO D Y (fR L sz) s.heap S s.heap [] := HO.entry hsz hJ hP hD0
  subst hsz
  have inX5 : ∀ w ∈ wsX50, w ∈ wsX5_allWays := fun w h => List.mem_cons_of_mem _ (List.mem_append_right _ h)
  have hl := lv_entry ([.ref a0]) (n := 3) (Nat.le_of_ble_eq_true rfl)
  rw [lg_entry_eq]
  generalize (lg_sl ([.ref a0]) ++ List.replicate (3 - (lg_sl ([.ref a0])).length) Slot.unset).toArray = ls at hl ⊢
  have hl : lv_has ls 3 [(0, .ref a0)] := hl
  unfold wp_X5_allWays at h
  refine lv_iconst (v := (nI 0)) hx hb dX5_allWays_0 (by decide) ?_
  refine lv_istore_n (lv' := [(1, .int (nI 0)), (0, .ref a0)]) hx hb dX5_allWays_1 rfl hl (by decide) rfl (fun ls hl => ?_)
  obtain ⟨n69, h⟩ := h
  refine lp_W (nL := 3) (fun q => [(1, .int q.1), (0, .ref a0)]) (fun q => q.2) h (lv_sub hl [0, 1] rfl) hO (fun K2 ih2 q ls H locs h hl hO => ?_)
  obtain ⟨i1, S2⟩ := q
  have h : wpb_X5_allWays_2 a0 Post K2 i1 S2 := h
  have hl : lv_has ls 3 [(1, .int i1), (0, .ref a0)] := hl
  have hO : HO D Y (fR L s.heap.size) s.heap S2 H locs := hO
  unfold wpb_X5_allWays_2 at h
  refine lv_iload_n hx hb dX5_allWays_2 rfl (lv_at hl 0 rfl) ?_
  refine lv_sipush (v := (nI 1024)) hx hb dX5_allWays_3 (by decide) ?_
  refine lv_icmp_ge (tgt := 22) hx hb dX5_allWays_6 (by decide) (fun c3 => ?_) (fun c3 => ?_)
  · have h := h.1 c3
    refine lv_aload_n hx hb dX5_allWays_22 rfl (lv_at hl 1 rfl) ?_
    refine lv_iconst (v := (nI 0)) hx hb dX5_allWays_23 (by decide) ?_
    obtain ⟨fs4, e5, e5', h⟩ := h
    refine r_put C hO 4 3 rfl inX5 tyX5_ok nmX5 (Nat.le_of_ble_eq_true rfl) rfl rfl rfl e5 e5' (List.mem_of_getElem? (i := 2) (by decide +kernel)) dX5_allWays_24 (fun H locs hO => ?_)
    obtain ⟨S6, eS6⟩ : ∃ Sx, Sx = va_up S2 a0 (.inl (4, fs4.set 3 (.int (nI 0)))) := ⟨_, rfl⟩
    rw [← eS6] at hO
    have h := h S6 eS6
    refine lv_aload_n hx hb dX5_allWays_27 rfl (lv_at hl 1 rfl) ?_
    refine lv_ldc2 hx hb hown (hts _ (List.mem_of_getElem? (i := 3) (by decide +kernel : wsX5_allWays[3]? = some (Cond.constantLong RX5 38 (205163983024656))))) dX5_allWays_28 ?_
    obtain ⟨fs9, e8, h⟩ := h
    refine cV_wv (As := [.long (205163983024656 : Int64)]) (rest := []) (n := 1) C hO (fun L => c_X5_note l D Y L S6 H.size a0 (205163983024656 : Int64) _ h) 4 rfl e8 (cwV 1 hts gX5_allWays_X5_note rfl rfl rfl ⟨rfl, hdS_X5_note⟩ ⟨Nat.le_of_ble_eq_true rfl, Nat.le_of_ble_eq_true rfl⟩) rfl hl.1 rfl (Nat.le_of_ble_eq_true rfl) dX5_allWays_31 ⟨Nat.le_of_ble_eq_true rfl, Nat.le_of_ble_eq_true rfl⟩ (fun S7 H locs h hO => ?_)
    refine lv_iconst (v := (nI 0)) hx hb dX5_allWays_34 (by decide) ?_
    refine lv_istore_n (lv' := [(1, .int (nI 0)), (0, .ref a0)]) hx hb dX5_allWays_35 rfl hl (by decide) rfl (fun ls hl => ?_)
    obtain ⟨n60, h⟩ := h
    refine lp_W (nL := 3) (fun q => [(1, .int q.1), (0, .ref a0)]) (fun q => q.2) h (lv_sub hl [0, 1] rfl) hO (fun K36 ih36 q ls H locs h hl hO => ?_)
    obtain ⟨i10, S11⟩ := q
    have h : wpb_X5_allWays_36 a0 Post K36 i10 S11 := h
    have hl : lv_has ls 3 [(1, .int i10), (0, .ref a0)] := hl
    have hO : HO D Y (fR L s.heap.size) s.heap S11 H locs := hO
    unfold wpb_X5_allWays_36 at h
    refine lv_iload_n hx hb dX5_allWays_36 rfl (lv_at hl 0 rfl) ?_
    refine lv_sipush (v := (nI 300)) hx hb dX5_allWays_37 (by decide) ?_
    refine lv_icmp_ge (tgt := 111) hx hb dX5_allWays_40 (by decide) (fun c12 => ?_) (fun c12 => ?_)
    · have h := h.1 c12
      refine lv_aload_n hx hb dX5_allWays_111 rfl (lv_at hl 1 rfl) ?_
      obtain ⟨fs13, i14, e15, e15', h⟩ := h
      refine r_get C hO 4 3 rfl inX5 (Nat.le_of_ble_eq_true rfl) e15 e15' (List.mem_of_getElem? (i := 2) (by decide +kernel)) dX5_allWays_112 ?_
      exact W.iret hx hb hr (fun t ht hW => ⟨⟨i14, S11, rfl, h, hO.q ht⟩, hO.f ht⟩) hO.lc dX5_allWays_115
    · have h := h.2 c12
      refine lv_iload_n hx hb dX5_allWays_43 rfl (lv_at hl 0 rfl) ?_
      refine lv_aload_n hx hb dX5_allWays_44 rfl (lv_at hl 1 rfl) ?_
      obtain ⟨fs16, i17, e18, e18', h⟩ := h
      refine r_get C hO 4 3 rfl inX5 (Nat.le_of_ble_eq_true rfl) e18 e18' (List.mem_of_getElem? (i := 2) (by decide +kernel)) dX5_allWays_45 ?_
      refine lv_icmp_ge (tgt := 111) hx hb dX5_allWays_48 (by decide) (fun c19 => ?_) (fun c19 => ?_)
      · have h := h.1 c19
        refine lv_aload_n hx hb dX5_allWays_111 rfl (lv_at hl 1 rfl) ?_
        obtain ⟨fs20, i21, e22, e22', h⟩ := h
        refine r_get C hO 4 3 rfl inX5 (Nat.le_of_ble_eq_true rfl) e22 e22' (List.mem_of_getElem? (i := 2) (by decide +kernel)) dX5_allWays_112 ?_
        exact W.iret hx hb hr (fun t ht hW => ⟨⟨i21, S11, rfl, h, hO.q ht⟩, hO.f ht⟩) hO.lc dX5_allWays_115
      · have h := h.2 c19
        refine lv_iconst (v := (nI 0)) hx hb dX5_allWays_51 (by decide) ?_
        refine lv_istore_n (lv' := [(2, .int (nI 0)), (1, .int i10), (0, .ref a0)]) hx hb dX5_allWays_52 rfl hl (by decide) rfl (fun ls hl => ?_)
        obtain ⟨n59, h⟩ := h
        refine lp_W (nL := 3) (fun q => [(2, .int q.1), (1, .int i10), (0, .ref a0)]) (fun q => q.2) h (lv_sub hl [0, 1, 2] rfl) hO (fun K53 ih53 q ls H locs h hl hO => ?_)
        obtain ⟨i23, S24⟩ := q
        have h : wpb_X5_allWays_53 a0 i10 Post K36 K53 i23 S24 := h
        have hl : lv_has ls 3 [(2, .int i23), (1, .int i10), (0, .ref a0)] := hl
        have hO : HO D Y (fR L s.heap.size) s.heap S24 H locs := hO
        unfold wpb_X5_allWays_53 at h
        refine lv_iload_n hx hb dX5_allWays_53 rfl (lv_at hl 0 rfl) ?_
        refine lv_aload_n hx hb dX5_allWays_54 rfl (lv_at hl 2 rfl) ?_
        obtain ⟨fs25, i26, e27, e27', h⟩ := h
        refine r_get C hO 4 1 rfl inX5 (Nat.le_of_ble_eq_true rfl) e27 e27' (List.mem_of_getElem? (i := 4) (by decide +kernel)) dX5_allWays_55 ?_
        refine lv_icmp_ge (tgt := 92) hx hb dX5_allWays_58 (by decide) (fun c28 => ?_) (fun c28 => ?_)
        · have h := h.1 c28
          refine lv_aload_n hx hb dX5_allWays_92 rfl (lv_at hl 2 rfl) ?_
          obtain ⟨fs29, i30, e31, e31', h⟩ := h
          refine r_get C hO 4 3 rfl inX5 (Nat.le_of_ble_eq_true rfl) e31 e31' (List.mem_of_getElem? (i := 2) (by decide +kernel)) dX5_allWays_93 ?_
          refine lv_sipush (v := (nI 300)) hx hb dX5_allWays_96 (by decide) ?_
          refine lv_icmp_le (tgt := 105) hx hb dX5_allWays_99 (by decide) (fun c32 => ?_) (fun c32 => ?_)
          · have h := h.1 c32
            obtain ⟨i33, ei33⟩ : ∃ y : Int32, y = i10 + (nI 1) := ⟨_, rfl⟩
            have h := h i33 ei33
            refine lv_iinc (v := i33) (lv' := [(1, .int i33), (2, .int i23), (0, .ref a0)]) hx hb dX5_allWays_105 hl (k := 1) rfl (by rw [ei33]; rfl) (by decide) rfl (fun ls hl => ?_)
            refine lv_goto (tgt := 36) hx hb dX5_allWays_108 (by decide) ?_
            exact ih36 (i33, S24) _ _ _ h (lv_sub hl [0, 2] rfl) hO
          · have h := h.2 c32
            refine lv_bipush (v := (-6 : Int32)) hx hb dX5_allWays_102 (by decide) ?_
            exact W.iret hx hb hr (fun t ht hW => ⟨⟨(-6 : Int32), S24, rfl, h, hO.q ht⟩, hO.f ht⟩) hO.lc dX5_allWays_104
        · have h := h.2 c28
          refine lv_iload_n hx hb dX5_allWays_61 rfl (lv_at hl 0 rfl) ?_
          refine lv_bipush (v := (nI 6)) hx hb dX5_allWays_62 (by decide) ?_
          refine lv_icmp_ge (tgt := 92) hx hb dX5_allWays_64 (by decide) (fun c34 => ?_) (fun c34 => ?_)
          · have h := h.1 c34
            refine lv_aload_n hx hb dX5_allWays_92 rfl (lv_at hl 2 rfl) ?_
            obtain ⟨fs35, i36, e37, e37', h⟩ := h
            refine r_get C hO 4 3 rfl inX5 (Nat.le_of_ble_eq_true rfl) e37 e37' (List.mem_of_getElem? (i := 2) (by decide +kernel)) dX5_allWays_93 ?_
            refine lv_sipush (v := (nI 300)) hx hb dX5_allWays_96 (by decide) ?_
            refine lv_icmp_le (tgt := 105) hx hb dX5_allWays_99 (by decide) (fun c38 => ?_) (fun c38 => ?_)
            · have h := h.1 c38
              obtain ⟨i39, ei39⟩ : ∃ y : Int32, y = i10 + (nI 1) := ⟨_, rfl⟩
              have h := h i39 ei39
              refine lv_iinc (v := i39) (lv' := [(1, .int i39), (2, .int i23), (0, .ref a0)]) hx hb dX5_allWays_105 hl (k := 1) rfl (by rw [ei39]; rfl) (by decide) rfl (fun ls hl => ?_)
              refine lv_goto (tgt := 36) hx hb dX5_allWays_108 (by decide) ?_
              exact ih36 (i39, S24) _ _ _ h (lv_sub hl [0, 2] rfl) hO
            · have h := h.2 c38
              refine lv_bipush (v := (-6 : Int32)) hx hb dX5_allWays_102 (by decide) ?_
              exact W.iret hx hb hr (fun t ht hW => ⟨⟨(-6 : Int32), S24, rfl, h, hO.q ht⟩, hO.f ht⟩) hO.lc dX5_allWays_104
          · have h := h.2 c34
            refine lv_aload_n hx hb dX5_allWays_67 rfl (lv_at hl 2 rfl) ?_
            refine lv_aload_n hx hb dX5_allWays_68 rfl (lv_at hl 2 rfl) ?_
            obtain ⟨fs40, a41, e42, e42', h⟩ := h
            refine r_get C hO 4 2 rfl inX5 (Nat.le_of_ble_eq_true rfl) e42 e42' (List.mem_of_getElem? (i := 5) (by decide +kernel)) dX5_allWays_69 ?_
            refine lv_iload_n hx hb dX5_allWays_72 rfl (lv_at hl 1 rfl) ?_
            obtain ⟨n43, f44, j46, e45, e45', exj46, h⟩ := h
            refine r_lald C hO e45 e45' dX5_allWays_73 ?_
            rw [exj46]
            refine lv_aload_n hx hb dX5_allWays_74 rfl (lv_at hl 2 rfl) ?_
            obtain ⟨fs47, a48, e49, e49', h⟩ := h
            refine r_get C hO 4 0 rfl inX5 (Nat.le_of_ble_eq_true rfl) e49 e49' (List.mem_of_getElem? (i := 6) (by decide +kernel)) dX5_allWays_75 ?_
            refine lv_iload_n hx hb dX5_allWays_78 rfl (lv_at hl 0 rfl) ?_
            obtain ⟨n50, f51, j53, e52, e52', exj53, h⟩ := h
            refine r_lald C hO e52 e52' dX5_allWays_79 ?_
            rw [exj53]
            refine cS_sl (As := [.long j46, .long j53]) (rest := [.ref a0]) (n := 2) CF hZ (c_X6_then l j46 j53 _ h) (va_cwS 2 hts gX5_allWays_X6_then rfl rfl rfl hdS_X6_then ⟨Nat.le_of_ble_eq_true rfl, Nat.le_of_ble_eq_true rfl⟩) rfl hl.1 rfl (Nat.le_of_ble_eq_true rfl) dX5_allWays_80 ⟨Nat.le_of_ble_eq_true rfl, Nat.le_of_ble_eq_true rfl⟩ (fun j54 h => ?_)
            obtain ⟨fs57, e56, h⟩ := h
            refine cV_wv (As := [.long j54]) (rest := []) (n := 1) C hO (fun L => c_X5_note l D Y L S24 H.size a0 j54 _ h) 4 rfl e56 (cwV 1 hts gX5_allWays_X5_note rfl rfl rfl ⟨rfl, hdS_X5_note⟩ ⟨Nat.le_of_ble_eq_true rfl, Nat.le_of_ble_eq_true rfl⟩) rfl hl.1 rfl (Nat.le_of_ble_eq_true rfl) dX5_allWays_83 ⟨Nat.le_of_ble_eq_true rfl, Nat.le_of_ble_eq_true rfl⟩ (fun S55 H locs h hO => ?_)
            obtain ⟨i58, ei58⟩ : ∃ y : Int32, y = i23 + (nI 1) := ⟨_, rfl⟩
            have h := h i58 ei58
            refine lv_iinc (v := i58) (lv' := [(2, .int i58), (1, .int i10), (0, .ref a0)]) hx hb dX5_allWays_86 hl (k := 0) rfl (by rw [ei58]; rfl) (by decide) rfl (fun ls hl => ?_)
            refine lv_goto (tgt := 53) hx hb dX5_allWays_89 (by decide) ?_
            exact ih53 (i58, S55) _ _ _ h (lv_sub hl [0, 1, 2] rfl) hO
  · have h := h.2 c3
    refine lv_aload_n hx hb dX5_allWays_9 rfl (lv_at hl 1 rfl) ?_
    obtain ⟨fs61, a62, e63, e63', h⟩ := h
    refine r_get C hO 4 4 rfl inX5 (Nat.le_of_ble_eq_true rfl) e63 e63' (List.mem_of_getElem? (i := 1) (by decide +kernel)) dX5_allWays_10 ?_
    refine lv_iload_n hx hb dX5_allWays_13 rfl (lv_at hl 0 rfl) ?_
    refine lv_lconst (v := (lN 0)) hx hb dX5_allWays_14 (by decide) ?_
    obtain ⟨n64, f65, e66, e66', h⟩ := h
    refine r_last C hO e66 e66' dX5_allWays_15 (fun H locs hO => ?_)
    obtain ⟨S67, eS67⟩ : ∃ Sx, Sx = va_up S2 a62 (aJ n64 (vp_updL f65 (i1).toNatClampNeg (lN 0))) := ⟨_, rfl⟩
    rw [← eS67] at hO
    have h := h S67 eS67
    obtain ⟨i68, ei68⟩ : ∃ y : Int32, y = i1 + (nI 1) := ⟨_, rfl⟩
    have h := h i68 ei68
    refine lv_iinc (v := i68) (lv' := [(1, .int i68), (0, .ref a0)]) hx hb dX5_allWays_16 hl (k := 0) rfl (by rw [ei68]; rfl) (by decide) rfl (fun ls hl => ?_)
    refine lv_goto (tgt := 2) hx hb dX5_allWays_19 (by decide) ?_
    exact ih2 (i68, S67) _ _ _ h (lv_sub hl [0, 1] rfl) hO
theorem hdS_X6_power : yX6_power.cls ≠ "java/lang/invoke/MethodHandle" ∧ yX6_power.cls ≠ "java/lang/invoke/VarHandle" ∧ (parseMethodDescriptor yX6_power.desc).map (fun d => d.parameters.length) = some 2 := by decide +kernel
set_option maxHeartbeats 4000000 in
set_option maxRecDepth 100000 in
theorem c_X6_power (l : Launch) (v0 : Int64) (v2 : Int32) (Post : Int64 → Prop) (h : wp_X6_power v0 v2 Post) : Met l yX6_power wsX6_power ({ frames := 2, cells := 0, slots := 0, locals := 48 }) (va_Pc [.long v0, .int v2] NZ) (vp_Sl Post) 0 0 (fun _ => False) := by
  refine Met.ofW (cc := cX6_power) (maxL := 8) (ret := (some .long)) (by decide) rfl ?_
  intro p e s m args below meth c s₁ B hml hv
  obtain ⟨rfl, hZ⟩ := hv
  have hx := B.exec
  have hb := B.bytes
  have hr := B.returns
  have hts := atoms_spec (ws := wsX6_power) B.pre
  have hown : s.vm.findClass RX6 = some m.cls := findClass_of_methodNamed B.named
  have hlocks := B.notSynchronized
  have CF : CallFix p m c cX6_power 8 s ([.long v0, .int v2] : List Value).toArray wsX6_power RX6 := ⟨hx, hb, hml, hown, hts⟩
  have hl := lv_entry ([.long v0, .int v2]) (n := 8) (Nat.le_of_ble_eq_true rfl)
  rw [lg_entry_eq]
  generalize (lg_sl ([.long v0, .int v2]) ++ List.replicate (8 - (lg_sl ([.long v0, .int v2])).length) Slot.unset).toArray = ls at hl ⊢
  have hl : lv_has ls 8 [(0, .long v0), (2, .int v2)] := hl
  unfold wp_X6_power at h
  refine lv_ldc2 hx hb hown (hts _ (List.mem_of_getElem? (i := 1) (by decide +kernel : wsX6_power[1]? = some (Cond.constantLong RX6 15 (205163983024656))))) dX6_power_0 ?_
  refine lv_lstore_n (lv' := [(3, .long (205163983024656 : Int64)), (0, .long v0), (2, .int v2)]) hx hb dX6_power_3 rfl hl (by decide) rfl (fun ls hl => ?_)
  refine lv_lload_n hx hb dX6_power_4 rfl (lv_at hl 1 rfl) ?_
  refine lv_lstore (lv' := [(5, .long v0), (3, .long (205163983024656 : Int64)), (0, .long v0), (2, .int v2)]) hx hb dX6_power_5 hl (by decide) rfl (fun ls hl => ?_)
  refine lv_iload_n hx hb dX6_power_7 rfl (lv_at hl 3 rfl) ?_
  refine lv_istore (lv' := [(7, .int v2), (5, .long v0), (3, .long (205163983024656 : Int64)), (0, .long v0), (2, .int v2)]) hx hb dX6_power_8 hl (by decide) rfl (fun ls hl => ?_)
  obtain ⟨n11, h⟩ := h
  refine lp_P (nL := 8) (fun q => [(7, .int q.1), (5, .long q.2.1), (3, .long q.2.2)]) h (lv_sub hl [0, 1, 2] rfl) (fun K10 ih10 q ls h hl => ?_)
  obtain ⟨i1, j2, j3⟩ := q
  have h : wpb_X6_power_10 Post K10 i1 j2 j3 := h
  have hl : lv_has ls 8 [(7, .int i1), (5, .long j2), (3, .long j3)] := hl
  unfold wpb_X6_power_10 at h
  refine lv_iload hx hb dX6_power_10 (lv_at hl 0 rfl) ?_
  refine lv_if_le (tgt := 48) hx hb dX6_power_12 (by decide) (fun c4 => ?_) (fun c4 => ?_)
  · have h := h.1 c4
    refine lv_lload_n hx hb dX6_power_48 rfl (lv_at hl 2 rfl) ?_
    exact W.lret hx hb hr (fun t ht hW => ⟨j3, rfl, h, ht⟩) no_locs dX6_power_49
  · have h := h.2 c4
    refine lv_iload hx hb dX6_power_15 (lv_at hl 0 rfl) ?_
    refine lv_iconst (v := (nI 1)) hx hb dX6_power_17 (by decide) ?_
    refine lv_iand hx hb dX6_power_18 ?_
    refine lv_iconst (v := (nI 1)) hx hb dX6_power_19 (by decide) ?_
    refine lv_icmp_ne (tgt := 30) hx hb dX6_power_20 (by decide) (fun c5 => ?_) (fun c5 => ?_)
    · have h := h.2 c5
      refine lv_lload hx hb dX6_power_30 (lv_at hl 1 rfl) ?_
      refine lv_lload hx hb dX6_power_32 (lv_at hl 1 rfl) ?_
      refine cS_sl (As := [.long j2, .long j2]) (rest := []) (n := 2) CF hZ (c_X6_then l j2 j2 _ h) (va_cwS 2 hts gX6_power_X6_then rfl rfl rfl hdS_X6_then ⟨Nat.le_of_ble_eq_true rfl, Nat.le_of_ble_eq_true rfl⟩) rfl hl.1 rfl (Nat.le_of_ble_eq_true rfl) dX6_power_34 ⟨Nat.le_of_ble_eq_true rfl, Nat.le_of_ble_eq_true rfl⟩ (fun j6 h => ?_)
      refine lv_lstore (lv' := [(5, .long j6), (7, .int i1), (3, .long j3)]) hx hb dX6_power_37 hl (by decide) rfl (fun ls hl => ?_)
      refine lv_iload hx hb dX6_power_39 (lv_at hl 1 rfl) ?_
      refine lv_iconst (v := (nI 1)) hx hb dX6_power_41 (by decide) ?_
      refine lv_ishr hx hb dX6_power_42 ?_
      refine lv_topi (fun i7 ei7 => ?_)
      have h := h i7 ei7
      refine lv_istore (lv' := [(7, .int i7), (5, .long j6), (3, .long j3)]) hx hb dX6_power_43 hl (by decide) rfl (fun ls hl => ?_)
      refine lv_goto (tgt := 10) hx hb dX6_power_45 (by decide) ?_
      exact ih10 (i7, j6, j3) _ h (lv_sub hl [0, 1, 2] rfl)
    · have h := h.1 c5
      refine lv_lload_n hx hb dX6_power_23 rfl (lv_at hl 2 rfl) ?_
      refine lv_lload hx hb dX6_power_24 (lv_at hl 1 rfl) ?_
      refine cS_sl (As := [.long j3, .long j2]) (rest := []) (n := 2) CF hZ (c_X6_then l j3 j2 _ h) (va_cwS 2 hts gX6_power_X6_then rfl rfl rfl hdS_X6_then ⟨Nat.le_of_ble_eq_true rfl, Nat.le_of_ble_eq_true rfl⟩) rfl hl.1 rfl (Nat.le_of_ble_eq_true rfl) dX6_power_26 ⟨Nat.le_of_ble_eq_true rfl, Nat.le_of_ble_eq_true rfl⟩ (fun j8 h => ?_)
      refine lv_lstore_n (lv' := [(3, .long j8), (7, .int i1), (5, .long j2)]) hx hb dX6_power_29 rfl hl (by decide) rfl (fun ls hl => ?_)
      refine lv_lload hx hb dX6_power_30 (lv_at hl 2 rfl) ?_
      refine lv_lload hx hb dX6_power_32 (lv_at hl 2 rfl) ?_
      refine cS_sl (As := [.long j2, .long j2]) (rest := []) (n := 2) CF hZ (c_X6_then l j2 j2 _ h) (va_cwS 2 hts gX6_power_X6_then rfl rfl rfl hdS_X6_then ⟨Nat.le_of_ble_eq_true rfl, Nat.le_of_ble_eq_true rfl⟩) rfl hl.1 rfl (Nat.le_of_ble_eq_true rfl) dX6_power_34 ⟨Nat.le_of_ble_eq_true rfl, Nat.le_of_ble_eq_true rfl⟩ (fun j9 h => ?_)
      refine lv_lstore (lv' := [(5, .long j9), (3, .long j8), (7, .int i1)]) hx hb dX6_power_37 hl (by decide) rfl (fun ls hl => ?_)
      refine lv_iload hx hb dX6_power_39 (lv_at hl 2 rfl) ?_
      refine lv_iconst (v := (nI 1)) hx hb dX6_power_41 (by decide) ?_
      refine lv_ishr hx hb dX6_power_42 ?_
      refine lv_topi (fun i10 ei10 => ?_)
      have h := h i10 ei10
      refine lv_istore (lv' := [(7, .int i10), (5, .long j9), (3, .long j8)]) hx hb dX6_power_43 hl (by decide) rfl (fun ls hl => ?_)
      refine lv_goto (tgt := 10) hx hb dX6_power_45 (by decide) ?_
      exact ih10 (i10, j9, j8) _ h (lv_sub hl [0, 1, 2] rfl)
theorem hdS_X6_alikePlaces : yX6_alikePlaces.cls ≠ "java/lang/invoke/MethodHandle" ∧ yX6_alikePlaces.cls ≠ "java/lang/invoke/VarHandle" ∧ (parseMethodDescriptor yX6_alikePlaces.desc).map (fun d => d.parameters.length) = some 2 := by decide +kernel
set_option maxHeartbeats 4000000 in
set_option maxRecDepth 100000 in
theorem c_X6_alikePlaces (l : Launch) (v0 : Int64) (v2 : Int64) (Post : Int32 → Prop) (h : wp_X6_alikePlaces v0 v2 Post) : Met l yX6_alikePlaces wsX6_alikePlaces ({ frames := 1, cells := 0, slots := 0, locals := 22 }) (va_Pc [.long v0, .long v2] NZ) (vp_Si Post) 0 0 (fun _ => False) := by
  refine Met.ofW (cc := cX6_alikePlaces) (maxL := 6) (ret := (some .int)) (by decide) rfl ?_
  intro p e s m args below meth c s₁ B hml hv
  obtain ⟨rfl, hZ⟩ := hv
  have hx := B.exec
  have hb := B.bytes
  have hr := B.returns
  have hts := atoms_spec (ws := wsX6_alikePlaces) B.pre
  have hown : s.vm.findClass RX6 = some m.cls := findClass_of_methodNamed B.named
  have hlocks := B.notSynchronized
  have CF : CallFix p m c cX6_alikePlaces 6 s ([.long v0, .long v2] : List Value).toArray wsX6_alikePlaces RX6 := ⟨hx, hb, hml, hown, hts⟩
  have hl := lv_entry ([.long v0, .long v2]) (n := 6) (Nat.le_of_ble_eq_true rfl)
  rw [lg_entry_eq]
  generalize (lg_sl ([.long v0, .long v2]) ++ List.replicate (6 - (lg_sl ([.long v0, .long v2])).length) Slot.unset).toArray = ls at hl ⊢
  have hl : lv_has ls 6 [(0, .long v0), (2, .long v2)] := hl
  unfold wp_X6_alikePlaces at h
  refine lv_iconst (v := (nI 0)) hx hb dX6_alikePlaces_0 (by decide) ?_
  refine lv_istore (lv' := [(4, .int (nI 0)), (0, .long v0), (2, .long v2)]) hx hb dX6_alikePlaces_1 hl (by decide) rfl (fun ls hl => ?_)
  refine lv_iconst (v := (nI 0)) hx hb dX6_alikePlaces_3 (by decide) ?_
  refine lv_istore (lv' := [(5, .int (nI 0)), (4, .int (nI 0)), (0, .long v0), (2, .long v2)]) hx hb dX6_alikePlaces_4 hl (by decide) rfl (fun ls hl => ?_)
  obtain ⟨n10, h⟩ := h
  refine lp_P (nL := 6) (fun q => [(5, .int q.1), (4, .int q.2), (0, .long v0), (2, .long v2)]) h (lv_sub hl [0, 1, 2, 3] rfl) (fun K6 ih6 q ls h hl => ?_)
  obtain ⟨i1, i2⟩ := q
  have h : wpb_X6_alikePlaces_6 v0 v2 Post K6 i1 i2 := h
  have hl : lv_has ls 6 [(5, .int i1), (4, .int i2), (0, .long v0), (2, .long v2)] := hl
  unfold wpb_X6_alikePlaces_6 at h
  refine lv_iload hx hb dX6_alikePlaces_6 (lv_at hl 0 rfl) ?_
  refine lv_bipush (v := (nI 12)) hx hb dX6_alikePlaces_8 (by decide) ?_
  refine lv_icmp_ge (tgt := 43) hx hb dX6_alikePlaces_10 (by decide) (fun c3 => ?_) (fun c3 => ?_)
  · have h := h.1 c3
    refine lv_iload hx hb dX6_alikePlaces_43 (lv_at hl 1 rfl) ?_
    exact W.iret hx hb hr (fun t ht hW => ⟨i2, rfl, h, ht⟩) no_locs dX6_alikePlaces_45
  · have h := h.2 c3
    refine lv_lload_n hx hb dX6_alikePlaces_13 rfl (lv_at hl 2 rfl) ?_
    refine lv_iload hx hb dX6_alikePlaces_14 (lv_at hl 0 rfl) ?_
    refine cS_si (As := [.long v0, .int i1]) (rest := []) (n := 2) CF hZ (c_X4_at l v0 i1 _ h) (va_cwS 2 hts gX6_alikePlaces_X4_at rfl rfl rfl hdS_X4_at ⟨Nat.le_of_ble_eq_true rfl, Nat.le_of_ble_eq_true rfl⟩) rfl hl.1 rfl (Nat.le_of_ble_eq_true rfl) dX6_alikePlaces_16 ⟨Nat.le_of_ble_eq_true rfl, Nat.le_of_ble_eq_true rfl⟩ (fun i4 h => ?_)
    refine lv_lload_n hx hb dX6_alikePlaces_19 rfl (lv_at hl 3 rfl) ?_
    refine lv_iload hx hb dX6_alikePlaces_20 (lv_at hl 0 rfl) ?_
    refine cS_si (As := [.long v2, .int i1]) (rest := [.int i4]) (n := 2) CF hZ (c_X4_at l v2 i1 _ h) (va_cwS 2 hts gX6_alikePlaces_X4_at rfl rfl rfl hdS_X4_at ⟨Nat.le_of_ble_eq_true rfl, Nat.le_of_ble_eq_true rfl⟩) rfl hl.1 rfl (Nat.le_of_ble_eq_true rfl) dX6_alikePlaces_22 ⟨Nat.le_of_ble_eq_true rfl, Nat.le_of_ble_eq_true rfl⟩ (fun i5 h => ?_)
    refine lv_icmp_ne (tgt := 37) hx hb dX6_alikePlaces_25 (by decide) (fun c6 => ?_) (fun c6 => ?_)
    · have h := h.2 c6
      obtain ⟨i7, ei7⟩ : ∃ y : Int32, y = i1 + (nI 1) := ⟨_, rfl⟩
      have h := h i7 ei7
      refine lv_iinc (v := i7) (lv' := [(5, .int i7), (4, .int i2), (0, .long v0), (2, .long v2)]) hx hb dX6_alikePlaces_37 hl (k := 0) rfl (by rw [ei7]; rfl) (by decide) rfl (fun ls hl => ?_)
      refine lv_goto (tgt := 6) hx hb dX6_alikePlaces_40 (by decide) ?_
      exact ih6 (i7, i2) _ h (lv_sub hl [0, 1, 2, 3] rfl)
    · have h := h.1 c6
      refine lv_iload hx hb dX6_alikePlaces_28 (lv_at hl 1 rfl) ?_
      refine lv_iconst (v := (nI 1)) hx hb dX6_alikePlaces_30 (by decide) ?_
      refine lv_iload hx hb dX6_alikePlaces_31 (lv_at hl 0 rfl) ?_
      refine lv_ishl hx hb dX6_alikePlaces_33 ?_
      refine lv_ior hx hb dX6_alikePlaces_34 ?_
      refine lv_topi (fun i8 ei8 => ?_)
      have h := h i8 ei8
      refine lv_istore (lv' := [(4, .int i8), (5, .int i1), (0, .long v0), (2, .long v2)]) hx hb dX6_alikePlaces_35 hl (by decide) rfl (fun ls hl => ?_)
      obtain ⟨i9, ei9⟩ : ∃ y : Int32, y = i1 + (nI 1) := ⟨_, rfl⟩
      have h := h i9 ei9
      refine lv_iinc (v := i9) (lv' := [(5, .int i9), (4, .int i8), (0, .long v0), (2, .long v2)]) hx hb dX6_alikePlaces_37 hl (k := 1) rfl (by rw [ei9]; rfl) (by decide) rfl (fun ls hl => ?_)
      refine lv_goto (tgt := 6) hx hb dX6_alikePlaces_40 (by decide) ?_
      exact ih6 (i9, i8) _ h (lv_sub hl [0, 1, 2, 3] rfl)
theorem hdS_J6_bitCount_0f7a4 : yJ6_bitCount_0f7a4.cls ≠ "java/lang/invoke/MethodHandle" ∧ yJ6_bitCount_0f7a4.cls ≠ "java/lang/invoke/VarHandle" ∧ (parseMethodDescriptor yJ6_bitCount_0f7a4.desc).map (fun d => d.parameters.length) = some 1 := by decide +kernel
set_option maxHeartbeats 4000000 in
set_option maxRecDepth 100000 in
theorem c_J6_bitCount_0f7a4 (l : Launch) (v0 : Int32) (Post : Int32 → Prop) (h : wp_J6_bitCount_0f7a4 v0 Post) : Met l yJ6_bitCount_0f7a4 wsJ6_bitCount_0f7a4 ({ frames := 0, cells := 0, slots := 0, locals := 0 }) (va_Pc [.int v0] NZ) (vp_Si Post) 0 0 (fun _ => False) := by
  refine Met.ofW (cc := cJ6_bitCount_0f7a4) (maxL := 1) (ret := (some .int)) (by decide) rfl ?_
  intro p e s m args below meth c s₁ B hml hv
  obtain ⟨rfl, hZ⟩ := hv
  have hx := B.exec
  have hb := B.bytes
  have hr := B.returns
  have hts := atoms_spec (ws := wsJ6_bitCount_0f7a4) B.pre
  have hown : s.vm.findClass RJ6 = some m.cls := findClass_of_methodNamed B.named
  have hlocks := B.notSynchronized
  have CF : CallFix p m c cJ6_bitCount_0f7a4 1 s ([.int v0] : List Value).toArray wsJ6_bitCount_0f7a4 RJ6 := ⟨hx, hb, hml, hown, hts⟩
  have hl := lv_entry ([.int v0]) (n := 1) (Nat.le_of_ble_eq_true rfl)
  rw [lg_entry_eq]
  generalize (lg_sl ([.int v0]) ++ List.replicate (1 - (lg_sl ([.int v0])).length) Slot.unset).toArray = ls at hl ⊢
  have hl : lv_has ls 1 [(0, .int v0)] := hl
  unfold wp_J6_bitCount_0f7a4 at h
  refine lv_iload_n hx hb dJ6_bitCount_0f7a4_0 rfl (lv_at hl 0 rfl) ?_
  refine lv_iload_n hx hb dJ6_bitCount_0f7a4_1 rfl (lv_at hl 0 rfl) ?_
  refine lv_iconst (v := (nI 1)) hx hb dJ6_bitCount_0f7a4_2 (by decide) ?_
  refine lv_iushr (v := (uShr v0 (nI 1))) hx hb dJ6_bitCount_0f7a4_3 rfl ?_
  refine lv_ldcw hx hb hown (hts _ (List.mem_of_getElem? (i := 1) (by decide +kernel : wsJ6_bitCount_0f7a4[1]? = some (Cond.constant RJ6 265 (1431655765))))) dJ6_bitCount_0f7a4_4 ?_
  refine lv_iand hx hb dJ6_bitCount_0f7a4_7 ?_
  refine lv_isub hx hb dJ6_bitCount_0f7a4_8 ?_
  refine lv_topi (fun i1 ei1 => ?_)
  have h := h i1 ei1
  refine lv_istore_n (lv' := [(0, .int i1)]) hx hb dJ6_bitCount_0f7a4_9 rfl hl (by decide) rfl (fun ls hl => ?_)
  refine lv_iload_n hx hb dJ6_bitCount_0f7a4_10 rfl (lv_at hl 0 rfl) ?_
  refine lv_ldcw hx hb hown (hts _ (List.mem_of_getElem? (i := 2) (by decide +kernel : wsJ6_bitCount_0f7a4[2]? = some (Cond.constant RJ6 266 (858993459))))) dJ6_bitCount_0f7a4_11 ?_
  refine lv_iand hx hb dJ6_bitCount_0f7a4_14 ?_
  refine lv_iload_n hx hb dJ6_bitCount_0f7a4_15 rfl (lv_at hl 0 rfl) ?_
  refine lv_iconst (v := (nI 2)) hx hb dJ6_bitCount_0f7a4_16 (by decide) ?_
  refine lv_iushr (v := (uShr i1 (nI 2))) hx hb dJ6_bitCount_0f7a4_17 rfl ?_
  refine lv_ldcw hx hb hown (hts _ (List.mem_of_getElem? (i := 2) (by decide +kernel : wsJ6_bitCount_0f7a4[2]? = some (Cond.constant RJ6 266 (858993459))))) dJ6_bitCount_0f7a4_18 ?_
  refine lv_iand hx hb dJ6_bitCount_0f7a4_21 ?_
  refine lv_iadd hx hb dJ6_bitCount_0f7a4_22 ?_
  refine lv_topi (fun i2 ei2 => ?_)
  have h := h i2 ei2
  refine lv_istore_n (lv' := [(0, .int i2)]) hx hb dJ6_bitCount_0f7a4_23 rfl hl (by decide) rfl (fun ls hl => ?_)
  refine lv_iload_n hx hb dJ6_bitCount_0f7a4_24 rfl (lv_at hl 0 rfl) ?_
  refine lv_iload_n hx hb dJ6_bitCount_0f7a4_25 rfl (lv_at hl 0 rfl) ?_
  refine lv_iconst (v := (nI 4)) hx hb dJ6_bitCount_0f7a4_26 (by decide) ?_
  refine lv_iushr (v := (uShr i2 (nI 4))) hx hb dJ6_bitCount_0f7a4_27 rfl ?_
  refine lv_iadd hx hb dJ6_bitCount_0f7a4_28 ?_
  refine lv_ldcw hx hb hown (hts _ (List.mem_of_getElem? (i := 3) (by decide +kernel : wsJ6_bitCount_0f7a4[3]? = some (Cond.constant RJ6 267 (252645135))))) dJ6_bitCount_0f7a4_29 ?_
  refine lv_iand hx hb dJ6_bitCount_0f7a4_32 ?_
  refine lv_topi (fun i3 ei3 => ?_)
  have h := h i3 ei3
  refine lv_istore_n (lv' := [(0, .int i3)]) hx hb dJ6_bitCount_0f7a4_33 rfl hl (by decide) rfl (fun ls hl => ?_)
  refine lv_iload_n hx hb dJ6_bitCount_0f7a4_34 rfl (lv_at hl 0 rfl) ?_
  refine lv_iload_n hx hb dJ6_bitCount_0f7a4_35 rfl (lv_at hl 0 rfl) ?_
  refine lv_bipush (v := (nI 8)) hx hb dJ6_bitCount_0f7a4_36 (by decide) ?_
  refine lv_iushr (v := (uShr i3 (nI 8))) hx hb dJ6_bitCount_0f7a4_38 rfl ?_
  refine lv_iadd hx hb dJ6_bitCount_0f7a4_39 ?_
  refine lv_topi (fun i4 ei4 => ?_)
  have h := h i4 ei4
  refine lv_istore_n (lv' := [(0, .int i4)]) hx hb dJ6_bitCount_0f7a4_40 rfl hl (by decide) rfl (fun ls hl => ?_)
  refine lv_iload_n hx hb dJ6_bitCount_0f7a4_41 rfl (lv_at hl 0 rfl) ?_
  refine lv_iload_n hx hb dJ6_bitCount_0f7a4_42 rfl (lv_at hl 0 rfl) ?_
  refine lv_bipush (v := (nI 16)) hx hb dJ6_bitCount_0f7a4_43 (by decide) ?_
  refine lv_iushr (v := (uShr i4 (nI 16))) hx hb dJ6_bitCount_0f7a4_45 rfl ?_
  refine lv_iadd hx hb dJ6_bitCount_0f7a4_46 ?_
  refine lv_topi (fun i5 ei5 => ?_)
  have h := h i5 ei5
  refine lv_istore_n (lv' := [(0, .int i5)]) hx hb dJ6_bitCount_0f7a4_47 rfl hl (by decide) rfl (fun ls hl => ?_)
  refine lv_iload_n hx hb dJ6_bitCount_0f7a4_48 rfl (lv_at hl 0 rfl) ?_
  refine lv_bipush (v := (nI 63)) hx hb dJ6_bitCount_0f7a4_49 (by decide) ?_
  refine lv_iand hx hb dJ6_bitCount_0f7a4_51 ?_
  exact W.iret hx hb hr (fun t ht hW => ⟨(i5 &&& (nI 63)), rfl, h, ht⟩) no_locs dJ6_bitCount_0f7a4_52
theorem hdS_X6_staying : yX6_staying.cls ≠ "java/lang/invoke/MethodHandle" ∧ yX6_staying.cls ≠ "java/lang/invoke/VarHandle" ∧ (parseMethodDescriptor yX6_staying.desc).map (fun d => d.parameters.length) = some 1 := by decide +kernel
set_option maxHeartbeats 4000000 in
set_option maxRecDepth 100000 in
theorem c_X6_staying (l : Launch) (v0 : Int64) (Post : Int32 → Prop) (h : wp_X6_staying v0 Post) : Met l yX6_staying wsX6_staying ({ frames := 2, cells := 0, slots := 0, locals := 47 }) (va_Pc [.long v0] NZ) (vp_Si Post) 0 0 (fun _ => False) := by
  refine Met.ofW (cc := cX6_staying) (maxL := 2) (ret := (some .int)) (by decide) rfl ?_
  intro p e s m args below meth c s₁ B hml hv
  obtain ⟨rfl, hZ⟩ := hv
  have hx := B.exec
  have hb := B.bytes
  have hr := B.returns
  have hts := atoms_spec (ws := wsX6_staying) B.pre
  have hown : s.vm.findClass RX6 = some m.cls := findClass_of_methodNamed B.named
  have hlocks := B.notSynchronized
  have CF : CallFix p m c cX6_staying 2 s ([.long v0] : List Value).toArray wsX6_staying RX6 := ⟨hx, hb, hml, hown, hts⟩
  have hl := lv_entry ([.long v0]) (n := 2) (Nat.le_of_ble_eq_true rfl)
  rw [lg_entry_eq]
  generalize (lg_sl ([.long v0]) ++ List.replicate (2 - (lg_sl ([.long v0])).length) Slot.unset).toArray = ls at hl ⊢
  have hl : lv_has ls 2 [(0, .long v0)] := hl
  unfold wp_X6_staying at h
  refine lv_lload_n hx hb dX6_staying_0 rfl (lv_at hl 0 rfl) ?_
  refine lv_ldc2 hx hb hown (hts _ (List.mem_of_getElem? (i := 1) (by decide +kernel : wsX6_staying[1]? = some (Cond.constantLong RX6 15 (205163983024656))))) dX6_staying_1 ?_
  refine cS_si (As := [.long v0, .long (205163983024656 : Int64)]) (rest := []) (n := 2) CF hZ (c_X6_alikePlaces l v0 (205163983024656 : Int64) _ h) (va_cwS 2 hts gX6_staying_X6_alikePlaces rfl rfl rfl hdS_X6_alikePlaces ⟨Nat.le_of_ble_eq_true rfl, Nat.le_of_ble_eq_true rfl⟩) rfl hl.1 rfl (Nat.le_of_ble_eq_true rfl) dX6_staying_4 ⟨Nat.le_of_ble_eq_true rfl, Nat.le_of_ble_eq_true rfl⟩ (fun i1 h => ?_)
  refine cS_si (As := [.int i1]) (rest := []) (n := 1) CF hZ (c_J6_bitCount_0f7a4 l i1 _ h) (va_cwS 1 hts gX6_staying_J6_bitCount_0f7a4 rfl rfl rfl hdS_J6_bitCount_0f7a4 ⟨Nat.le_of_ble_eq_true rfl, Nat.le_of_ble_eq_true rfl⟩) rfl hl.1 rfl (Nat.le_of_ble_eq_true rfl) dX6_staying_7 ⟨Nat.le_of_ble_eq_true rfl, Nat.le_of_ble_eq_true rfl⟩ (fun i2 h => ?_)
  exact W.iret hx hb hr (fun t ht hW => ⟨i2, rfl, h, ht⟩) no_locs dX6_staying_10
theorem hdS_X6_timesUntilAgain : yX6_timesUntilAgain.cls ≠ "java/lang/invoke/MethodHandle" ∧ yX6_timesUntilAgain.cls ≠ "java/lang/invoke/VarHandle" ∧ (parseMethodDescriptor yX6_timesUntilAgain.desc).map (fun d => d.parameters.length) = some 2 := by decide +kernel
set_option maxHeartbeats 4000000 in
set_option maxRecDepth 100000 in
theorem c_X6_timesUntilAgain (l : Launch) (v0 : Int64) (v2 : Int64) (Post : Int32 → Prop) (h : wp_X6_timesUntilAgain v0 v2 Post) : Met l yX6_timesUntilAgain wsX6_timesUntilAgain ({ frames := 2, cells := 0, slots := 0, locals := 48 }) (va_Pc [.long v0, .long v2] NZ) (vp_Si Post) 0 0 (fun _ => False) := by
  refine Met.ofW (cc := cX6_timesUntilAgain) (maxL := 7) (ret := (some .int)) (by decide) rfl ?_
  intro p e s m args below meth c s₁ B hml hv
  obtain ⟨rfl, hZ⟩ := hv
  have hx := B.exec
  have hb := B.bytes
  have hr := B.returns
  have hts := atoms_spec (ws := wsX6_timesUntilAgain) B.pre
  have hown : s.vm.findClass RX6 = some m.cls := findClass_of_methodNamed B.named
  have hlocks := B.notSynchronized
  have CF : CallFix p m c cX6_timesUntilAgain 7 s ([.long v0, .long v2] : List Value).toArray wsX6_timesUntilAgain RX6 := ⟨hx, hb, hml, hown, hts⟩
  have hl := lv_entry ([.long v0, .long v2]) (n := 7) (Nat.le_of_ble_eq_true rfl)
  rw [lg_entry_eq]
  generalize (lg_sl ([.long v0, .long v2]) ++ List.replicate (7 - (lg_sl ([.long v0, .long v2])).length) Slot.unset).toArray = ls at hl ⊢
  have hl : lv_has ls 7 [(0, .long v0), (2, .long v2)] := hl
  unfold wp_X6_timesUntilAgain at h
  refine lv_lload_n hx hb dX6_timesUntilAgain_0 rfl (lv_at hl 1 rfl) ?_
  refine lv_lload_n hx hb dX6_timesUntilAgain_1 rfl (lv_at hl 0 rfl) ?_
  refine cS_sl (As := [.long v2, .long v0]) (rest := []) (n := 2) CF hZ (c_X4_moved l v2 v0 _ h) (va_cwS 2 hts gX6_timesUntilAgain_X4_moved rfl rfl rfl hdS_X4_moved ⟨Nat.le_of_ble_eq_true rfl, Nat.le_of_ble_eq_true rfl⟩) rfl hl.1 rfl (Nat.le_of_ble_eq_true rfl) dX6_timesUntilAgain_2 ⟨Nat.le_of_ble_eq_true rfl, Nat.le_of_ble_eq_true rfl⟩ (fun j1 h => ?_)
  refine lv_lstore (lv' := [(4, .long j1), (0, .long v0), (2, .long v2)]) hx hb dX6_timesUntilAgain_5 hl (by decide) rfl (fun ls hl => ?_)
  refine lv_iconst (v := (nI 1)) hx hb dX6_timesUntilAgain_7 (by decide) ?_
  refine lv_istore (lv' := [(6, .int (nI 1)), (4, .long j1), (0, .long v0), (2, .long v2)]) hx hb dX6_timesUntilAgain_8 hl (by decide) rfl (fun ls hl => ?_)
  obtain ⟨n8, h⟩ := h
  refine lp_P (nL := 7) (fun q => [(6, .int q.1), (4, .long q.2), (0, .long v0), (2, .long v2)]) h (lv_sub hl [0, 1, 2, 3] rfl) (fun K10 ih10 q ls h hl => ?_)
  obtain ⟨i2, j3⟩ := q
  have h : wpb_X6_timesUntilAgain_10 v0 v2 Post K10 i2 j3 := h
  have hl : lv_has ls 7 [(6, .int i2), (4, .long j3), (0, .long v0), (2, .long v2)] := hl
  unfold wpb_X6_timesUntilAgain_10 at h
  refine lv_lload hx hb dX6_timesUntilAgain_10 (lv_at hl 1 rfl) ?_
  refine lv_lload_n hx hb dX6_timesUntilAgain_12 rfl (lv_at hl 3 rfl) ?_
  refine W.lcmp hx hb dX6_timesUntilAgain_13 ?_
  refine lv_if_eq (tgt := 38) hx hb dX6_timesUntilAgain_14 (by decide) (fun c4 => ?_) (fun c4 => ?_)
  · have h := h.1 c4
    refine lv_iload hx hb dX6_timesUntilAgain_38 (lv_at hl 0 rfl) ?_
    exact W.iret hx hb hr (fun t ht hW => ⟨i2, rfl, h, ht⟩) no_locs dX6_timesUntilAgain_40
  · have h := h.2 c4
    refine lv_iload hx hb dX6_timesUntilAgain_17 (lv_at hl 0 rfl) ?_
    refine lv_bipush (v := (nI 60)) hx hb dX6_timesUntilAgain_19 (by decide) ?_
    refine lv_icmp_ge (tgt := 38) hx hb dX6_timesUntilAgain_21 (by decide) (fun c5 => ?_) (fun c5 => ?_)
    · have h := h.1 c5
      refine lv_iload hx hb dX6_timesUntilAgain_38 (lv_at hl 0 rfl) ?_
      exact W.iret hx hb hr (fun t ht hW => ⟨i2, rfl, h, ht⟩) no_locs dX6_timesUntilAgain_40
    · have h := h.2 c5
      refine lv_lload hx hb dX6_timesUntilAgain_24 (lv_at hl 1 rfl) ?_
      refine lv_lload_n hx hb dX6_timesUntilAgain_26 rfl (lv_at hl 2 rfl) ?_
      refine cS_sl (As := [.long j3, .long v0]) (rest := []) (n := 2) CF hZ (c_X4_moved l j3 v0 _ h) (va_cwS 2 hts gX6_timesUntilAgain_X4_moved rfl rfl rfl hdS_X4_moved ⟨Nat.le_of_ble_eq_true rfl, Nat.le_of_ble_eq_true rfl⟩) rfl hl.1 rfl (Nat.le_of_ble_eq_true rfl) dX6_timesUntilAgain_27 ⟨Nat.le_of_ble_eq_true rfl, Nat.le_of_ble_eq_true rfl⟩ (fun j6 h => ?_)
      refine lv_lstore (lv' := [(4, .long j6), (6, .int i2), (0, .long v0), (2, .long v2)]) hx hb dX6_timesUntilAgain_30 hl (by decide) rfl (fun ls hl => ?_)
      obtain ⟨i7, ei7⟩ : ∃ y : Int32, y = i2 + (nI 1) := ⟨_, rfl⟩
      have h := h i7 ei7
      refine lv_iinc (v := i7) (lv' := [(6, .int i7), (4, .long j6), (0, .long v0), (2, .long v2)]) hx hb dX6_timesUntilAgain_32 hl (k := 1) rfl (by rw [ei7]; rfl) (by decide) rfl (fun ls hl => ?_)
      refine lv_goto (tgt := 10) hx hb dX6_timesUntilAgain_35 (by decide) ?_
      exact ih10 (i7, j6) _ h (lv_sub hl [0, 1, 2, 3] rfl)
theorem hdS_X6_cycleOf : yX6_cycleOf.cls ≠ "java/lang/invoke/MethodHandle" ∧ yX6_cycleOf.cls ≠ "java/lang/invoke/VarHandle" ∧ (parseMethodDescriptor yX6_cycleOf.desc).map (fun d => d.parameters.length) = some 2 := by decide +kernel
set_option maxHeartbeats 4000000 in
set_option maxRecDepth 100000 in
theorem c_X6_cycleOf (l : Launch) (v0 : Int64) (v2 : Int32) (Post : Int32 → Prop) (h : wp_X6_cycleOf v0 v2 Post) : Met l yX6_cycleOf wsX6_cycleOf ({ frames := 1, cells := 0, slots := 0, locals := 22 }) (va_Pc [.long v0, .int v2] NZ) (vp_Si Post) 0 0 (fun _ => False) := by
  refine Met.ofW (cc := cX6_cycleOf) (maxL := 6) (ret := (some .int)) (by decide) rfl ?_
  intro p e s m args below meth c s₁ B hml hv
  obtain ⟨rfl, hZ⟩ := hv
  have hx := B.exec
  have hb := B.bytes
  have hr := B.returns
  have hts := atoms_spec (ws := wsX6_cycleOf) B.pre
  have hown : s.vm.findClass RX6 = some m.cls := findClass_of_methodNamed B.named
  have hlocks := B.notSynchronized
  have CF : CallFix p m c cX6_cycleOf 6 s ([.long v0, .int v2] : List Value).toArray wsX6_cycleOf RX6 := ⟨hx, hb, hml, hown, hts⟩
  have hl := lv_entry ([.long v0, .int v2]) (n := 6) (Nat.le_of_ble_eq_true rfl)
  rw [lg_entry_eq]
  generalize (lg_sl ([.long v0, .int v2]) ++ List.replicate (6 - (lg_sl ([.long v0, .int v2])).length) Slot.unset).toArray = ls at hl ⊢
  have hl : lv_has ls 6 [(0, .long v0), (2, .int v2)] := hl
  unfold wp_X6_cycleOf at h
  refine lv_iconst (v := (nI 1)) hx hb dX6_cycleOf_0 (by decide) ?_
  refine lv_iload_n hx hb dX6_cycleOf_1 rfl (lv_at hl 1 rfl) ?_
  refine lv_ishl hx hb dX6_cycleOf_2 ?_
  refine lv_topi (fun i1 ei1 => ?_)
  have h := h i1 ei1
  refine lv_istore_n (lv' := [(3, .int i1), (0, .long v0), (2, .int v2)]) hx hb dX6_cycleOf_3 rfl hl (by decide) rfl (fun ls hl => ?_)
  refine lv_lload_n hx hb dX6_cycleOf_4 rfl (lv_at hl 1 rfl) ?_
  refine lv_iload_n hx hb dX6_cycleOf_5 rfl (lv_at hl 2 rfl) ?_
  refine cS_si (As := [.long v0, .int v2]) (rest := []) (n := 2) CF hZ (c_X4_at l v0 v2 _ h) (va_cwS 2 hts gX6_cycleOf_X4_at rfl rfl rfl hdS_X4_at ⟨Nat.le_of_ble_eq_true rfl, Nat.le_of_ble_eq_true rfl⟩) rfl hl.1 rfl (Nat.le_of_ble_eq_true rfl) dX6_cycleOf_6 ⟨Nat.le_of_ble_eq_true rfl, Nat.le_of_ble_eq_true rfl⟩ (fun i2 h => ?_)
  refine lv_istore (lv' := [(4, .int i2), (3, .int i1), (0, .long v0), (2, .int v2)]) hx hb dX6_cycleOf_9 hl (by decide) rfl (fun ls hl => ?_)
  refine lv_iconst (v := (nI 1)) hx hb dX6_cycleOf_11 (by decide) ?_
  refine lv_istore (lv' := [(5, .int (nI 1)), (4, .int i2), (3, .int i1), (0, .long v0), (2, .int v2)]) hx hb dX6_cycleOf_12 hl (by decide) rfl (fun ls hl => ?_)
  obtain ⟨n11, h⟩ := h
  refine lp_P (nL := 6) (fun q => [(5, .int q.1), (4, .int q.2.1), (3, .int q.2.2), (0, .long v0), (2, .int v2)]) h (lv_sub hl [0, 1, 2, 3, 4] rfl) (fun K14 ih14 q ls h hl => ?_)
  obtain ⟨i3, i4, i5⟩ := q
  have h : wpb_X6_cycleOf_14 v0 v2 Post K14 i3 i4 i5 := h
  have hl : lv_has ls 6 [(5, .int i3), (4, .int i4), (3, .int i5), (0, .long v0), (2, .int v2)] := hl
  unfold wpb_X6_cycleOf_14 at h
  refine lv_iload hx hb dX6_cycleOf_14 (lv_at hl 0 rfl) ?_
  refine lv_bipush (v := (nI 12)) hx hb dX6_cycleOf_16 (by decide) ?_
  refine lv_icmp_ge (tgt := 48) hx hb dX6_cycleOf_18 (by decide) (fun c6 => ?_) (fun c6 => ?_)
  · have h := h.1 c6
    refine lv_iload_n hx hb dX6_cycleOf_48 rfl (lv_at hl 2 rfl) ?_
    exact W.iret hx hb hr (fun t ht hW => ⟨i5, rfl, h, ht⟩) no_locs dX6_cycleOf_49
  · have h := h.2 c6
    refine lv_iload hx hb dX6_cycleOf_21 (lv_at hl 1 rfl) ?_
    refine lv_iload_n hx hb dX6_cycleOf_23 rfl (lv_at hl 4 rfl) ?_
    refine lv_icmp_eq (tgt := 48) hx hb dX6_cycleOf_24 (by decide) (fun c7 => ?_) (fun c7 => ?_)
    · have h := h.1 c7
      refine lv_iload_n hx hb dX6_cycleOf_48 rfl (lv_at hl 2 rfl) ?_
      exact W.iret hx hb hr (fun t ht hW => ⟨i5, rfl, h, ht⟩) no_locs dX6_cycleOf_49
    · have h := h.2 c7
      refine lv_iload_n hx hb dX6_cycleOf_27 rfl (lv_at hl 2 rfl) ?_
      refine lv_iconst (v := (nI 1)) hx hb dX6_cycleOf_28 (by decide) ?_
      refine lv_iload hx hb dX6_cycleOf_29 (lv_at hl 1 rfl) ?_
      refine lv_ishl hx hb dX6_cycleOf_31 ?_
      refine lv_ior hx hb dX6_cycleOf_32 ?_
      refine lv_topi (fun i8 ei8 => ?_)
      have h := h i8 ei8
      refine lv_istore_n (lv' := [(3, .int i8), (5, .int i3), (4, .int i4), (0, .long v0), (2, .int v2)]) hx hb dX6_cycleOf_33 rfl hl (by decide) rfl (fun ls hl => ?_)
      refine lv_lload_n hx hb dX6_cycleOf_34 rfl (lv_at hl 3 rfl) ?_
      refine lv_iload hx hb dX6_cycleOf_35 (lv_at hl 2 rfl) ?_
      refine cS_si (As := [.long v0, .int i4]) (rest := []) (n := 2) CF hZ (c_X4_at l v0 i4 _ h) (va_cwS 2 hts gX6_cycleOf_X4_at rfl rfl rfl hdS_X4_at ⟨Nat.le_of_ble_eq_true rfl, Nat.le_of_ble_eq_true rfl⟩) rfl hl.1 rfl (Nat.le_of_ble_eq_true rfl) dX6_cycleOf_37 ⟨Nat.le_of_ble_eq_true rfl, Nat.le_of_ble_eq_true rfl⟩ (fun i9 h => ?_)
      refine lv_istore (lv' := [(4, .int i9), (3, .int i8), (5, .int i3), (0, .long v0), (2, .int v2)]) hx hb dX6_cycleOf_40 hl (by decide) rfl (fun ls hl => ?_)
      obtain ⟨i10, ei10⟩ : ∃ y : Int32, y = i3 + (nI 1) := ⟨_, rfl⟩
      have h := h i10 ei10
      refine lv_iinc (v := i10) (lv' := [(5, .int i10), (4, .int i9), (3, .int i8), (0, .long v0), (2, .int v2)]) hx hb dX6_cycleOf_42 hl (k := 2) rfl (by rw [ei10]; rfl) (by decide) rfl (fun ls hl => ?_)
      refine lv_goto (tgt := 14) hx hb dX6_cycleOf_45 (by decide) ?_
      exact ih14 (i10, i9, i8) _ h (lv_sub hl [0, 1, 2, 3, 4] rfl)
