theorem hdS_X8_weave : yX8_weave.cls ≠ "java/lang/invoke/MethodHandle" ∧ yX8_weave.cls ≠ "java/lang/invoke/VarHandle" ∧ (parseMethodDescriptor yX8_weave.desc).map (fun d => d.parameters.length) = some 2 := by decide +kernel
set_option maxHeartbeats 4000000 in
set_option maxRecDepth 100000 in
theorem c_X8_weave (l : Launch) (D : va_G) (Y : Nat → ClassId) (L : List Nat) (S : PS) (sz : Nat) (a0 : Nat) (v1 : Int32) (v2 : Int32) (Post : Int32 → PS → Prop) (h : wp_X8_weave S a0 v1 v2 Post) : Met l yX8_weave wsX8_weave ({ frames := 3, cells := 0, slots := 0, locals := 72 }) (va_Pc [.ref a0, .int v1, .int v2] (PrO D Y L S sz)) (va_Qi Post (QtO D Y (fR L sz)) (fR L sz)) 0 0 (fR L sz) := by
  refine Met.ofW (cc := cX8_weave) (maxL := 4) (ret := (some .int)) (by decide) rfl ?_
  intro p e s m args below meth c s₁ B hml hv
  obtain ⟨rfl, hsz, hJ, hP, hK, hD0, hZ⟩ := hv
  have hx := B.exec
  have hb := B.bytes
  have hr := B.returns
  have hts := atoms_spec (ws := wsX8_weave) B.pre
  have hown : s.vm.findClass RX8 = some m.cls := findClass_of_methodNamed B.named
  have hlocks := B.notSynchronized
  have CF : CallFix p m c cX8_weave 4 s ([.ref a0, .int v1, .int v2] : List Value).toArray wsX8_weave RX8 := ⟨hx, hb, hml, hown, hts⟩
  have C : CX p m c cX8_weave 4 s ([.ref a0, .int v1, .int v2] : List Value).toArray wsX8_weave RX8 D Y := ⟨CF, hK, hZ⟩
  have hO : HO D Y (fR L sz) s.heap S s.heap [] := HO.entry hsz hJ hP hD0
  subst hsz
  have inX8 : ∀ w ∈ wsX80, w ∈ wsX8_weave := fun w h => List.mem_cons_of_mem _ (List.mem_append_right _ h)
  have hl := lv_entry ([.ref a0, .int v1, .int v2]) (n := 4) (Nat.le_of_ble_eq_true rfl)
  rw [lg_entry_eq]
  generalize (lg_sl ([.ref a0, .int v1, .int v2]) ++ List.replicate (4 - (lg_sl ([.ref a0, .int v1, .int v2])).length) Slot.unset).toArray = ls at hl ⊢
  have hl : lv_has ls 4 [(0, .ref a0), (1, .int v1), (2, .int v2)] := hl
  unfold wp_X8_weave at h
  refine lv_iload_n hx hb dX8_weave_0 rfl (lv_at hl 1 rfl) ?_
  refine cS_si (As := [.int v1]) (rest := []) (n := 1) CF hZ (c_X8_isDraft l v1 _ h) (va_cwS 1 hts gX8_weave_X8_isDraft rfl rfl rfl hdS_X8_isDraft ⟨Nat.le_of_ble_eq_true rfl, Nat.le_of_ble_eq_true rfl⟩) rfl hl.1 rfl (Nat.le_of_ble_eq_true rfl) dX8_weave_1 ⟨Nat.le_of_ble_eq_true rfl, Nat.le_of_ble_eq_true rfl⟩ (fun i1 h => ?_)
  refine lv_if_ne (tgt := 9) hx hb dX8_weave_4 (by decide) (fun c2 => ?_) (fun c2 => ?_)
  · have h := h.2 c2
    refine lv_iload_n hx hb dX8_weave_9 rfl (lv_at hl 2 rfl) ?_
    refine lv_iconst (v := (nI 1)) hx hb dX8_weave_10 (by decide) ?_
    refine lv_sipush (v := (nI 1000)) hx hb dX8_weave_11 (by decide) ?_
    refine cS_si (As := [.int v2, .int (nI 1), .int (nI 1000)]) (rest := []) (n := 3) CF hZ (c_X8_within l v2 (nI 1) (nI 1000) _ h) (va_cwS 3 hts gX8_weave_X8_within rfl rfl rfl hdS_X8_within ⟨Nat.le_of_ble_eq_true rfl, Nat.le_of_ble_eq_true rfl⟩) rfl hl.1 rfl (Nat.le_of_ble_eq_true rfl) dX8_weave_14 ⟨Nat.le_of_ble_eq_true rfl, Nat.le_of_ble_eq_true rfl⟩ (fun i3 h => ?_)
    refine lv_if_ne (tgt := 23) hx hb dX8_weave_17 (by decide) (fun c4 => ?_) (fun c4 => ?_)
    · have h := h.2 c4
      refine lv_aload_n hx hb dX8_weave_23 rfl (lv_at hl 0 rfl) ?_
      obtain ⟨fs7, e6, h⟩ := h
      refine cV_wv (As := []) (rest := []) (n := 0) C hO (fun L => c_X8_record l D Y L S s.heap.size a0 _ h) 6 rfl e6 (cwV 0 hts gX8_weave_X8_record rfl rfl rfl ⟨rfl, hdS_X8_record⟩ ⟨Nat.le_of_ble_eq_true rfl, Nat.le_of_ble_eq_true rfl⟩) rfl hl.1 rfl (Nat.le_of_ble_eq_true rfl) dX8_weave_24 ⟨Nat.le_of_ble_eq_true rfl, Nat.le_of_ble_eq_true rfl⟩ (fun S5 H locs h hO => ?_)
      refine lv_aload_n hx hb dX8_weave_27 rfl (lv_at hl 0 rfl) ?_
      refine lv_iload_n hx hb dX8_weave_28 rfl (lv_at hl 1 rfl) ?_
      obtain ⟨fs10, e9, h⟩ := h
      refine cV_wv (As := [.int v1]) (rest := []) (n := 1) C hO (fun L => c_X8_lay l D Y L S5 H.size a0 v1 _ h) 6 rfl e9 (cwV 1 hts gX8_weave_X8_lay rfl rfl rfl ⟨rfl, hdS_X8_lay⟩ ⟨Nat.le_of_ble_eq_true rfl, Nat.le_of_ble_eq_true rfl⟩) rfl hl.1 rfl (Nat.le_of_ble_eq_true rfl) dX8_weave_29 ⟨Nat.le_of_ble_eq_true rfl, Nat.le_of_ble_eq_true rfl⟩ (fun S8 H locs h hO => ?_)
      refine lv_aload_n hx hb dX8_weave_32 rfl (lv_at hl 0 rfl) ?_
      obtain ⟨fs13, e12, h⟩ := h
      refine cV_wv (As := []) (rest := []) (n := 0) C hO (fun L => c_X8_takeThreads l D Y L S8 H.size a0 _ h) 6 rfl e12 (cwV 0 hts gX8_weave_X8_takeThreads rfl rfl rfl ⟨rfl, hdS_X8_takeThreads⟩ ⟨Nat.le_of_ble_eq_true rfl, Nat.le_of_ble_eq_true rfl⟩) rfl hl.1 rfl (Nat.le_of_ble_eq_true rfl) dX8_weave_33 ⟨Nat.le_of_ble_eq_true rfl, Nat.le_of_ble_eq_true rfl⟩ (fun S11 H locs h hO => ?_)
      refine lv_iconst (v := (nI 0)) hx hb dX8_weave_36 (by decide) ?_
      refine lv_istore_n (lv' := [(3, .int (nI 0)), (0, .ref a0), (1, .int v1), (2, .int v2)]) hx hb dX8_weave_37 rfl hl (by decide) rfl (fun ls hl => ?_)
      obtain ⟨n68, h⟩ := h
      refine lp_W (nL := 4) (fun q => [(3, .int q.1), (0, .ref a0), (1, .int v1), (2, .int v2)]) (fun q => q.2) h (lv_sub hl [0, 1, 2, 3] rfl) hO (fun K38 ih38 q ls H locs h hl hO => ?_)
      obtain ⟨i14, S15⟩ := q
      have h : wpb_X8_weave_38 a0 v1 v2 Post K38 i14 S15 := h
      have hl : lv_has ls 4 [(3, .int i14), (0, .ref a0), (1, .int v1), (2, .int v2)] := hl
      have hO : HO D Y (fR L s.heap.size) s.heap S15 H locs := hO
      unfold wpb_X8_weave_38 at h
      refine lv_iload_n hx hb dX8_weave_38 rfl (lv_at hl 0 rfl) ?_
      refine lv_iload_n hx hb dX8_weave_39 rfl (lv_at hl 3 rfl) ?_
      refine lv_icmp_ge (tgt := 54) hx hb dX8_weave_40 (by decide) (fun c16 => ?_) (fun c16 => ?_)
      · have h := h.1 c16
        refine lv_iconst (v := (nI 0)) hx hb dX8_weave_54 (by decide) ?_
        refine lv_istore_n (lv' := [(3, .int (nI 0)), (0, .ref a0), (1, .int v1), (2, .int v2)]) hx hb dX8_weave_55 rfl hl (by decide) rfl (fun ls hl => ?_)
        obtain ⟨n63, h⟩ := h
        refine lp_W (nL := 4) (fun q => [(3, .int q.1), (0, .ref a0), (1, .int v1), (2, .int v2)]) (fun q => q.2) h (lv_sub hl [0, 1, 2, 3] rfl) hO (fun K56 ih56 q ls H locs h hl hO => ?_)
        obtain ⟨i17, S18⟩ := q
        have h : wpb_X8_weave_56 a0 v1 v2 Post K56 i17 S18 := h
        have hl : lv_has ls 4 [(3, .int i17), (0, .ref a0), (1, .int v1), (2, .int v2)] := hl
        have hO : HO D Y (fR L s.heap.size) s.heap S18 H locs := hO
        unfold wpb_X8_weave_56 at h
        refine lv_iload_n hx hb dX8_weave_56 rfl (lv_at hl 0 rfl) ?_
        refine lv_bipush (v := (nI 12)) hx hb dX8_weave_57 (by decide) ?_
        refine lv_icmp_ge (tgt := 83) hx hb dX8_weave_59 (by decide) (fun c19 => ?_) (fun c19 => ?_)
        · have h := h.1 c19
          refine lv_aload_n hx hb dX8_weave_83 rfl (lv_at hl 1 rfl) ?_
          obtain ⟨fs20, a21, e22, e22', h⟩ := h
          refine r_get C hO 6 0 rfl inX8 (Nat.le_of_ble_eq_true rfl) e22 e22' (List.mem_of_getElem? (i := 1) (by decide +kernel)) dX8_weave_84 ?_
          refine lv_sipush (v := (nI 192)) hx hb dX8_weave_87 (by decide) ?_
          refine lv_dup2_11 hx hb dX8_weave_90 rfl rfl ?_
          obtain ⟨n23, f24, i26, e25, e25', exi26, h⟩ := h
          refine r_iald C hO e25 e25' dX8_weave_91 ?_
          rw [exi26]
          refine lv_iload_n hx hb dX8_weave_92 rfl (lv_at hl 3 rfl) ?_
          refine lv_aload_n hx hb dX8_weave_93 rfl (lv_at hl 1 rfl) ?_
          refine lv_iload_n hx hb dX8_weave_94 rfl (lv_at hl 2 rfl) ?_
          obtain ⟨fs29, e28, h⟩ := h
          refine cV_ri (As := [.int v1]) (rest := [.int v2, .int i26, .int (nI 192), .ref a21]) (n := 1) C hO (fun L => c_X8_lengthOf l D Y L S18 H.size a0 v1 _ h) 6 rfl e28 (cwV 1 hts gX8_weave_X8_lengthOf rfl rfl rfl ⟨rfl, hdS_X8_lengthOf⟩ ⟨Nat.le_of_ble_eq_true rfl, Nat.le_of_ble_eq_true rfl⟩) rfl hl.1 rfl (Nat.le_of_ble_eq_true rfl) dX8_weave_95 ⟨Nat.le_of_ble_eq_true rfl, Nat.le_of_ble_eq_true rfl⟩ (fun i27 h => ?_)
          refine lv_imul hx hb dX8_weave_98 ?_
          refine lv_iadd hx hb dX8_weave_99 ?_
          obtain ⟨n30, f31, e32, e32', h⟩ := h
          refine r_iast C hO e32 e32' dX8_weave_100 (fun H locs hO => ?_)
          obtain ⟨S33, eS33⟩ : ∃ Sx, Sx = va_up S18 a21 (aI n30 (upd f31 ((nI 192)).toNatClampNeg (i26 + (v2 * i27)))) := ⟨_, rfl⟩
          rw [← eS33] at hO
          have h := h S33 eS33
          refine lv_aload_n hx hb dX8_weave_101 rfl (lv_at hl 1 rfl) ?_
          obtain ⟨fs34, a35, e36, e36', h⟩ := h
          refine r_get C hO 6 0 rfl inX8 (Nat.le_of_ble_eq_true rfl) e36 e36' (List.mem_of_getElem? (i := 1) (by decide +kernel)) dX8_weave_102 ?_
          refine lv_sipush (v := (nI 193)) hx hb dX8_weave_105 (by decide) ?_
          refine lv_dup2_11 hx hb dX8_weave_108 rfl rfl ?_
          obtain ⟨n37, f38, i40, e39, e39', exi40, h⟩ := h
          refine r_iald C hO e39 e39' dX8_weave_109 ?_
          rw [exi40]
          refine lv_iload_n hx hb dX8_weave_110 rfl (lv_at hl 3 rfl) ?_
          refine lv_iadd hx hb dX8_weave_111 ?_
          obtain ⟨n41, f42, e43, e43', h⟩ := h
          refine r_iast C hO e43 e43' dX8_weave_112 (fun H locs hO => ?_)
          obtain ⟨S44, eS44⟩ : ∃ Sx, Sx = va_up S33 a35 (aI n41 (upd f42 ((nI 193)).toNatClampNeg (i40 + v2))) := ⟨_, rfl⟩
          rw [← eS44] at hO
          have h := h S44 eS44
          refine lv_aload_n hx hb dX8_weave_113 rfl (lv_at hl 1 rfl) ?_
          obtain ⟨fs47, e46, h⟩ := h
          refine cV_ri (As := []) (rest := []) (n := 0) C hO (fun L => c_X8_atHome l D Y L S44 H.size a0 _ h) 6 rfl e46 (cwV 0 hts gX8_weave_X8_atHome rfl rfl rfl ⟨rfl, hdS_X8_atHome⟩ ⟨Nat.le_of_ble_eq_true rfl, Nat.le_of_ble_eq_true rfl⟩) rfl hl.1 rfl (Nat.le_of_ble_eq_true rfl) dX8_weave_114 ⟨Nat.le_of_ble_eq_true rfl, Nat.le_of_ble_eq_true rfl⟩ (fun i45 h => ?_)
          exact W.iret hx hb hr (fun t ht hW => ⟨⟨i45, S44, rfl, h, hO.q ht⟩, hO.f ht⟩) hO.lc dX8_weave_117
        · have h := h.2 c19
          refine lv_aload_n hx hb dX8_weave_62 rfl (lv_at hl 1 rfl) ?_
          obtain ⟨fs48, a49, e50, e50', h⟩ := h
          refine r_get C hO 6 0 rfl inX8 (Nat.le_of_ble_eq_true rfl) e50 e50' (List.mem_of_getElem? (i := 1) (by decide +kernel)) dX8_weave_63 ?_
          refine lv_bipush (v := (nI 18)) hx hb dX8_weave_66 (by decide) ?_
          refine lv_iload_n hx hb dX8_weave_68 rfl (lv_at hl 0 rfl) ?_
          refine lv_iadd hx hb dX8_weave_69 ?_
          refine lv_aload_n hx hb dX8_weave_70 rfl (lv_at hl 1 rfl) ?_
          obtain ⟨fs51, a52, e53, e53', h⟩ := h
          refine r_get C hO 6 11 rfl inX8 (Nat.le_of_ble_eq_true rfl) e53 e53' (List.mem_of_getElem? (i := 2) (by decide +kernel)) dX8_weave_71 ?_
          refine lv_iload_n hx hb dX8_weave_74 rfl (lv_at hl 0 rfl) ?_
          obtain ⟨n54, f55, i57, e56, e56', exi57, h⟩ := h
          refine r_iald C hO e56 e56' dX8_weave_75 ?_
          rw [exi57]
          obtain ⟨n58, f59, e60, e60', h⟩ := h
          refine r_iast C hO e60 e60' dX8_weave_76 (fun H locs hO => ?_)
          obtain ⟨S61, eS61⟩ : ∃ Sx, Sx = va_up S18 a49 (aI n58 (upd f59 (((nI 18) + i17)).toNatClampNeg i57)) := ⟨_, rfl⟩
          rw [← eS61] at hO
          have h := h S61 eS61
          obtain ⟨i62, ei62⟩ : ∃ y : Int32, y = i17 + (nI 1) := ⟨_, rfl⟩
          have h := h i62 ei62
          refine lv_iinc (v := i62) (lv' := [(3, .int i62), (0, .ref a0), (1, .int v1), (2, .int v2)]) hx hb dX8_weave_77 hl (k := 0) rfl (by rw [ei62]; rfl) (by decide) rfl (fun ls hl => ?_)
          refine lv_goto (tgt := 56) hx hb dX8_weave_80 (by decide) ?_
          exact ih56 (i62, S61) _ _ _ h (lv_sub hl [0, 1, 2, 3] rfl) hO
      · have h := h.2 c16
        refine lv_aload_n hx hb dX8_weave_43 rfl (lv_at hl 1 rfl) ?_
        refine lv_iload_n hx hb dX8_weave_44 rfl (lv_at hl 2 rfl) ?_
        obtain ⟨fs66, e65, h⟩ := h
        refine cV_wv (As := [.int v1]) (rest := []) (n := 1) C hO (fun L => c_X8_weaveOnce l D Y L S15 H.size a0 v1 _ h) 6 rfl e65 (cwV 1 hts gX8_weave_X8_weaveOnce rfl rfl rfl ⟨rfl, hdS_X8_weaveOnce⟩ ⟨Nat.le_of_ble_eq_true rfl, Nat.le_of_ble_eq_true rfl⟩) rfl hl.1 rfl (Nat.le_of_ble_eq_true rfl) dX8_weave_45 ⟨Nat.le_of_ble_eq_true rfl, Nat.le_of_ble_eq_true rfl⟩ (fun S64 H locs h hO => ?_)
        obtain ⟨i67, ei67⟩ : ∃ y : Int32, y = i14 + (nI 1) := ⟨_, rfl⟩
        have h := h i67 ei67
        refine lv_iinc (v := i67) (lv' := [(3, .int i67), (0, .ref a0), (1, .int v1), (2, .int v2)]) hx hb dX8_weave_48 hl (k := 0) rfl (by rw [ei67]; rfl) (by decide) rfl (fun ls hl => ?_)
        refine lv_goto (tgt := 38) hx hb dX8_weave_51 (by decide) ?_
        exact ih38 (i67, S64) _ _ _ h (lv_sub hl [0, 1, 2, 3] rfl) hO
    · have h := h.1 c4
      refine lv_bipush (v := (-2 : Int32)) hx hb dX8_weave_20 (by decide) ?_
      exact W.iret hx hb hr (fun t ht hW => ⟨⟨(-2 : Int32), S, rfl, h, hO.q ht⟩, hO.f ht⟩) hO.lc dX8_weave_22
  · have h := h.1 c2
    refine lv_iconst (v := (-1 : Int32)) hx hb dX8_weave_7 (by decide) ?_
    exact W.iret hx hb hr (fun t ht hW => ⟨⟨(-1 : Int32), S, rfl, h, hO.q ht⟩, hO.f ht⟩) hO.lc dX8_weave_8
theorem hdS_X8_dye : yX8_dye.cls ≠ "java/lang/invoke/MethodHandle" ∧ yX8_dye.cls ≠ "java/lang/invoke/VarHandle" ∧ (parseMethodDescriptor yX8_dye.desc).map (fun d => d.parameters.length) = some 2 := by decide +kernel
set_option maxHeartbeats 4000000 in
set_option maxRecDepth 100000 in
theorem c_X8_dye (l : Launch) (D : va_G) (Y : Nat → ClassId) (L : List Nat) (S : PS) (sz : Nat) (a0 : Nat) (v1 : Int32) (v2 : Int32) (Post : Int32 → PS → Prop) (h : wp_X8_dye S a0 v1 v2 Post) : Met l yX8_dye wsX8_dye ({ frames := 2, cells := 0, slots := 0, locals := 42 }) (va_Pc [.ref a0, .int v1, .int v2] (PrO D Y L S sz)) (va_Qi Post (QtO D Y (fR L sz)) (fR L sz)) 0 0 (fR L sz) := by
  refine Met.ofW (cc := cX8_dye) (maxL := 4) (ret := (some .int)) (by decide) rfl ?_
  intro p e s m args below meth c s₁ B hml hv
  obtain ⟨rfl, hsz, hJ, hP, hK, hD0, hZ⟩ := hv
  have hx := B.exec
  have hb := B.bytes
  have hr := B.returns
  have hts := atoms_spec (ws := wsX8_dye) B.pre
  have hown : s.vm.findClass RX8 = some m.cls := findClass_of_methodNamed B.named
  have hlocks := B.notSynchronized
  have CF : CallFix p m c cX8_dye 4 s ([.ref a0, .int v1, .int v2] : List Value).toArray wsX8_dye RX8 := ⟨hx, hb, hml, hown, hts⟩
  have C : CX p m c cX8_dye 4 s ([.ref a0, .int v1, .int v2] : List Value).toArray wsX8_dye RX8 D Y := ⟨CF, hK, hZ⟩
  have hO : HO D Y (fR L sz) s.heap S s.heap [] := HO.entry hsz hJ hP hD0
  subst hsz
  have inX8 : ∀ w ∈ wsX80, w ∈ wsX8_dye := fun w h => List.mem_cons_of_mem _ (List.mem_append_right _ h)
  have hl := lv_entry ([.ref a0, .int v1, .int v2]) (n := 4) (Nat.le_of_ble_eq_true rfl)
  rw [lg_entry_eq]
  generalize (lg_sl ([.ref a0, .int v1, .int v2]) ++ List.replicate (4 - (lg_sl ([.ref a0, .int v1, .int v2])).length) Slot.unset).toArray = ls at hl ⊢
  have hl : lv_has ls 4 [(0, .ref a0), (1, .int v1), (2, .int v2)] := hl
  unfold wp_X8_dye at h
  refine lv_iload_n hx hb dX8_dye_0 rfl (lv_at hl 1 rfl) ?_
  refine cS_si (As := [.int v1]) (rest := []) (n := 1) CF hZ (c_X8_isPlace l v1 _ h) (va_cwS 1 hts gX8_dye_X8_isPlace rfl rfl rfl hdS_X8_isPlace ⟨Nat.le_of_ble_eq_true rfl, Nat.le_of_ble_eq_true rfl⟩) rfl hl.1 rfl (Nat.le_of_ble_eq_true rfl) dX8_dye_1 ⟨Nat.le_of_ble_eq_true rfl, Nat.le_of_ble_eq_true rfl⟩ (fun i1 h => ?_)
  refine lv_if_ne (tgt := 9) hx hb dX8_dye_4 (by decide) (fun c2 => ?_) (fun c2 => ?_)
  · have h := h.2 c2
    refine lv_iload_n hx hb dX8_dye_9 rfl (lv_at hl 2 rfl) ?_
    refine lv_iconst (v := (nI 0)) hx hb dX8_dye_10 (by decide) ?_
    refine lv_iconst (v := (nI 3)) hx hb dX8_dye_11 (by decide) ?_
    refine cS_si (As := [.int v2, .int (nI 0), .int (nI 3)]) (rest := []) (n := 3) CF hZ (c_X8_within l v2 (nI 0) (nI 3) _ h) (va_cwS 3 hts gX8_dye_X8_within rfl rfl rfl hdS_X8_within ⟨Nat.le_of_ble_eq_true rfl, Nat.le_of_ble_eq_true rfl⟩) rfl hl.1 rfl (Nat.le_of_ble_eq_true rfl) dX8_dye_12 ⟨Nat.le_of_ble_eq_true rfl, Nat.le_of_ble_eq_true rfl⟩ (fun i3 h => ?_)
    refine lv_if_ne (tgt := 21) hx hb dX8_dye_15 (by decide) (fun c4 => ?_) (fun c4 => ?_)
    · have h := h.2 c4
      refine lv_aload_n hx hb dX8_dye_21 rfl (lv_at hl 0 rfl) ?_
      obtain ⟨fs7, e6, h⟩ := h
      refine cV_wv (As := []) (rest := []) (n := 0) C hO (fun L => c_X8_record l D Y L S s.heap.size a0 _ h) 6 rfl e6 (cwV 0 hts gX8_dye_X8_record rfl rfl rfl ⟨rfl, hdS_X8_record⟩ ⟨Nat.le_of_ble_eq_true rfl, Nat.le_of_ble_eq_true rfl⟩) rfl hl.1 rfl (Nat.le_of_ble_eq_true rfl) dX8_dye_22 ⟨Nat.le_of_ble_eq_true rfl, Nat.le_of_ble_eq_true rfl⟩ (fun S5 H locs h hO => ?_)
      refine lv_aload_n hx hb dX8_dye_25 rfl (lv_at hl 0 rfl) ?_
      obtain ⟨fs8, a9, e10, e10', h⟩ := h
      refine r_get C hO 6 0 rfl inX8 (Nat.le_of_ble_eq_true rfl) e10 e10' (List.mem_of_getElem? (i := 1) (by decide +kernel)) dX8_dye_26 ?_
      refine lv_bipush (v := (nI 30)) hx hb dX8_dye_29 (by decide) ?_
      refine lv_iload_n hx hb dX8_dye_31 rfl (lv_at hl 1 rfl) ?_
      refine lv_iadd hx hb dX8_dye_32 ?_
      obtain ⟨n11, f12, i14, e13, e13', exi14, h⟩ := h
      refine r_iald C hO e13 e13' dX8_dye_33 ?_
      rw [exi14]
      refine lv_istore_n (lv' := [(3, .int i14), (0, .ref a0), (1, .int v1), (2, .int v2)]) hx hb dX8_dye_34 rfl hl (by decide) rfl (fun ls hl => ?_)
      refine lv_aload_n hx hb dX8_dye_35 rfl (lv_at hl 1 rfl) ?_
      obtain ⟨fs15, a16, e17, e17', h⟩ := h
      refine r_get C hO 6 0 rfl inX8 (Nat.le_of_ble_eq_true rfl) e17 e17' (List.mem_of_getElem? (i := 1) (by decide +kernel)) dX8_dye_36 ?_
      refine lv_bipush (v := (nI 30)) hx hb dX8_dye_39 (by decide) ?_
      refine lv_iload_n hx hb dX8_dye_41 rfl (lv_at hl 2 rfl) ?_
      refine lv_iadd hx hb dX8_dye_42 ?_
      refine lv_iload_n hx hb dX8_dye_43 rfl (lv_at hl 3 rfl) ?_
      obtain ⟨n18, f19, e20, e20', h⟩ := h
      refine r_iast C hO e20 e20' dX8_dye_44 (fun H locs hO => ?_)
      obtain ⟨S21, eS21⟩ : ∃ Sx, Sx = va_up S5 a16 (aI n18 (upd f19 (((nI 30) + v1)).toNatClampNeg v2)) := ⟨_, rfl⟩
      rw [← eS21] at hO
      have h := h S21 eS21
      refine lv_iload_n hx hb dX8_dye_45 rfl (lv_at hl 0 rfl) ?_
      exact W.iret hx hb hr (fun t ht hW => ⟨⟨i14, S21, rfl, h, hO.q ht⟩, hO.f ht⟩) hO.lc dX8_dye_46
    · have h := h.1 c4
      refine lv_bipush (v := (-2 : Int32)) hx hb dX8_dye_18 (by decide) ?_
      exact W.iret hx hb hr (fun t ht hW => ⟨⟨(-2 : Int32), S, rfl, h, hO.q ht⟩, hO.f ht⟩) hO.lc dX8_dye_20
  · have h := h.1 c2
    refine lv_iconst (v := (-1 : Int32)) hx hb dX8_dye_7 (by decide) ?_
    exact W.iret hx hb hr (fun t ht hW => ⟨⟨(-1 : Int32), S, rfl, h, hO.q ht⟩, hO.f ht⟩) hO.lc dX8_dye_8
theorem hdS_X8_raising : yX8_raising.cls ≠ "java/lang/invoke/MethodHandle" ∧ yX8_raising.cls ≠ "java/lang/invoke/VarHandle" ∧ (parseMethodDescriptor yX8_raising.desc).map (fun d => d.parameters.length) = some 1 := by decide +kernel
set_option maxHeartbeats 4000000 in
set_option maxRecDepth 100000 in
theorem c_X8_raising (l : Launch) (D : va_G) (Y : Nat → ClassId) (L : List Nat) (S : PS) (sz : Nat) (a0 : Nat) (v1 : Int32) (Post : Int32 → Prop) (h : wp_X8_raising S a0 v1 Post) : Met l yX8_raising wsX8_raising ({ frames := 1, cells := 0, slots := 0, locals := 23 }) (va_Pc [.ref a0, .int v1] (PrO D Y L S sz)) (vp_Si Post) 0 0 (fun _ => False) := by
  refine Met.ofW (cc := cX8_raising) (maxL := 4) (ret := (some .int)) (by decide) rfl ?_
  intro p e s m args below meth c s₁ B hml hv
  obtain ⟨rfl, hsz, hJ, hP, hK, hD0, hZ⟩ := hv
  have hx := B.exec
  have hb := B.bytes
  have hr := B.returns
  have hts := atoms_spec (ws := wsX8_raising) B.pre
  have hown : s.vm.findClass RX8 = some m.cls := findClass_of_methodNamed B.named
  have hlocks := B.notSynchronized
  have CF : CallFix p m c cX8_raising 4 s ([.ref a0, .int v1] : List Value).toArray wsX8_raising RX8 := ⟨hx, hb, hml, hown, hts⟩
  have C : CX p m c cX8_raising 4 s ([.ref a0, .int v1] : List Value).toArray wsX8_raising RX8 D Y := ⟨CF, hK, hZ⟩
  have hO : HO D Y (fR L sz) s.heap S s.heap [] := HO.entry hsz hJ hP hD0
  subst hsz
  have hl := lv_entry ([.ref a0, .int v1]) (n := 4) (Nat.le_of_ble_eq_true rfl)
  rw [lg_entry_eq]
  generalize (lg_sl ([.ref a0, .int v1]) ++ List.replicate (4 - (lg_sl ([.ref a0, .int v1])).length) Slot.unset).toArray = ls at hl ⊢
  have hl : lv_has ls 4 [(0, .ref a0), (1, .int v1)] := hl
  unfold wp_X8_raising at h
  refine lv_iconst (v := (nI 0)) hx hb dX8_raising_0 (by decide) ?_
  refine lv_istore_n (lv' := [(2, .int (nI 0)), (0, .ref a0), (1, .int v1)]) hx hb dX8_raising_1 rfl hl (by decide) rfl (fun ls hl => ?_)
  refine lv_iconst (v := (nI 0)) hx hb dX8_raising_2 (by decide) ?_
  refine lv_istore_n (lv' := [(3, .int (nI 0)), (2, .int (nI 0)), (0, .ref a0), (1, .int v1)]) hx hb dX8_raising_3 rfl hl (by decide) rfl (fun ls hl => ?_)
  obtain ⟨n12, h⟩ := h
  refine lp_P (nL := 4) (fun q => [(3, .int q.1), (2, .int q.2), (0, .ref a0), (1, .int v1)]) h (lv_sub hl [0, 1, 2, 3] rfl) (fun K4 ih4 q ls h hl => ?_)
  obtain ⟨i1, i2⟩ := q
  have h : wpb_X8_raising_4 S a0 v1 Post K4 i1 i2 := h
  have hl : lv_has ls 4 [(3, .int i1), (2, .int i2), (0, .ref a0), (1, .int v1)] := hl
  unfold wpb_X8_raising_4 at h
  refine lv_iload_n hx hb dX8_raising_4 rfl (lv_at hl 0 rfl) ?_
  refine lv_bipush (v := (nI 6)) hx hb dX8_raising_5 (by decide) ?_
  refine lv_icmp_ge (tgt := 39) hx hb dX8_raising_7 (by decide) (fun c3 => ?_) (fun c3 => ?_)
  · have h := h.1 c3
    refine lv_iload_n hx hb dX8_raising_39 rfl (lv_at hl 1 rfl) ?_
    exact W.iret hx hb hr (fun t ht hW => ⟨i2, rfl, h, ht⟩) no_locs dX8_raising_40
  · have h := h.2 c3
    refine lv_iload_n hx hb dX8_raising_10 rfl (lv_at hl 1 rfl) ?_
    refine lv_aload_n hx hb dX8_raising_11 rfl (lv_at hl 2 rfl) ?_
    refine lv_iload_n hx hb dX8_raising_12 rfl (lv_at hl 0 rfl) ?_
    obtain ⟨fs6, e5, h⟩ := h
    refine cV_ri (As := [.int i1]) (rest := [.int i2]) (n := 1) C hO (fun L => c_X8_raised l D Y L S s.heap.size a0 i1 _ h) 6 rfl e5 (cwV 1 hts gX8_raising_X8_raised rfl rfl rfl ⟨rfl, hdS_X8_raised⟩ ⟨Nat.le_of_ble_eq_true rfl, Nat.le_of_ble_eq_true rfl⟩) rfl hl.1 rfl (Nat.le_of_ble_eq_true rfl) dX8_raising_13 ⟨Nat.le_of_ble_eq_true rfl, Nat.le_of_ble_eq_true rfl⟩ (fun i4 h => ?_)
    refine lv_iload_n hx hb dX8_raising_16 rfl (lv_at hl 3 rfl) ?_
    refine lv_ishr hx hb dX8_raising_17 ?_
    refine lv_iconst (v := (nI 1)) hx hb dX8_raising_18 (by decide) ?_
    refine lv_iand hx hb dX8_raising_19 ?_
    refine lv_iconst (v := (nI 1)) hx hb dX8_raising_20 (by decide) ?_
    refine lv_icmp_ne (tgt := 30) hx hb dX8_raising_21 (by decide) (fun c7 => ?_) (fun c7 => ?_)
    · have h := h.2 c7
      refine lv_iconst (v := (nI 0)) hx hb dX8_raising_30 (by decide) ?_
      refine lv_ior hx hb dX8_raising_31 ?_
      refine lv_topi (fun i8 ei8 => ?_)
      have h := h i8 ei8
      refine lv_istore_n (lv' := [(2, .int i8), (3, .int i1), (0, .ref a0), (1, .int v1)]) hx hb dX8_raising_32 rfl hl (by decide) rfl (fun ls hl => ?_)
      obtain ⟨i9, ei9⟩ : ∃ y : Int32, y = i1 + (nI 1) := ⟨_, rfl⟩
      have h := h i9 ei9
      refine lv_iinc (v := i9) (lv' := [(3, .int i9), (2, .int i8), (0, .ref a0), (1, .int v1)]) hx hb dX8_raising_33 hl (k := 1) rfl (by rw [ei9]; rfl) (by decide) rfl (fun ls hl => ?_)
      refine lv_goto (tgt := 4) hx hb dX8_raising_36 (by decide) ?_
      exact ih4 (i9, i8) _ h (lv_sub hl [0, 1, 2, 3] rfl)
    · have h := h.1 c7
      refine lv_iconst (v := (nI 1)) hx hb dX8_raising_24 (by decide) ?_
      refine lv_iload_n hx hb dX8_raising_25 rfl (lv_at hl 0 rfl) ?_
      refine lv_ishl hx hb dX8_raising_26 ?_
      refine lv_goto (tgt := 31) hx hb dX8_raising_27 (by decide) ?_
      refine lv_ior hx hb dX8_raising_31 ?_
      refine lv_topi (fun i10 ei10 => ?_)
      have h := h i10 ei10
      refine lv_istore_n (lv' := [(2, .int i10), (3, .int i1), (0, .ref a0), (1, .int v1)]) hx hb dX8_raising_32 rfl hl (by decide) rfl (fun ls hl => ?_)
      obtain ⟨i11, ei11⟩ : ∃ y : Int32, y = i1 + (nI 1) := ⟨_, rfl⟩
      have h := h i11 ei11
      refine lv_iinc (v := i11) (lv' := [(3, .int i11), (2, .int i10), (0, .ref a0), (1, .int v1)]) hx hb dX8_raising_33 hl (k := 1) rfl (by rw [ei11]; rfl) (by decide) rfl (fun ls hl => ?_)
      refine lv_goto (tgt := 4) hx hb dX8_raising_36 (by decide) ?_
      exact ih4 (i11, i10) _ h (lv_sub hl [0, 1, 2, 3] rfl)
theorem hdS_X8_place : yX8_place.cls ≠ "java/lang/invoke/MethodHandle" ∧ yX8_place.cls ≠ "java/lang/invoke/VarHandle" ∧ (parseMethodDescriptor yX8_place.desc).map (fun d => d.parameters.length) = some 2 := by decide +kernel
set_option maxHeartbeats 4000000 in
set_option maxRecDepth 100000 in
theorem c_X8_place (l : Launch) (D : va_G) (Y : Nat → ClassId) (L : List Nat) (S : PS) (sz : Nat) (a0 : Nat) (v1 : Int32) (v2 : Int32) (Post : Int32 → Prop) (h : wp_X8_place S a0 v1 v2 Post) : Met l yX8_place wsX8_place ({ frames := 2, cells := 0, slots := 0, locals := 46 }) (va_Pc [.ref a0, .int v1, .int v2] (PrO D Y L S sz)) (vp_Si Post) 0 0 (fun _ => False) := by
  refine Met.ofW (cc := cX8_place) (maxL := 4) (ret := (some .int)) (by decide) rfl ?_
  intro p e s m args below meth c s₁ B hml hv
  obtain ⟨rfl, hsz, hJ, hP, hK, hD0, hZ⟩ := hv
  have hx := B.exec
  have hb := B.bytes
  have hr := B.returns
  have hts := atoms_spec (ws := wsX8_place) B.pre
  have hown : s.vm.findClass RX8 = some m.cls := findClass_of_methodNamed B.named
  have hlocks := B.notSynchronized
  have CF : CallFix p m c cX8_place 4 s ([.ref a0, .int v1, .int v2] : List Value).toArray wsX8_place RX8 := ⟨hx, hb, hml, hown, hts⟩
  have C : CX p m c cX8_place 4 s ([.ref a0, .int v1, .int v2] : List Value).toArray wsX8_place RX8 D Y := ⟨CF, hK, hZ⟩
  have hO : HO D Y (fR L sz) s.heap S s.heap [] := HO.entry hsz hJ hP hD0
  subst hsz
  have inX8 : ∀ w ∈ wsX80, w ∈ wsX8_place := fun w h => List.mem_cons_of_mem _ (List.mem_append_right _ h)
  have hl := lv_entry ([.ref a0, .int v1, .int v2]) (n := 4) (Nat.le_of_ble_eq_true rfl)
  rw [lg_entry_eq]
  generalize (lg_sl ([.ref a0, .int v1, .int v2]) ++ List.replicate (4 - (lg_sl ([.ref a0, .int v1, .int v2])).length) Slot.unset).toArray = ls at hl ⊢
  have hl : lv_has ls 4 [(0, .ref a0), (1, .int v1), (2, .int v2)] := hl
  unfold wp_X8_place at h
  refine lv_iload_n hx hb dX8_place_0 rfl (lv_at hl 1 rfl) ?_
  refine cS_si (As := [.int v1]) (rest := []) (n := 1) CF hZ (c_X8_isPlace l v1 _ h) (va_cwS 1 hts gX8_place_X8_isPlace rfl rfl rfl hdS_X8_isPlace ⟨Nat.le_of_ble_eq_true rfl, Nat.le_of_ble_eq_true rfl⟩) rfl hl.1 rfl (Nat.le_of_ble_eq_true rfl) dX8_place_1 ⟨Nat.le_of_ble_eq_true rfl, Nat.le_of_ble_eq_true rfl⟩ (fun i1 h => ?_)
  refine lv_if_ne (tgt := 9) hx hb dX8_place_4 (by decide) (fun c2 => ?_) (fun c2 => ?_)
  · have h := h.2 c2
    refine lv_aload_n hx hb dX8_place_9 rfl (lv_at hl 0 rfl) ?_
    obtain ⟨fs3, a4, e5, e5', h⟩ := h
    refine r_get C hO 6 0 rfl inX8 (Nat.le_of_ble_eq_true rfl) e5 e5' (List.mem_of_getElem? (i := 1) (by decide +kernel)) dX8_place_10 ?_
    refine lv_bipush (v := (nI 18)) hx hb dX8_place_13 (by decide) ?_
    refine lv_iload_n hx hb dX8_place_15 rfl (lv_at hl 1 rfl) ?_
    refine lv_iadd hx hb dX8_place_16 ?_
    obtain ⟨n6, f7, i9, e8, e8', exi9, h⟩ := h
    refine r_iald C hO e8 e8' dX8_place_17 ?_
    rw [exi9]
    refine lv_istore_n (lv' := [(3, .int i9), (0, .ref a0), (1, .int v1), (2, .int v2)]) hx hb dX8_place_18 rfl hl (by decide) rfl (fun ls hl => ?_)
    refine lv_iload_n hx hb dX8_place_19 rfl (lv_at hl 3 rfl) ?_
    rcases sw_3 v2 with c10 | c10 | c10 | c10 | c10
    · have h := h.1 c10
      refine lv_tableOut (tgt := 79) hx hb dX8_place_20 c10 (by decide) ?_
      refine lv_bipush (v := (-2 : Int32)) hx hb dX8_place_79 (by decide) ?_
      exact W.iret hx hb hr (fun t ht hW => ⟨(-2 : Int32), rfl, h, ht⟩) no_locs dX8_place_81
    · have h := h.2.1 c10
      refine lv_tableIn (tgt := 52) (off := 32) hx hb dX8_place_20 (by rw [c10]; decide) (by rw [c10]; decide) (by rw [c10]; rfl) (by decide) ?_
      refine lv_aload_n hx hb dX8_place_52 rfl (lv_at hl 1 rfl) ?_
      obtain ⟨fs11, a12, e13, e13', h⟩ := h
      refine r_get C hO 6 0 rfl inX8 (Nat.le_of_ble_eq_true rfl) e13 e13' (List.mem_of_getElem? (i := 1) (by decide +kernel)) dX8_place_53 ?_
      refine lv_iconst (v := (nI 0)) hx hb dX8_place_56 (by decide) ?_
      refine lv_iload_n hx hb dX8_place_57 rfl (lv_at hl 2 rfl) ?_
      refine lv_iadd hx hb dX8_place_58 ?_
      obtain ⟨n14, f15, i17, e16, e16', exi17, h⟩ := h
      refine r_iald C hO e16 e16' dX8_place_59 ?_
      rw [exi17]
      exact W.iret hx hb hr (fun t ht hW => ⟨i17, rfl, h, ht⟩) no_locs dX8_place_60
    · have h := h.2.2.1 c10
      refine lv_tableIn (tgt := 61) (off := 41) hx hb dX8_place_20 (by rw [c10]; decide) (by rw [c10]; decide) (by rw [c10]; rfl) (by decide) ?_
      refine lv_iload_n hx hb dX8_place_61 rfl (lv_at hl 0 rfl) ?_
      exact W.iret hx hb hr (fun t ht hW => ⟨i9, rfl, h, ht⟩) no_locs dX8_place_62
    · have h := h.2.2.2.1 c10
      refine lv_tableIn (tgt := 63) (off := 43) hx hb dX8_place_20 (by rw [c10]; decide) (by rw [c10]; decide) (by rw [c10]; rfl) (by decide) ?_
      refine lv_aload_n hx hb dX8_place_63 rfl (lv_at hl 1 rfl) ?_
      obtain ⟨fs18, a19, e20, e20', h⟩ := h
      refine r_get C hO 6 0 rfl inX8 (Nat.le_of_ble_eq_true rfl) e20 e20' (List.mem_of_getElem? (i := 1) (by decide +kernel)) dX8_place_64 ?_
      refine lv_bipush (v := (nI 30)) hx hb dX8_place_67 (by decide) ?_
      refine lv_iload_n hx hb dX8_place_69 rfl (lv_at hl 0 rfl) ?_
      refine lv_iadd hx hb dX8_place_70 ?_
      obtain ⟨n21, f22, i24, e23, e23', exi24, h⟩ := h
      refine r_iald C hO e23 e23' dX8_place_71 ?_
      rw [exi24]
      exact W.iret hx hb hr (fun t ht hW => ⟨i24, rfl, h, ht⟩) no_locs dX8_place_72
    · have h := h.2.2.2.2 c10
      refine lv_tableIn (tgt := 73) (off := 53) hx hb dX8_place_20 (by rw [c10]; decide) (by rw [c10]; decide) (by rw [c10]; rfl) (by decide) ?_
      refine lv_aload_n hx hb dX8_place_73 rfl (lv_at hl 1 rfl) ?_
      refine lv_iload_n hx hb dX8_place_74 rfl (lv_at hl 2 rfl) ?_
      obtain ⟨fs27, e26, h⟩ := h
      refine cV_ri (As := [.int v1]) (rest := []) (n := 1) C hO (fun L => c_X8_raising l D Y L S s.heap.size a0 v1 _ h) 6 rfl e26 (cwV 1 hts gX8_place_X8_raising rfl rfl rfl ⟨rfl, hdS_X8_raising⟩ ⟨Nat.le_of_ble_eq_true rfl, Nat.le_of_ble_eq_true rfl⟩) rfl hl.1 rfl (Nat.le_of_ble_eq_true rfl) dX8_place_75 ⟨Nat.le_of_ble_eq_true rfl, Nat.le_of_ble_eq_true rfl⟩ (fun i25 h => ?_)
      exact W.iret hx hb hr (fun t ht hW => ⟨i25, rfl, h, ht⟩) no_locs dX8_place_78
  · have h := h.1 c2
    refine lv_iconst (v := (-1 : Int32)) hx hb dX8_place_7 (by decide) ?_
    exact W.iret hx hb hr (fun t ht hW => ⟨(-1 : Int32), rfl, h, ht⟩) no_locs dX8_place_8
theorem hdS_X8_treadle : yX8_treadle.cls ≠ "java/lang/invoke/MethodHandle" ∧ yX8_treadle.cls ≠ "java/lang/invoke/VarHandle" ∧ (parseMethodDescriptor yX8_treadle.desc).map (fun d => d.parameters.length) = some 2 := by decide +kernel
set_option maxHeartbeats 4000000 in
set_option maxRecDepth 100000 in
theorem c_X8_treadle (l : Launch) (D : va_G) (Y : Nat → ClassId) (L : List Nat) (S : PS) (sz : Nat) (a0 : Nat) (v1 : Int32) (v2 : Int32) (Post : Int32 → Prop) (h : wp_X8_treadle S a0 v1 v2 Post) : Met l yX8_treadle wsX8_treadle ({ frames := 1, cells := 0, slots := 0, locals := 23 }) (va_Pc [.ref a0, .int v1, .int v2] (PrO D Y L S sz)) (vp_Si Post) 0 0 (fun _ => False) := by
  refine Met.ofW (cc := cX8_treadle) (maxL := 3) (ret := (some .int)) (by decide) rfl ?_
  intro p e s m args below meth c s₁ B hml hv
  obtain ⟨rfl, hsz, hJ, hP, hK, hD0, hZ⟩ := hv
  have hx := B.exec
  have hb := B.bytes
  have hr := B.returns
  have hts := atoms_spec (ws := wsX8_treadle) B.pre
  have hown : s.vm.findClass RX8 = some m.cls := findClass_of_methodNamed B.named
  have hlocks := B.notSynchronized
  have CF : CallFix p m c cX8_treadle 3 s ([.ref a0, .int v1, .int v2] : List Value).toArray wsX8_treadle RX8 := ⟨hx, hb, hml, hown, hts⟩
  have C : CX p m c cX8_treadle 3 s ([.ref a0, .int v1, .int v2] : List Value).toArray wsX8_treadle RX8 D Y := ⟨CF, hK, hZ⟩
  have hO : HO D Y (fR L sz) s.heap S s.heap [] := HO.entry hsz hJ hP hD0
  subst hsz
  have inX8 : ∀ w ∈ wsX80, w ∈ wsX8_treadle := fun w h => List.mem_cons_of_mem _ (List.mem_append_right _ h)
  have hl := lv_entry ([.ref a0, .int v1, .int v2]) (n := 3) (Nat.le_of_ble_eq_true rfl)
  rw [lg_entry_eq]
  generalize (lg_sl ([.ref a0, .int v1, .int v2]) ++ List.replicate (3 - (lg_sl ([.ref a0, .int v1, .int v2])).length) Slot.unset).toArray = ls at hl ⊢
  have hl : lv_has ls 3 [(0, .ref a0), (1, .int v1), (2, .int v2)] := hl
  unfold wp_X8_treadle at h
  refine lv_iload_n hx hb dX8_treadle_0 rfl (lv_at hl 1 rfl) ?_
  refine lv_iconst (v := (nI 0)) hx hb dX8_treadle_1 (by decide) ?_
  refine lv_iconst (v := (nI 5)) hx hb dX8_treadle_2 (by decide) ?_
  refine cS_si (As := [.int v1, .int (nI 0), .int (nI 5)]) (rest := []) (n := 3) CF hZ (c_X8_within l v1 (nI 0) (nI 5) _ h) (va_cwS 3 hts gX8_treadle_X8_within rfl rfl rfl hdS_X8_within ⟨Nat.le_of_ble_eq_true rfl, Nat.le_of_ble_eq_true rfl⟩) rfl hl.1 rfl (Nat.le_of_ble_eq_true rfl) dX8_treadle_3 ⟨Nat.le_of_ble_eq_true rfl, Nat.le_of_ble_eq_true rfl⟩ (fun i1 h => ?_)
  refine lv_if_ne (tgt := 11) hx hb dX8_treadle_6 (by decide) (fun c2 => ?_) (fun c2 => ?_)
  · have h := h.2 c2
    refine lv_iload_n hx hb dX8_treadle_11 rfl (lv_at hl 2 rfl) ?_
    refine lv_iconst (v := (nI 0)) hx hb dX8_treadle_12 (by decide) ?_
    refine lv_iconst (v := (nI 1)) hx hb dX8_treadle_13 (by decide) ?_
    refine cS_si (As := [.int v2, .int (nI 0), .int (nI 1)]) (rest := []) (n := 3) CF hZ (c_X8_within l v2 (nI 0) (nI 1) _ h) (va_cwS 3 hts gX8_treadle_X8_within rfl rfl rfl hdS_X8_within ⟨Nat.le_of_ble_eq_true rfl, Nat.le_of_ble_eq_true rfl⟩) rfl hl.1 rfl (Nat.le_of_ble_eq_true rfl) dX8_treadle_14 ⟨Nat.le_of_ble_eq_true rfl, Nat.le_of_ble_eq_true rfl⟩ (fun i3 h => ?_)
    refine lv_if_ne (tgt := 23) hx hb dX8_treadle_17 (by decide) (fun c4 => ?_) (fun c4 => ?_)
    · have h := h.2 c4
      refine lv_iload_n hx hb dX8_treadle_23 rfl (lv_at hl 2 rfl) ?_
      refine lv_if_ne (tgt := 39) hx hb dX8_treadle_24 (by decide) (fun c5 => ?_) (fun c5 => ?_)
      · have h := h.2 c5
        refine lv_aload_n hx hb dX8_treadle_39 rfl (lv_at hl 0 rfl) ?_
        refine lv_iload_n hx hb dX8_treadle_40 rfl (lv_at hl 1 rfl) ?_
        obtain ⟨fs8, e7, h⟩ := h
        refine cV_ri (As := [.int v1]) (rest := []) (n := 1) C hO (fun L => c_X8_raised l D Y L S s.heap.size a0 v1 _ h) 6 rfl e7 (cwV 1 hts gX8_treadle_X8_raised rfl rfl rfl ⟨rfl, hdS_X8_raised⟩ ⟨Nat.le_of_ble_eq_true rfl, Nat.le_of_ble_eq_true rfl⟩) rfl hl.1 rfl (Nat.le_of_ble_eq_true rfl) dX8_treadle_41 ⟨Nat.le_of_ble_eq_true rfl, Nat.le_of_ble_eq_true rfl⟩ (fun i6 h => ?_)
        exact W.iret hx hb hr (fun t ht hW => ⟨i6, rfl, h, ht⟩) no_locs dX8_treadle_44
      · have h := h.1 c5
        refine lv_aload_n hx hb dX8_treadle_27 rfl (lv_at hl 0 rfl) ?_
        obtain ⟨fs9, a10, e11, e11', h⟩ := h
        refine r_get C hO 6 0 rfl inX8 (Nat.le_of_ble_eq_true rfl) e11 e11' (List.mem_of_getElem? (i := 1) (by decide +kernel)) dX8_treadle_28 ?_
        refine lv_bipush (v := (nI 12)) hx hb dX8_treadle_31 (by decide) ?_
        refine lv_iload_n hx hb dX8_treadle_33 rfl (lv_at hl 1 rfl) ?_
        refine lv_iadd hx hb dX8_treadle_34 ?_
        obtain ⟨n12, f13, i15, e14, e14', exi15, h⟩ := h
        refine r_iald C hO e14 e14' dX8_treadle_35 ?_
        rw [exi15]
        refine lv_goto (tgt := 44) hx hb dX8_treadle_36 (by decide) ?_
        exact W.iret hx hb hr (fun t ht hW => ⟨i15, rfl, h, ht⟩) no_locs dX8_treadle_44
    · have h := h.1 c4
      refine lv_bipush (v := (-2 : Int32)) hx hb dX8_treadle_20 (by decide) ?_
      exact W.iret hx hb hr (fun t ht hW => ⟨(-2 : Int32), rfl, h, ht⟩) no_locs dX8_treadle_22
  · have h := h.1 c2
    refine lv_iconst (v := (-1 : Int32)) hx hb dX8_treadle_9 (by decide) ?_
    exact W.iret hx hb hr (fun t ht hW => ⟨(-1 : Int32), rfl, h, ht⟩) no_locs dX8_treadle_10
theorem hdS_X8_draft : yX8_draft.cls ≠ "java/lang/invoke/MethodHandle" ∧ yX8_draft.cls ≠ "java/lang/invoke/VarHandle" ∧ (parseMethodDescriptor yX8_draft.desc).map (fun d => d.parameters.length) = some 2 := by decide +kernel
set_option maxHeartbeats 4000000 in
set_option maxRecDepth 100000 in
theorem c_X8_draft (l : Launch) (D : va_G) (Y : Nat → ClassId) (L : List Nat) (S : PS) (sz : Nat) (a0 : Nat) (v1 : Int32) (v2 : Int32) (Post : Int32 → PS → Prop) (h : wp_X8_draft S a0 v1 v2 Post) : Met l yX8_draft wsX8_draft ({ frames := 3, cells := 0, slots := 0, locals := 72 }) (va_Pc [.ref a0, .int v1, .int v2] (PrO D Y L S sz)) (va_Qi Post (QtO D Y (fR L sz)) (fR L sz)) 0 0 (fR L sz) := by
  refine Met.ofW (cc := cX8_draft) (maxL := 3) (ret := (some .int)) (by decide) rfl ?_
  intro p e s m args below meth c s₁ B hml hv
  obtain ⟨rfl, hsz, hJ, hP, hK, hD0, hZ⟩ := hv
  have hx := B.exec
  have hb := B.bytes
  have hr := B.returns
  have hts := atoms_spec (ws := wsX8_draft) B.pre
  have hown : s.vm.findClass RX8 = some m.cls := findClass_of_methodNamed B.named
  have hlocks := B.notSynchronized
  have CF : CallFix p m c cX8_draft 3 s ([.ref a0, .int v1, .int v2] : List Value).toArray wsX8_draft RX8 := ⟨hx, hb, hml, hown, hts⟩
  have C : CX p m c cX8_draft 3 s ([.ref a0, .int v1, .int v2] : List Value).toArray wsX8_draft RX8 D Y := ⟨CF, hK, hZ⟩
  have hO : HO D Y (fR L sz) s.heap S s.heap [] := HO.entry hsz hJ hP hD0
  subst hsz
  have hl := lv_entry ([.ref a0, .int v1, .int v2]) (n := 3) (Nat.le_of_ble_eq_true rfl)
  rw [lg_entry_eq]
  generalize (lg_sl ([.ref a0, .int v1, .int v2]) ++ List.replicate (3 - (lg_sl ([.ref a0, .int v1, .int v2])).length) Slot.unset).toArray = ls at hl ⊢
  have hl : lv_has ls 3 [(0, .ref a0), (1, .int v1), (2, .int v2)] := hl
  unfold wp_X8_draft at h
  refine lv_iload_n hx hb dX8_draft_0 rfl (lv_at hl 1 rfl) ?_
  refine cS_si (As := [.int v1]) (rest := []) (n := 1) CF hZ (c_X8_isDraft l v1 _ h) (va_cwS 1 hts gX8_draft_X8_isDraft rfl rfl rfl hdS_X8_isDraft ⟨Nat.le_of_ble_eq_true rfl, Nat.le_of_ble_eq_true rfl⟩) rfl hl.1 rfl (Nat.le_of_ble_eq_true rfl) dX8_draft_1 ⟨Nat.le_of_ble_eq_true rfl, Nat.le_of_ble_eq_true rfl⟩ (fun i1 h => ?_)
  refine lv_if_ne (tgt := 9) hx hb dX8_draft_4 (by decide) (fun c2 => ?_) (fun c2 => ?_)
  · have h := h.2 c2
    refine lv_aload_n hx hb dX8_draft_9 rfl (lv_at hl 0 rfl) ?_
    refine lv_iload_n hx hb dX8_draft_10 rfl (lv_at hl 1 rfl) ?_
    obtain ⟨fs5, e4, h⟩ := h
    refine cV_wv (As := [.int v1]) (rest := []) (n := 1) C hO (fun L => c_X8_lay l D Y L S s.heap.size a0 v1 _ h) 6 rfl e4 (cwV 1 hts gX8_draft_X8_lay rfl rfl rfl ⟨rfl, hdS_X8_lay⟩ ⟨Nat.le_of_ble_eq_true rfl, Nat.le_of_ble_eq_true rfl⟩) rfl hl.1 rfl (Nat.le_of_ble_eq_true rfl) dX8_draft_11 ⟨Nat.le_of_ble_eq_true rfl, Nat.le_of_ble_eq_true rfl⟩ (fun S3 H locs h hO => ?_)
    refine lv_iload_n hx hb dX8_draft_14 rfl (lv_at hl 2 rfl) ?_
    rcases sw_6 v2 with c6 | c6 | c6 | c6 | c6 | c6 | c6 | c6
    · have h := h.1 c6
      refine lv_tableOut (tgt := 98) hx hb dX8_draft_15 c6 (by decide) ?_
      refine lv_bipush (v := (-2 : Int32)) hx hb dX8_draft_98 (by decide) ?_
      exact W.iret hx hb hr (fun t ht hW => ⟨⟨(-2 : Int32), S3, rfl, h, hO.q ht⟩, hO.f ht⟩) hO.lc dX8_draft_100
    · have h := h.2.1 c6
      refine lv_tableIn (tgt := 56) (off := 41) hx hb dX8_draft_15 (by rw [c6]; decide) (by rw [c6]; decide) (by rw [c6]; rfl) (by decide) ?_
      refine lv_aload_n hx hb dX8_draft_56 rfl (lv_at hl 0 rfl) ?_
      refine lv_iload_n hx hb dX8_draft_57 rfl (lv_at hl 1 rfl) ?_
      obtain ⟨fs9, e8, h⟩ := h
      refine cV_ri (As := [.int v1]) (rest := []) (n := 1) C hO (fun L => c_X8_lengthOf l D Y L S3 H.size a0 v1 _ h) 6 rfl e8 (cwV 1 hts gX8_draft_X8_lengthOf rfl rfl rfl ⟨rfl, hdS_X8_lengthOf⟩ ⟨Nat.le_of_ble_eq_true rfl, Nat.le_of_ble_eq_true rfl⟩) rfl hl.1 rfl (Nat.le_of_ble_eq_true rfl) dX8_draft_58 ⟨Nat.le_of_ble_eq_true rfl, Nat.le_of_ble_eq_true rfl⟩ (fun i7 h => ?_)
      exact W.iret hx hb hr (fun t ht hW => ⟨⟨i7, S3, rfl, h, hO.q ht⟩, hO.f ht⟩) hO.lc dX8_draft_61
    · have h := h.2.2.1 c6
      refine lv_tableIn (tgt := 62) (off := 47) hx hb dX8_draft_15 (by rw [c6]; decide) (by rw [c6]; decide) (by rw [c6]; rfl) (by decide) ?_
      refine lv_aload_n hx hb dX8_draft_62 rfl (lv_at hl 0 rfl) ?_
      refine lv_iload_n hx hb dX8_draft_63 rfl (lv_at hl 1 rfl) ?_
      obtain ⟨fs12, e11, h⟩ := h
      refine cV_ri (As := [.int v1]) (rest := []) (n := 1) C hO (fun L => c_X8_orderOf l D Y L S3 H.size a0 v1 _ h) 6 rfl e11 (cwV 1 hts gX8_draft_X8_orderOf rfl rfl rfl ⟨rfl, hdS_X8_orderOf⟩ ⟨Nat.le_of_ble_eq_true rfl, Nat.le_of_ble_eq_true rfl⟩) rfl hl.1 rfl (Nat.le_of_ble_eq_true rfl) dX8_draft_64 ⟨Nat.le_of_ble_eq_true rfl, Nat.le_of_ble_eq_true rfl⟩ (fun i10 h => ?_)
      exact W.iret hx hb hr (fun t ht hW => ⟨⟨i10, S3, rfl, h, hO.q ht⟩, hO.f ht⟩) hO.lc dX8_draft_67
    · have h := h.2.2.2.1 c6
      refine lv_tableIn (tgt := 68) (off := 53) hx hb dX8_draft_15 (by rw [c6]; decide) (by rw [c6]; decide) (by rw [c6]; rfl) (by decide) ?_
      refine lv_aload_n hx hb dX8_draft_68 rfl (lv_at hl 0 rfl) ?_
      refine lv_iload_n hx hb dX8_draft_69 rfl (lv_at hl 1 rfl) ?_
      obtain ⟨fs15, e14, h⟩ := h
      refine cV_ri (As := [.int v1]) (rest := []) (n := 1) C hO (fun L => c_X8_stays l D Y L S3 H.size a0 v1 _ h) 6 rfl e14 (cwV 1 hts gX8_draft_X8_stays rfl rfl rfl ⟨rfl, hdS_X8_stays⟩ ⟨Nat.le_of_ble_eq_true rfl, Nat.le_of_ble_eq_true rfl⟩) rfl hl.1 rfl (Nat.le_of_ble_eq_true rfl) dX8_draft_70 ⟨Nat.le_of_ble_eq_true rfl, Nat.le_of_ble_eq_true rfl⟩ (fun i13 h => ?_)
      exact W.iret hx hb hr (fun t ht hW => ⟨⟨i13, S3, rfl, h, hO.q ht⟩, hO.f ht⟩) hO.lc dX8_draft_73
    · have h := h.2.2.2.2.1 c6
      refine lv_tableIn (tgt := 74) (off := 59) hx hb dX8_draft_15 (by rw [c6]; decide) (by rw [c6]; decide) (by rw [c6]; rfl) (by decide) ?_
      refine lv_aload_n hx hb dX8_draft_74 rfl (lv_at hl 0 rfl) ?_
      refine lv_iload_n hx hb dX8_draft_75 rfl (lv_at hl 1 rfl) ?_
      obtain ⟨fs18, e17, h⟩ := h
      refine cV_ri (As := [.int v1]) (rest := []) (n := 1) C hO (fun L => c_X8_cycles l D Y L S3 H.size a0 v1 _ h) 6 rfl e17 (cwV 1 hts gX8_draft_X8_cycles rfl rfl rfl ⟨rfl, hdS_X8_cycles⟩ ⟨Nat.le_of_ble_eq_true rfl, Nat.le_of_ble_eq_true rfl⟩) rfl hl.1 rfl (Nat.le_of_ble_eq_true rfl) dX8_draft_76 ⟨Nat.le_of_ble_eq_true rfl, Nat.le_of_ble_eq_true rfl⟩ (fun i16 h => ?_)
      exact W.iret hx hb hr (fun t ht hW => ⟨⟨i16, S3, rfl, h, hO.q ht⟩, hO.f ht⟩) hO.lc dX8_draft_79
    · have h := h.2.2.2.2.2.1 c6
      refine lv_tableIn (tgt := 80) (off := 65) hx hb dX8_draft_15 (by rw [c6]; decide) (by rw [c6]; decide) (by rw [c6]; rfl) (by decide) ?_
      refine lv_aload_n hx hb dX8_draft_80 rfl (lv_at hl 0 rfl) ?_
      refine lv_iload_n hx hb dX8_draft_81 rfl (lv_at hl 1 rfl) ?_
      obtain ⟨fs21, e20, h⟩ := h
      refine cV_ri (As := [.int v1]) (rest := []) (n := 1) C hO (fun L => c_X8_longest l D Y L S3 H.size a0 v1 _ h) 6 rfl e20 (cwV 1 hts gX8_draft_X8_longest rfl rfl rfl ⟨rfl, hdS_X8_longest⟩ ⟨Nat.le_of_ble_eq_true rfl, Nat.le_of_ble_eq_true rfl⟩) rfl hl.1 rfl (Nat.le_of_ble_eq_true rfl) dX8_draft_82 ⟨Nat.le_of_ble_eq_true rfl, Nat.le_of_ble_eq_true rfl⟩ (fun i19 h => ?_)
      exact W.iret hx hb hr (fun t ht hW => ⟨⟨i19, S3, rfl, h, hO.q ht⟩, hO.f ht⟩) hO.lc dX8_draft_85
    · have h := h.2.2.2.2.2.2.1 c6
      refine lv_tableIn (tgt := 86) (off := 71) hx hb dX8_draft_15 (by rw [c6]; decide) (by rw [c6]; decide) (by rw [c6]; rfl) (by decide) ?_
      refine lv_aload_n hx hb dX8_draft_86 rfl (lv_at hl 0 rfl) ?_
      refine lv_iload_n hx hb dX8_draft_87 rfl (lv_at hl 1 rfl) ?_
      obtain ⟨fs24, e23, h⟩ := h
      refine cV_ri (As := [.int v1]) (rest := []) (n := 1) C hO (fun L => c_X8_turnedPairs l D Y L S3 H.size a0 v1 _ h) 6 rfl e23 (cwV 1 hts gX8_draft_X8_turnedPairs rfl rfl rfl ⟨rfl, hdS_X8_turnedPairs⟩ ⟨Nat.le_of_ble_eq_true rfl, Nat.le_of_ble_eq_true rfl⟩) rfl hl.1 rfl (Nat.le_of_ble_eq_true rfl) dX8_draft_88 ⟨Nat.le_of_ble_eq_true rfl, Nat.le_of_ble_eq_true rfl⟩ (fun i22 h => ?_)
      exact W.iret hx hb hr (fun t ht hW => ⟨⟨i22, S3, rfl, h, hO.q ht⟩, hO.f ht⟩) hO.lc dX8_draft_91
    · have h := h.2.2.2.2.2.2.2 c6
      refine lv_tableIn (tgt := 92) (off := 77) hx hb dX8_draft_15 (by rw [c6]; decide) (by rw [c6]; decide) (by rw [c6]; rfl) (by decide) ?_
      refine lv_aload_n hx hb dX8_draft_92 rfl (lv_at hl 0 rfl) ?_
      refine lv_iload_n hx hb dX8_draft_93 rfl (lv_at hl 1 rfl) ?_
      obtain ⟨fs28, e27, h⟩ := h
      refine cV_wi (As := [.int v1]) (rest := []) (n := 1) C hO (fun L => c_X8_repeats l D Y L S3 H.size a0 v1 _ h) 6 rfl e27 (cwV 1 hts gX8_draft_X8_repeats rfl rfl rfl ⟨rfl, hdS_X8_repeats⟩ ⟨Nat.le_of_ble_eq_true rfl, Nat.le_of_ble_eq_true rfl⟩) rfl hl.1 rfl (Nat.le_of_ble_eq_true rfl) dX8_draft_94 ⟨Nat.le_of_ble_eq_true rfl, Nat.le_of_ble_eq_true rfl⟩ (fun i25 S26 H locs h hO => ?_)
      exact W.iret hx hb hr (fun t ht hW => ⟨⟨i25, S26, rfl, h, hO.q ht⟩, hO.f ht⟩) hO.lc dX8_draft_97
  · have h := h.1 c2
    refine lv_iconst (v := (-1 : Int32)) hx hb dX8_draft_7 (by decide) ?_
    exact W.iret hx hb hr (fun t ht hW => ⟨⟨(-1 : Int32), S, rfl, h, hO.q ht⟩, hO.f ht⟩) hO.lc dX8_draft_8
theorem hdS_X8_press : yX8_press.cls ≠ "java/lang/invoke/MethodHandle" ∧ yX8_press.cls ≠ "java/lang/invoke/VarHandle" ∧ (parseMethodDescriptor yX8_press.desc).map (fun d => d.parameters.length) = some 2 := by decide +kernel
set_option maxHeartbeats 4000000 in
set_option maxRecDepth 100000 in
theorem c_X8_press (l : Launch) (D : va_G) (Y : Nat → ClassId) (L : List Nat) (S : PS) (sz : Nat) (a0 : Nat) (v1 : Int32) (v2 : Int32) (Post : Int32 → Prop) (h : wp_X8_press S a0 v1 v2 Post) : Met l yX8_press wsX8_press ({ frames := 2, cells := 0, slots := 0, locals := 42 }) (va_Pc [.ref a0, .int v1, .int v2] (PrO D Y L S sz)) (vp_Si Post) 0 0 (fun _ => False) := by
  refine Met.ofW (cc := cX8_press) (maxL := 3) (ret := (some .int)) (by decide) rfl ?_
  intro p e s m args below meth c s₁ B hml hv
  obtain ⟨rfl, hsz, hJ, hP, hK, hD0, hZ⟩ := hv
  have hx := B.exec
  have hb := B.bytes
  have hr := B.returns
  have hts := atoms_spec (ws := wsX8_press) B.pre
  have hown : s.vm.findClass RX8 = some m.cls := findClass_of_methodNamed B.named
  have hlocks := B.notSynchronized
  have CF : CallFix p m c cX8_press 3 s ([.ref a0, .int v1, .int v2] : List Value).toArray wsX8_press RX8 := ⟨hx, hb, hml, hown, hts⟩
  have C : CX p m c cX8_press 3 s ([.ref a0, .int v1, .int v2] : List Value).toArray wsX8_press RX8 D Y := ⟨CF, hK, hZ⟩
  have hO : HO D Y (fR L sz) s.heap S s.heap [] := HO.entry hsz hJ hP hD0
  subst hsz
  have hl := lv_entry ([.ref a0, .int v1, .int v2]) (n := 3) (Nat.le_of_ble_eq_true rfl)
  rw [lg_entry_eq]
  generalize (lg_sl ([.ref a0, .int v1, .int v2]) ++ List.replicate (3 - (lg_sl ([.ref a0, .int v1, .int v2])).length) Slot.unset).toArray = ls at hl ⊢
  have hl : lv_has ls 3 [(0, .ref a0), (1, .int v1), (2, .int v2)] := hl
  unfold wp_X8_press at h
  refine lv_iload_n hx hb dX8_press_0 rfl (lv_at hl 1 rfl) ?_
  refine cS_si (As := [.int v1]) (rest := []) (n := 1) CF hZ (c_X8_isDraft l v1 _ h) (va_cwS 1 hts gX8_press_X8_isDraft rfl rfl rfl hdS_X8_isDraft ⟨Nat.le_of_ble_eq_true rfl, Nat.le_of_ble_eq_true rfl⟩) rfl hl.1 rfl (Nat.le_of_ble_eq_true rfl) dX8_press_1 ⟨Nat.le_of_ble_eq_true rfl, Nat.le_of_ble_eq_true rfl⟩ (fun i1 h => ?_)
  refine lv_if_eq (tgt := 22) hx hb dX8_press_4 (by decide) (fun c2 => ?_) (fun c2 => ?_)
  · have h := h.1 c2
    refine lv_iconst (v := (-1 : Int32)) hx hb dX8_press_22 (by decide) ?_
    exact W.iret hx hb hr (fun t ht hW => ⟨(-1 : Int32), rfl, h, ht⟩) no_locs dX8_press_23
  · have h := h.2 c2
    refine lv_iload_n hx hb dX8_press_7 rfl (lv_at hl 2 rfl) ?_
    refine lv_iconst (v := (nI 0)) hx hb dX8_press_8 (by decide) ?_
    refine lv_aload_n hx hb dX8_press_9 rfl (lv_at hl 0 rfl) ?_
    refine lv_iload_n hx hb dX8_press_10 rfl (lv_at hl 1 rfl) ?_
    obtain ⟨fs5, e4, h⟩ := h
    refine cV_ri (As := [.int v1]) (rest := [.int (nI 0), .int v2]) (n := 1) C hO (fun L => c_X8_lengthOf l D Y L S s.heap.size a0 v1 _ h) 6 rfl e4 (cwV 1 hts gX8_press_X8_lengthOf rfl rfl rfl ⟨rfl, hdS_X8_lengthOf⟩ ⟨Nat.le_of_ble_eq_true rfl, Nat.le_of_ble_eq_true rfl⟩) rfl hl.1 rfl (Nat.le_of_ble_eq_true rfl) dX8_press_11 ⟨Nat.le_of_ble_eq_true rfl, Nat.le_of_ble_eq_true rfl⟩ (fun i3 h => ?_)
    refine lv_iconst (v := (nI 1)) hx hb dX8_press_14 (by decide) ?_
    refine lv_isub hx hb dX8_press_15 ?_
    refine cS_si (As := [.int v2, .int (nI 0), .int (i3 - (nI 1))]) (rest := []) (n := 3) CF hZ (c_X8_within l v2 (nI 0) ((i3 - (nI 1))) _ h) (va_cwS 3 hts gX8_press_X8_within rfl rfl rfl hdS_X8_within ⟨Nat.le_of_ble_eq_true rfl, Nat.le_of_ble_eq_true rfl⟩) rfl hl.1 rfl (Nat.le_of_ble_eq_true rfl) dX8_press_16 ⟨Nat.le_of_ble_eq_true rfl, Nat.le_of_ble_eq_true rfl⟩ (fun i6 h => ?_)
    refine lv_if_ne (tgt := 24) hx hb dX8_press_19 (by decide) (fun c7 => ?_) (fun c7 => ?_)
    · have h := h.2 c7
      refine lv_aload_n hx hb dX8_press_24 rfl (lv_at hl 0 rfl) ?_
      refine lv_iload_n hx hb dX8_press_25 rfl (lv_at hl 1 rfl) ?_
      refine lv_iload_n hx hb dX8_press_26 rfl (lv_at hl 2 rfl) ?_
      obtain ⟨fs10, e9, h⟩ := h
      refine cV_ri (As := [.int v1, .int v2]) (rest := []) (n := 2) C hO (fun L => c_X8_pressOf l D Y L S s.heap.size a0 v1 v2 _ h) 6 rfl e9 (cwV 2 hts gX8_press_X8_pressOf rfl rfl rfl ⟨rfl, hdS_X8_pressOf⟩ ⟨Nat.le_of_ble_eq_true rfl, Nat.le_of_ble_eq_true rfl⟩) rfl hl.1 rfl (Nat.le_of_ble_eq_true rfl) dX8_press_27 ⟨Nat.le_of_ble_eq_true rfl, Nat.le_of_ble_eq_true rfl⟩ (fun i8 h => ?_)
      exact W.iret hx hb hr (fun t ht hW => ⟨i8, rfl, h, ht⟩) no_locs dX8_press_30
    · have h := h.1 c7
      refine lv_iconst (v := (-1 : Int32)) hx hb dX8_press_22 (by decide) ?_
      exact W.iret hx hb hr (fun t ht hW => ⟨(-1 : Int32), rfl, h, ht⟩) no_locs dX8_press_23
theorem hdS_X8_comesTo : yX8_comesTo.cls ≠ "java/lang/invoke/MethodHandle" ∧ yX8_comesTo.cls ≠ "java/lang/invoke/VarHandle" ∧ (parseMethodDescriptor yX8_comesTo.desc).map (fun d => d.parameters.length) = some 3 := by decide +kernel
set_option maxHeartbeats 4000000 in
set_option maxRecDepth 100000 in
theorem c_X8_comesTo (l : Launch) (D : va_G) (Y : Nat → ClassId) (L : List Nat) (S : PS) (sz : Nat) (a0 : Nat) (v1 : Int32) (v2 : Int32) (v3 : Int32) (Post : Int32 → PS → Prop) (h : wp_X8_comesTo S a0 v1 v2 v3 Post) : Met l yX8_comesTo wsX8_comesTo ({ frames := 3, cells := 0, slots := 0, locals := 72 }) (va_Pc [.ref a0, .int v1, .int v2, .int v3] (PrO D Y L S sz)) (va_Qi Post (QtO D Y (fR L sz)) (fR L sz)) 0 0 (fR L sz) := by
  refine Met.ofW (cc := cX8_comesTo) (maxL := 6) (ret := (some .int)) (by decide) rfl ?_
  intro p e s m args below meth c s₁ B hml hv
  obtain ⟨rfl, hsz, hJ, hP, hK, hD0, hZ⟩ := hv
  have hx := B.exec
  have hb := B.bytes
  have hr := B.returns
  have hts := atoms_spec (ws := wsX8_comesTo) B.pre
  have hown : s.vm.findClass RX8 = some m.cls := findClass_of_methodNamed B.named
  have hlocks := B.notSynchronized
  have CF : CallFix p m c cX8_comesTo 6 s ([.ref a0, .int v1, .int v2, .int v3] : List Value).toArray wsX8_comesTo RX8 := ⟨hx, hb, hml, hown, hts⟩
  have C : CX p m c cX8_comesTo 6 s ([.ref a0, .int v1, .int v2, .int v3] : List Value).toArray wsX8_comesTo RX8 D Y := ⟨CF, hK, hZ⟩
  have hO : HO D Y (fR L sz) s.heap S s.heap [] := HO.entry hsz hJ hP hD0
  subst hsz
  have hl := lv_entry ([.ref a0, .int v1, .int v2, .int v3]) (n := 6) (Nat.le_of_ble_eq_true rfl)
  rw [lg_entry_eq]
  generalize (lg_sl ([.ref a0, .int v1, .int v2, .int v3]) ++ List.replicate (6 - (lg_sl ([.ref a0, .int v1, .int v2, .int v3])).length) Slot.unset).toArray = ls at hl ⊢
  have hl : lv_has ls 6 [(0, .ref a0), (1, .int v1), (2, .int v2), (3, .int v3)] := hl
  unfold wp_X8_comesTo at h
  refine lv_iload_n hx hb dX8_comesTo_0 rfl (lv_at hl 1 rfl) ?_
  refine cS_si (As := [.int v1]) (rest := []) (n := 1) CF hZ (c_X8_isDraft l v1 _ h) (va_cwS 1 hts gX8_comesTo_X8_isDraft rfl rfl rfl hdS_X8_isDraft ⟨Nat.le_of_ble_eq_true rfl, Nat.le_of_ble_eq_true rfl⟩) rfl hl.1 rfl (Nat.le_of_ble_eq_true rfl) dX8_comesTo_1 ⟨Nat.le_of_ble_eq_true rfl, Nat.le_of_ble_eq_true rfl⟩ (fun i1 h => ?_)
  refine lv_if_eq (tgt := 14) hx hb dX8_comesTo_4 (by decide) (fun c2 => ?_) (fun c2 => ?_)
  · have h := h.1 c2
    refine lv_iconst (v := (-1 : Int32)) hx hb dX8_comesTo_14 (by decide) ?_
    exact W.iret hx hb hr (fun t ht hW => ⟨⟨(-1 : Int32), S, rfl, h, hO.q ht⟩, hO.f ht⟩) hO.lc dX8_comesTo_15
  · have h := h.2 c2
    refine lv_iload_n hx hb dX8_comesTo_7 rfl (lv_at hl 2 rfl) ?_
    refine cS_si (As := [.int v2]) (rest := []) (n := 1) CF hZ (c_X8_isPlace l v2 _ h) (va_cwS 1 hts gX8_comesTo_X8_isPlace rfl rfl rfl hdS_X8_isPlace ⟨Nat.le_of_ble_eq_true rfl, Nat.le_of_ble_eq_true rfl⟩) rfl hl.1 rfl (Nat.le_of_ble_eq_true rfl) dX8_comesTo_8 ⟨Nat.le_of_ble_eq_true rfl, Nat.le_of_ble_eq_true rfl⟩ (fun i3 h => ?_)
    refine lv_if_ne (tgt := 16) hx hb dX8_comesTo_11 (by decide) (fun c4 => ?_) (fun c4 => ?_)
    · have h := h.2 c4
      refine lv_iload_n hx hb dX8_comesTo_16 rfl (lv_at hl 3 rfl) ?_
      refine lv_iconst (v := (nI 0)) hx hb dX8_comesTo_17 (by decide) ?_
      refine lv_ldc hx hb hown (hts _ (List.mem_of_getElem? (i := 1) (by decide +kernel : wsX8_comesTo[1]? = some (Cond.constant RX8 135 (1000000))))) dX8_comesTo_18 ?_
      refine cS_si (As := [.int v3, .int (nI 0), .int (1000000 : Int32)]) (rest := []) (n := 3) CF hZ (c_X8_within l v3 (nI 0) (1000000 : Int32) _ h) (va_cwS 3 hts gX8_comesTo_X8_within rfl rfl rfl hdS_X8_within ⟨Nat.le_of_ble_eq_true rfl, Nat.le_of_ble_eq_true rfl⟩) rfl hl.1 rfl (Nat.le_of_ble_eq_true rfl) dX8_comesTo_20 ⟨Nat.le_of_ble_eq_true rfl, Nat.le_of_ble_eq_true rfl⟩ (fun i5 h => ?_)
      refine lv_if_ne (tgt := 29) hx hb dX8_comesTo_23 (by decide) (fun c6 => ?_) (fun c6 => ?_)
      · have h := h.2 c6
        refine lv_aload_n hx hb dX8_comesTo_29 rfl (lv_at hl 0 rfl) ?_
        refine lv_iload_n hx hb dX8_comesTo_30 rfl (lv_at hl 1 rfl) ?_
        obtain ⟨fs9, e8, h⟩ := h
        refine cV_wv (As := [.int v1]) (rest := []) (n := 1) C hO (fun L => c_X8_lay l D Y L S s.heap.size a0 v1 _ h) 6 rfl e8 (cwV 1 hts gX8_comesTo_X8_lay rfl rfl rfl ⟨rfl, hdS_X8_lay⟩ ⟨Nat.le_of_ble_eq_true rfl, Nat.le_of_ble_eq_true rfl⟩) rfl hl.1 rfl (Nat.le_of_ble_eq_true rfl) dX8_comesTo_31 ⟨Nat.le_of_ble_eq_true rfl, Nat.le_of_ble_eq_true rfl⟩ (fun S7 H locs h hO => ?_)
        refine lv_iload_n hx hb dX8_comesTo_34 rfl (lv_at hl 2 rfl) ?_
        refine lv_istore (lv' := [(4, .int v2), (0, .ref a0), (1, .int v1), (2, .int v2), (3, .int v3)]) hx hb dX8_comesTo_35 hl (by decide) rfl (fun ls hl => ?_)
        refine lv_iconst (v := (nI 0)) hx hb dX8_comesTo_37 (by decide) ?_
        refine lv_istore (lv' := [(5, .int (nI 0)), (4, .int v2), (0, .ref a0), (1, .int v1), (2, .int v2), (3, .int v3)]) hx hb dX8_comesTo_38 hl (by decide) rfl (fun ls hl => ?_)
        obtain ⟨n21, h⟩ := h
        refine lp_P (nL := 6) (fun q => [(5, .int q.1), (4, .int q.2), (0, .ref a0), (1, .int v1), (2, .int v2), (3, .int v3)]) h (lv_sub hl [0, 1, 2, 3, 4, 5] rfl) (fun K40 ih40 q ls h hl => ?_)
        obtain ⟨i10, i11⟩ := q
        have h : wpb_X8_comesTo_40 a0 v1 v2 v3 S7 Post K40 i10 i11 := h
        have hl : lv_has ls 6 [(5, .int i10), (4, .int i11), (0, .ref a0), (1, .int v1), (2, .int v2), (3, .int v3)] := hl
        unfold wpb_X8_comesTo_40 at h
        refine lv_iload hx hb dX8_comesTo_40 (lv_at hl 0 rfl) ?_
        refine lv_iload_n hx hb dX8_comesTo_42 rfl (lv_at hl 5 rfl) ?_
        refine lv_aload_n hx hb dX8_comesTo_43 rfl (lv_at hl 2 rfl) ?_
        refine lv_iload_n hx hb dX8_comesTo_44 rfl (lv_at hl 3 rfl) ?_
        refine lv_iload_n hx hb dX8_comesTo_45 rfl (lv_at hl 4 rfl) ?_
        obtain ⟨fs14, e13, h⟩ := h
        refine cV_ri (As := [.int v1, .int v2]) (rest := [.int v3, .int i10]) (n := 2) C hO (fun L => c_X8_cycleOf l D Y L S7 H.size a0 v1 v2 _ h) 6 rfl e13 (cwV 2 hts gX8_comesTo_X8_cycleOf rfl rfl rfl ⟨rfl, hdS_X8_cycleOf⟩ ⟨Nat.le_of_ble_eq_true rfl, Nat.le_of_ble_eq_true rfl⟩) rfl hl.1 rfl (Nat.le_of_ble_eq_true rfl) dX8_comesTo_46 ⟨Nat.le_of_ble_eq_true rfl, Nat.le_of_ble_eq_true rfl⟩ (fun i12 h => ?_)
        obtain ⟨g15, h⟩ := h
        refine lv_irem hx hb dX8_comesTo_49 g15 ?_
        refine lv_icmp_ge (tgt := 68) hx hb dX8_comesTo_50 (by decide) (fun c16 => ?_) (fun c16 => ?_)
        · have h := h.1 c16
          refine lv_iload hx hb dX8_comesTo_68 (lv_at hl 1 rfl) ?_
          exact W.iret hx hb hr (fun t ht hW => ⟨⟨i11, S7, rfl, h, hO.q ht⟩, hO.f ht⟩) hO.lc dX8_comesTo_70
        · have h := h.2 c16
          refine lv_aload_n hx hb dX8_comesTo_53 rfl (lv_at hl 2 rfl) ?_
          refine lv_iload_n hx hb dX8_comesTo_54 rfl (lv_at hl 3 rfl) ?_
          refine lv_iload hx hb dX8_comesTo_55 (lv_at hl 1 rfl) ?_
          obtain ⟨fs19, e18, h⟩ := h
          refine cV_ri (As := [.int v1, .int i11]) (rest := []) (n := 2) C hO (fun L => c_X8_comesBy l D Y L S7 H.size a0 v1 i11 _ h) 6 rfl e18 (cwV 2 hts gX8_comesTo_X8_comesBy rfl rfl rfl ⟨rfl, hdS_X8_comesBy⟩ ⟨Nat.le_of_ble_eq_true rfl, Nat.le_of_ble_eq_true rfl⟩) rfl hl.1 rfl (Nat.le_of_ble_eq_true rfl) dX8_comesTo_57 ⟨Nat.le_of_ble_eq_true rfl, Nat.le_of_ble_eq_true rfl⟩ (fun i17 h => ?_)
          refine lv_istore (lv' := [(4, .int i17), (5, .int i10), (0, .ref a0), (1, .int v1), (2, .int v2), (3, .int v3)]) hx hb dX8_comesTo_60 hl (by decide) rfl (fun ls hl => ?_)
          obtain ⟨i20, ei20⟩ : ∃ y : Int32, y = i10 + (nI 1) := ⟨_, rfl⟩
          have h := h i20 ei20
          refine lv_iinc (v := i20) (lv' := [(5, .int i20), (4, .int i17), (0, .ref a0), (1, .int v1), (2, .int v2), (3, .int v3)]) hx hb dX8_comesTo_62 hl (k := 1) rfl (by rw [ei20]; rfl) (by decide) rfl (fun ls hl => ?_)
          refine lv_goto (tgt := 40) hx hb dX8_comesTo_65 (by decide) ?_
          exact ih40 (i20, i17) _ h (lv_sub hl [0, 1, 2, 3, 4, 5] rfl)
      · have h := h.1 c6
        refine lv_bipush (v := (-2 : Int32)) hx hb dX8_comesTo_26 (by decide) ?_
        exact W.iret hx hb hr (fun t ht hW => ⟨⟨(-2 : Int32), S, rfl, h, hO.q ht⟩, hO.f ht⟩) hO.lc dX8_comesTo_28
    · have h := h.1 c4
      refine lv_iconst (v := (-1 : Int32)) hx hb dX8_comesTo_14 (by decide) ?_
      exact W.iret hx hb hr (fun t ht hW => ⟨⟨(-1 : Int32), S, rfl, h, hO.q ht⟩, hO.f ht⟩) hO.lc dX8_comesTo_15
theorem hdS_X8_neverRaised : yX8_neverRaised.cls ≠ "java/lang/invoke/MethodHandle" ∧ yX8_neverRaised.cls ≠ "java/lang/invoke/VarHandle" ∧ (parseMethodDescriptor yX8_neverRaised.desc).map (fun d => d.parameters.length) = some 0 := by decide +kernel
set_option maxHeartbeats 4000000 in
set_option maxRecDepth 100000 in
theorem c_X8_neverRaised (l : Launch) (D : va_G) (Y : Nat → ClassId) (L : List Nat) (S : PS) (sz : Nat) (a0 : Nat) (Post : Int32 → Prop) (h : wp_X8_neverRaised S a0 Post) : Met l yX8_neverRaised wsX8_neverRaised ({ frames := 2, cells := 0, slots := 0, locals := 46 }) (va_Pc [.ref a0] (PrO D Y L S sz)) (vp_Si Post) 0 0 (fun _ => False) := by
  refine Met.ofW (cc := cX8_neverRaised) (maxL := 3) (ret := (some .int)) (by decide) rfl ?_
  intro p e s m args below meth c s₁ B hml hv
  obtain ⟨rfl, hsz, hJ, hP, hK, hD0, hZ⟩ := hv
  have hx := B.exec
  have hb := B.bytes
  have hr := B.returns
  have hts := atoms_spec (ws := wsX8_neverRaised) B.pre
  have hown : s.vm.findClass RX8 = some m.cls := findClass_of_methodNamed B.named
  have hlocks := B.notSynchronized
  have CF : CallFix p m c cX8_neverRaised 3 s ([.ref a0] : List Value).toArray wsX8_neverRaised RX8 := ⟨hx, hb, hml, hown, hts⟩
  have C : CX p m c cX8_neverRaised 3 s ([.ref a0] : List Value).toArray wsX8_neverRaised RX8 D Y := ⟨CF, hK, hZ⟩
  have hO : HO D Y (fR L sz) s.heap S s.heap [] := HO.entry hsz hJ hP hD0
  subst hsz
  have hl := lv_entry ([.ref a0]) (n := 3) (Nat.le_of_ble_eq_true rfl)
  rw [lg_entry_eq]
  generalize (lg_sl ([.ref a0]) ++ List.replicate (3 - (lg_sl ([.ref a0])).length) Slot.unset).toArray = ls at hl ⊢
  have hl : lv_has ls 3 [(0, .ref a0)] := hl
  unfold wp_X8_neverRaised at h
  refine lv_iconst (v := (nI 0)) hx hb dX8_neverRaised_0 (by decide) ?_
  refine lv_istore_n (lv' := [(1, .int (nI 0)), (0, .ref a0)]) hx hb dX8_neverRaised_1 rfl hl (by decide) rfl (fun ls hl => ?_)
  refine lv_iconst (v := (nI 0)) hx hb dX8_neverRaised_2 (by decide) ?_
  refine lv_istore_n (lv' := [(2, .int (nI 0)), (1, .int (nI 0)), (0, .ref a0)]) hx hb dX8_neverRaised_3 rfl hl (by decide) rfl (fun ls hl => ?_)
  obtain ⟨n12, h⟩ := h
  refine lp_P (nL := 3) (fun q => [(2, .int q.1), (1, .int q.2), (0, .ref a0)]) h (lv_sub hl [0, 1, 2] rfl) (fun K4 ih4 q ls h hl => ?_)
  obtain ⟨i1, i2⟩ := q
  have h : wpb_X8_neverRaised_4 S a0 Post K4 i1 i2 := h
  have hl : lv_has ls 3 [(2, .int i1), (1, .int i2), (0, .ref a0)] := hl
  unfold wpb_X8_neverRaised_4 at h
  refine lv_iload_n hx hb dX8_neverRaised_4 rfl (lv_at hl 0 rfl) ?_
  refine lv_bipush (v := (nI 12)) hx hb dX8_neverRaised_5 (by decide) ?_
  refine lv_icmp_ge (tgt := 34) hx hb dX8_neverRaised_7 (by decide) (fun c3 => ?_) (fun c3 => ?_)
  · have h := h.1 c3
    refine lv_iload_n hx hb dX8_neverRaised_34 rfl (lv_at hl 1 rfl) ?_
    exact W.iret hx hb hr (fun t ht hW => ⟨i2, rfl, h, ht⟩) no_locs dX8_neverRaised_35
  · have h := h.2 c3
    refine lv_iload_n hx hb dX8_neverRaised_10 rfl (lv_at hl 1 rfl) ?_
    refine lv_aload_n hx hb dX8_neverRaised_11 rfl (lv_at hl 2 rfl) ?_
    refine lv_iload_n hx hb dX8_neverRaised_12 rfl (lv_at hl 0 rfl) ?_
    obtain ⟨fs6, e5, h⟩ := h
    refine cV_ri (As := [.int i1]) (rest := [.int i2]) (n := 1) C hO (fun L => c_X8_raising l D Y L S s.heap.size a0 i1 _ h) 6 rfl e5 (cwV 1 hts gX8_neverRaised_X8_raising rfl rfl rfl ⟨rfl, hdS_X8_raising⟩ ⟨Nat.le_of_ble_eq_true rfl, Nat.le_of_ble_eq_true rfl⟩) rfl hl.1 rfl (Nat.le_of_ble_eq_true rfl) dX8_neverRaised_13 ⟨Nat.le_of_ble_eq_true rfl, Nat.le_of_ble_eq_true rfl⟩ (fun i4 h => ?_)
    refine lv_if_ne (tgt := 25) hx hb dX8_neverRaised_16 (by decide) (fun c7 => ?_) (fun c7 => ?_)
    · have h := h.2 c7
      refine lv_iconst (v := (nI 0)) hx hb dX8_neverRaised_25 (by decide) ?_
      refine lv_ior hx hb dX8_neverRaised_26 ?_
      refine lv_topi (fun i8 ei8 => ?_)
      have h := h i8 ei8
      refine lv_istore_n (lv' := [(1, .int i8), (2, .int i1), (0, .ref a0)]) hx hb dX8_neverRaised_27 rfl hl (by decide) rfl (fun ls hl => ?_)
      obtain ⟨i9, ei9⟩ : ∃ y : Int32, y = i1 + (nI 1) := ⟨_, rfl⟩
      have h := h i9 ei9
      refine lv_iinc (v := i9) (lv' := [(2, .int i9), (1, .int i8), (0, .ref a0)]) hx hb dX8_neverRaised_28 hl (k := 1) rfl (by rw [ei9]; rfl) (by decide) rfl (fun ls hl => ?_)
      refine lv_goto (tgt := 4) hx hb dX8_neverRaised_31 (by decide) ?_
      exact ih4 (i9, i8) _ h (lv_sub hl [0, 1, 2] rfl)
    · have h := h.1 c7
      refine lv_iconst (v := (nI 1)) hx hb dX8_neverRaised_19 (by decide) ?_
      refine lv_iload_n hx hb dX8_neverRaised_20 rfl (lv_at hl 0 rfl) ?_
      refine lv_ishl hx hb dX8_neverRaised_21 ?_
      refine lv_goto (tgt := 26) hx hb dX8_neverRaised_22 (by decide) ?_
      refine lv_ior hx hb dX8_neverRaised_26 ?_
      refine lv_topi (fun i10 ei10 => ?_)
      have h := h i10 ei10
      refine lv_istore_n (lv' := [(1, .int i10), (2, .int i1), (0, .ref a0)]) hx hb dX8_neverRaised_27 rfl hl (by decide) rfl (fun ls hl => ?_)
      obtain ⟨i11, ei11⟩ : ∃ y : Int32, y = i1 + (nI 1) := ⟨_, rfl⟩
      have h := h i11 ei11
      refine lv_iinc (v := i11) (lv' := [(2, .int i11), (1, .int i10), (0, .ref a0)]) hx hb dX8_neverRaised_28 hl (k := 1) rfl (by rw [ei11]; rfl) (by decide) rfl (fun ls hl => ?_)
      refine lv_goto (tgt := 4) hx hb dX8_neverRaised_31 (by decide) ?_
      exact ih4 (i11, i10) _ h (lv_sub hl [0, 1, 2] rfl)
theorem hdS_X8_pressedDrafts : yX8_pressedDrafts.cls ≠ "java/lang/invoke/MethodHandle" ∧ yX8_pressedDrafts.cls ≠ "java/lang/invoke/VarHandle" ∧ (parseMethodDescriptor yX8_pressedDrafts.desc).map (fun d => d.parameters.length) = some 0 := by decide +kernel
set_option maxHeartbeats 4000000 in
set_option maxRecDepth 100000 in
theorem c_X8_pressedDrafts (l : Launch) (D : va_G) (Y : Nat → ClassId) (L : List Nat) (S : PS) (sz : Nat) (a0 : Nat) (Post : Int32 → Prop) (h : wp_X8_pressedDrafts S a0 Post) : Met l yX8_pressedDrafts wsX8_pressedDrafts ({ frames := 1, cells := 0, slots := 0, locals := 21 }) (va_Pc [.ref a0] (PrO D Y L S sz)) (vp_Si Post) 0 0 (fun _ => False) := by
  refine Met.ofW (cc := cX8_pressedDrafts) (maxL := 3) (ret := (some .int)) (by decide) rfl ?_
  intro p e s m args below meth c s₁ B hml hv
  obtain ⟨rfl, hsz, hJ, hP, hK, hD0, hZ⟩ := hv
  have hx := B.exec
  have hb := B.bytes
  have hr := B.returns
  have hts := atoms_spec (ws := wsX8_pressedDrafts) B.pre
  have hown : s.vm.findClass RX8 = some m.cls := findClass_of_methodNamed B.named
  have hlocks := B.notSynchronized
  have CF : CallFix p m c cX8_pressedDrafts 3 s ([.ref a0] : List Value).toArray wsX8_pressedDrafts RX8 := ⟨hx, hb, hml, hown, hts⟩
  have C : CX p m c cX8_pressedDrafts 3 s ([.ref a0] : List Value).toArray wsX8_pressedDrafts RX8 D Y := ⟨CF, hK, hZ⟩
  have hO : HO D Y (fR L sz) s.heap S s.heap [] := HO.entry hsz hJ hP hD0
  subst hsz
  have hl := lv_entry ([.ref a0]) (n := 3) (Nat.le_of_ble_eq_true rfl)
  rw [lg_entry_eq]
  generalize (lg_sl ([.ref a0]) ++ List.replicate (3 - (lg_sl ([.ref a0])).length) Slot.unset).toArray = ls at hl ⊢
  have hl : lv_has ls 3 [(0, .ref a0)] := hl
  unfold wp_X8_pressedDrafts at h
  refine lv_iconst (v := (nI 0)) hx hb dX8_pressedDrafts_0 (by decide) ?_
  refine lv_istore_n (lv' := [(1, .int (nI 0)), (0, .ref a0)]) hx hb dX8_pressedDrafts_1 rfl hl (by decide) rfl (fun ls hl => ?_)
  refine lv_iconst (v := (nI 0)) hx hb dX8_pressedDrafts_2 (by decide) ?_
  refine lv_istore_n (lv' := [(2, .int (nI 0)), (1, .int (nI 0)), (0, .ref a0)]) hx hb dX8_pressedDrafts_3 rfl hl (by decide) rfl (fun ls hl => ?_)
  obtain ⟨n12, h⟩ := h
  refine lp_P (nL := 3) (fun q => [(2, .int q.1), (1, .int q.2), (0, .ref a0)]) h (lv_sub hl [0, 1, 2] rfl) (fun K4 ih4 q ls h hl => ?_)
  obtain ⟨i1, i2⟩ := q
  have h : wpb_X8_pressedDrafts_4 S a0 Post K4 i1 i2 := h
  have hl : lv_has ls 3 [(2, .int i1), (1, .int i2), (0, .ref a0)] := hl
  unfold wpb_X8_pressedDrafts_4 at h
  refine lv_iload_n hx hb dX8_pressedDrafts_4 rfl (lv_at hl 0 rfl) ?_
  refine lv_bipush (v := (nI 6)) hx hb dX8_pressedDrafts_5 (by decide) ?_
  refine lv_icmp_ge (tgt := 34) hx hb dX8_pressedDrafts_7 (by decide) (fun c3 => ?_) (fun c3 => ?_)
  · have h := h.1 c3
    refine lv_iload_n hx hb dX8_pressedDrafts_34 rfl (lv_at hl 1 rfl) ?_
    exact W.iret hx hb hr (fun t ht hW => ⟨i2, rfl, h, ht⟩) no_locs dX8_pressedDrafts_35
  · have h := h.2 c3
    refine lv_iload_n hx hb dX8_pressedDrafts_10 rfl (lv_at hl 1 rfl) ?_
    refine lv_aload_n hx hb dX8_pressedDrafts_11 rfl (lv_at hl 2 rfl) ?_
    refine lv_iload_n hx hb dX8_pressedDrafts_12 rfl (lv_at hl 0 rfl) ?_
    obtain ⟨fs6, e5, h⟩ := h
    refine cV_ri (As := [.int i1]) (rest := [.int i2]) (n := 1) C hO (fun L => c_X8_lengthOf l D Y L S s.heap.size a0 i1 _ h) 6 rfl e5 (cwV 1 hts gX8_pressedDrafts_X8_lengthOf rfl rfl rfl ⟨rfl, hdS_X8_lengthOf⟩ ⟨Nat.le_of_ble_eq_true rfl, Nat.le_of_ble_eq_true rfl⟩) rfl hl.1 rfl (Nat.le_of_ble_eq_true rfl) dX8_pressedDrafts_13 ⟨Nat.le_of_ble_eq_true rfl, Nat.le_of_ble_eq_true rfl⟩ (fun i4 h => ?_)
    refine lv_if_le (tgt := 25) hx hb dX8_pressedDrafts_16 (by decide) (fun c7 => ?_) (fun c7 => ?_)
    · have h := h.1 c7
      refine lv_iconst (v := (nI 0)) hx hb dX8_pressedDrafts_25 (by decide) ?_
      refine lv_ior hx hb dX8_pressedDrafts_26 ?_
      refine lv_topi (fun i8 ei8 => ?_)
      have h := h i8 ei8
      refine lv_istore_n (lv' := [(1, .int i8), (2, .int i1), (0, .ref a0)]) hx hb dX8_pressedDrafts_27 rfl hl (by decide) rfl (fun ls hl => ?_)
      obtain ⟨i9, ei9⟩ : ∃ y : Int32, y = i1 + (nI 1) := ⟨_, rfl⟩
      have h := h i9 ei9
      refine lv_iinc (v := i9) (lv' := [(2, .int i9), (1, .int i8), (0, .ref a0)]) hx hb dX8_pressedDrafts_28 hl (k := 1) rfl (by rw [ei9]; rfl) (by decide) rfl (fun ls hl => ?_)
      refine lv_goto (tgt := 4) hx hb dX8_pressedDrafts_31 (by decide) ?_
      exact ih4 (i9, i8) _ h (lv_sub hl [0, 1, 2] rfl)
    · have h := h.2 c7
      refine lv_iconst (v := (nI 1)) hx hb dX8_pressedDrafts_19 (by decide) ?_
      refine lv_iload_n hx hb dX8_pressedDrafts_20 rfl (lv_at hl 0 rfl) ?_
      refine lv_ishl hx hb dX8_pressedDrafts_21 ?_
      refine lv_goto (tgt := 26) hx hb dX8_pressedDrafts_22 (by decide) ?_
      refine lv_ior hx hb dX8_pressedDrafts_26 ?_
      refine lv_topi (fun i10 ei10 => ?_)
      have h := h i10 ei10
      refine lv_istore_n (lv' := [(1, .int i10), (2, .int i1), (0, .ref a0)]) hx hb dX8_pressedDrafts_27 rfl hl (by decide) rfl (fun ls hl => ?_)
      obtain ⟨i11, ei11⟩ : ∃ y : Int32, y = i1 + (nI 1) := ⟨_, rfl⟩
      have h := h i11 ei11
      refine lv_iinc (v := i11) (lv' := [(2, .int i11), (1, .int i10), (0, .ref a0)]) hx hb dX8_pressedDrafts_28 hl (k := 1) rfl (by rw [ei11]; rfl) (by decide) rfl (fun ls hl => ?_)
      refine lv_goto (tgt := 4) hx hb dX8_pressedDrafts_31 (by decide) ?_
      exact ih4 (i11, i10) _ h (lv_sub hl [0, 1, 2] rfl)
theorem hdS_X8_count : yX8_count.cls ≠ "java/lang/invoke/MethodHandle" ∧ yX8_count.cls ≠ "java/lang/invoke/VarHandle" ∧ (parseMethodDescriptor yX8_count.desc).map (fun d => d.parameters.length) = some 1 := by decide +kernel
set_option maxHeartbeats 4000000 in
set_option maxRecDepth 100000 in
theorem c_X8_count (l : Launch) (D : va_G) (Y : Nat → ClassId) (L : List Nat) (S : PS) (sz : Nat) (a0 : Nat) (v1 : Int32) (Post : Int32 → Prop) (h : wp_X8_count S a0 v1 Post) : Met l yX8_count wsX8_count ({ frames := 3, cells := 0, slots := 0, locals := 68 }) (va_Pc [.ref a0, .int v1] (PrO D Y L S sz)) (vp_Si Post) 0 0 (fun _ => False) := by
  refine Met.ofW (cc := cX8_count) (maxL := 2) (ret := (some .int)) (by decide) rfl ?_
  intro p e s m args below meth c s₁ B hml hv
  obtain ⟨rfl, hsz, hJ, hP, hK, hD0, hZ⟩ := hv
  have hx := B.exec
  have hb := B.bytes
  have hr := B.returns
  have hts := atoms_spec (ws := wsX8_count) B.pre
  have hown : s.vm.findClass RX8 = some m.cls := findClass_of_methodNamed B.named
  have hlocks := B.notSynchronized
  have CF : CallFix p m c cX8_count 2 s ([.ref a0, .int v1] : List Value).toArray wsX8_count RX8 := ⟨hx, hb, hml, hown, hts⟩
  have C : CX p m c cX8_count 2 s ([.ref a0, .int v1] : List Value).toArray wsX8_count RX8 D Y := ⟨CF, hK, hZ⟩
  have hO : HO D Y (fR L sz) s.heap S s.heap [] := HO.entry hsz hJ hP hD0
  subst hsz
  have inX8 : ∀ w ∈ wsX80, w ∈ wsX8_count := fun w h => List.mem_cons_of_mem _ (List.mem_append_right _ h)
  have hl := lv_entry ([.ref a0, .int v1]) (n := 2) (Nat.le_of_ble_eq_true rfl)
  rw [lg_entry_eq]
  generalize (lg_sl ([.ref a0, .int v1]) ++ List.replicate (2 - (lg_sl ([.ref a0, .int v1])).length) Slot.unset).toArray = ls at hl ⊢
  have hl : lv_has ls 2 [(0, .ref a0), (1, .int v1)] := hl
  unfold wp_X8_count at h
  refine lv_iload_n hx hb dX8_count_0 rfl (lv_at hl 1 rfl) ?_
  rcases sw_6 v1 with c1 | c1 | c1 | c1 | c1 | c1 | c1 | c1
  · have h := h.1 c1
    refine lv_tableOut (tgt := 87) hx hb dX8_count_1 c1 (by decide) ?_
    refine lv_bipush (v := (-2 : Int32)) hx hb dX8_count_87 (by decide) ?_
    exact W.iret hx hb hr (fun t ht hW => ⟨(-2 : Int32), rfl, h, ht⟩) no_locs dX8_count_89
  · have h := h.2.1 c1
    refine lv_tableIn (tgt := 44) (off := 43) hx hb dX8_count_1 (by rw [c1]; decide) (by rw [c1]; decide) (by rw [c1]; rfl) (by decide) ?_
    refine lv_aload_n hx hb dX8_count_44 rfl (lv_at hl 0 rfl) ?_
    obtain ⟨fs4, e3, h⟩ := h
    refine cV_ri (As := []) (rest := []) (n := 0) C hO (fun L => c_X8_atHome l D Y L S s.heap.size a0 _ h) 6 rfl e3 (cwV 0 hts gX8_count_X8_atHome rfl rfl rfl ⟨rfl, hdS_X8_atHome⟩ ⟨Nat.le_of_ble_eq_true rfl, Nat.le_of_ble_eq_true rfl⟩) rfl hl.1 rfl (Nat.le_of_ble_eq_true rfl) dX8_count_45 ⟨Nat.le_of_ble_eq_true rfl, Nat.le_of_ble_eq_true rfl⟩ (fun i2 h => ?_)
    exact W.iret hx hb hr (fun t ht hW => ⟨i2, rfl, h, ht⟩) no_locs dX8_count_48
  · have h := h.2.2.1 c1
    refine lv_tableIn (tgt := 49) (off := 48) hx hb dX8_count_1 (by rw [c1]; decide) (by rw [c1]; decide) (by rw [c1]; rfl) (by decide) ?_
    refine lv_aload_n hx hb dX8_count_49 rfl (lv_at hl 0 rfl) ?_
    obtain ⟨fs5, a6, e7, e7', h⟩ := h
    refine r_get C hO 6 0 rfl inX8 (Nat.le_of_ble_eq_true rfl) e7 e7' (List.mem_of_getElem? (i := 1) (by decide +kernel)) dX8_count_50 ?_
    refine lv_sipush (v := (nI 192)) hx hb dX8_count_53 (by decide) ?_
    obtain ⟨n8, f9, i11, e10, e10', exi11, h⟩ := h
    refine r_iald C hO e10 e10' dX8_count_56 ?_
    rw [exi11]
    exact W.iret hx hb hr (fun t ht hW => ⟨i11, rfl, h, ht⟩) no_locs dX8_count_57
  · have h := h.2.2.2.1 c1
    refine lv_tableIn (tgt := 58) (off := 57) hx hb dX8_count_1 (by rw [c1]; decide) (by rw [c1]; decide) (by rw [c1]; rfl) (by decide) ?_
    refine lv_aload_n hx hb dX8_count_58 rfl (lv_at hl 0 rfl) ?_
    obtain ⟨fs12, a13, e14, e14', h⟩ := h
    refine r_get C hO 6 0 rfl inX8 (Nat.le_of_ble_eq_true rfl) e14 e14' (List.mem_of_getElem? (i := 1) (by decide +kernel)) dX8_count_59 ?_
    refine lv_sipush (v := (nI 193)) hx hb dX8_count_62 (by decide) ?_
    obtain ⟨n15, f16, i18, e17, e17', exi18, h⟩ := h
    refine r_iald C hO e17 e17' dX8_count_65 ?_
    rw [exi18]
    exact W.iret hx hb hr (fun t ht hW => ⟨i18, rfl, h, ht⟩) no_locs dX8_count_66
  · have h := h.2.2.2.2.1 c1
    refine lv_tableIn (tgt := 67) (off := 66) hx hb dX8_count_1 (by rw [c1]; decide) (by rw [c1]; decide) (by rw [c1]; rfl) (by decide) ?_
    refine lv_aload_n hx hb dX8_count_67 rfl (lv_at hl 0 rfl) ?_
    obtain ⟨fs21, e20, h⟩ := h
    refine cV_ri (As := []) (rest := []) (n := 0) C hO (fun L => c_X8_neverRaised l D Y L S s.heap.size a0 _ h) 6 rfl e20 (cwV 0 hts gX8_count_X8_neverRaised rfl rfl rfl ⟨rfl, hdS_X8_neverRaised⟩ ⟨Nat.le_of_ble_eq_true rfl, Nat.le_of_ble_eq_true rfl⟩) rfl hl.1 rfl (Nat.le_of_ble_eq_true rfl) dX8_count_68 ⟨Nat.le_of_ble_eq_true rfl, Nat.le_of_ble_eq_true rfl⟩ (fun i19 h => ?_)
    exact W.iret hx hb hr (fun t ht hW => ⟨i19, rfl, h, ht⟩) no_locs dX8_count_71
  · have h := h.2.2.2.2.2.1 c1
    refine lv_tableIn (tgt := 72) (off := 71) hx hb dX8_count_1 (by rw [c1]; decide) (by rw [c1]; decide) (by rw [c1]; rfl) (by decide) ?_
    refine lv_aload_n hx hb dX8_count_72 rfl (lv_at hl 0 rfl) ?_
    obtain ⟨fs24, e23, h⟩ := h
    refine cV_ri (As := []) (rest := []) (n := 0) C hO (fun L => c_X8_pressedDrafts l D Y L S s.heap.size a0 _ h) 6 rfl e23 (cwV 0 hts gX8_count_X8_pressedDrafts rfl rfl rfl ⟨rfl, hdS_X8_pressedDrafts⟩ ⟨Nat.le_of_ble_eq_true rfl, Nat.le_of_ble_eq_true rfl⟩) rfl hl.1 rfl (Nat.le_of_ble_eq_true rfl) dX8_count_73 ⟨Nat.le_of_ble_eq_true rfl, Nat.le_of_ble_eq_true rfl⟩ (fun i22 h => ?_)
    exact W.iret hx hb hr (fun t ht hW => ⟨i22, rfl, h, ht⟩) no_locs dX8_count_76
  · have h := h.2.2.2.2.2.2.1 c1
    refine lv_tableIn (tgt := 77) (off := 76) hx hb dX8_count_1 (by rw [c1]; decide) (by rw [c1]; decide) (by rw [c1]; rfl) (by decide) ?_
    refine lv_aload_n hx hb dX8_count_77 rfl (lv_at hl 0 rfl) ?_
    obtain ⟨fs25, i26, e27, e27', h⟩ := h
    refine r_get C hO 6 6 rfl inX8 (Nat.le_of_ble_eq_true rfl) e27 e27' (List.mem_of_getElem? (i := 2) (by decide +kernel)) dX8_count_78 ?_
    exact W.iret hx hb hr (fun t ht hW => ⟨i26, rfl, h, ht⟩) no_locs dX8_count_81
  · have h := h.2.2.2.2.2.2.2 c1
    refine lv_tableIn (tgt := 82) (off := 81) hx hb dX8_count_1 (by rw [c1]; decide) (by rw [c1]; decide) (by rw [c1]; rfl) (by decide) ?_
    refine lv_aload_n hx hb dX8_count_82 rfl (lv_at hl 0 rfl) ?_
    obtain ⟨fs28, i29, e30, e30', h⟩ := h
    refine r_get C hO 6 2 rfl inX8 (Nat.le_of_ble_eq_true rfl) e30 e30' (List.mem_of_getElem? (i := 3) (by decide +kernel)) dX8_count_83 ?_
    exact W.iret hx hb hr (fun t ht hW => ⟨i29, rfl, h, ht⟩) no_locs dX8_count_86
theorem hdS_X8_kernel : yX8_kernel.cls ≠ "java/lang/invoke/MethodHandle" ∧ yX8_kernel.cls ≠ "java/lang/invoke/VarHandle" ∧ (parseMethodDescriptor yX8_kernel.desc).map (fun d => d.parameters.length) = some 1 := by decide +kernel
set_option maxHeartbeats 4000000 in
set_option maxRecDepth 100000 in
theorem c_X8_kernel (l : Launch) (D : va_G) (Y : Nat → ClassId) (L : List Nat) (S : PS) (sz : Nat) (a0 : Nat) (v1 : Int32) (Post : Int32 → PS → Prop) (h : wp_X8_kernel S a0 v1 Post) : Met l yX8_kernel wsX8_kernel ({ frames := 4, cells := 0, slots := 0, locals := 93 }) (va_Pc [.ref a0, .int v1] (PrO D Y L S sz)) (va_Qi Post (QtO D Y (fR L sz)) (fR L sz)) 0 0 (fR L sz) := by
  refine Met.ofW (cc := cX8_kernel) (maxL := 4) (ret := (some .int)) (by decide) rfl ?_
  intro p e s m args below meth c s₁ B hml hv
  obtain ⟨rfl, hsz, hJ, hP, hK, hD0, hZ⟩ := hv
  have hx := B.exec
  have hb := B.bytes
  have hr := B.returns
  have hts := atoms_spec (ws := wsX8_kernel) B.pre
  have hown : s.vm.findClass RX8 = some m.cls := findClass_of_methodNamed B.named
  have hlocks := B.notSynchronized
  have CF : CallFix p m c cX8_kernel 4 s ([.ref a0, .int v1] : List Value).toArray wsX8_kernel RX8 := ⟨hx, hb, hml, hown, hts⟩
  have C : CX p m c cX8_kernel 4 s ([.ref a0, .int v1] : List Value).toArray wsX8_kernel RX8 D Y := ⟨CF, hK, hZ⟩
  have hO : HO D Y (fR L sz) s.heap S s.heap [] := HO.entry hsz hJ hP hD0
  subst hsz
  have hl := lv_entry ([.ref a0, .int v1]) (n := 4) (Nat.le_of_ble_eq_true rfl)
  rw [lg_entry_eq]
  generalize (lg_sl ([.ref a0, .int v1]) ++ List.replicate (4 - (lg_sl ([.ref a0, .int v1])).length) Slot.unset).toArray = ls at hl ⊢
  have hl : lv_has ls 4 [(0, .ref a0), (1, .int v1)] := hl
  unfold wp_X8_kernel at h
  refine lv_iload_n hx hb dX8_kernel_0 rfl (lv_at hl 1 rfl) ?_
  refine cS_si (As := [.int v1]) (rest := []) (n := 1) CF hZ (c_X8_areDrafts l v1 _ h) (va_cwS 1 hts gX8_kernel_X8_areDrafts rfl rfl rfl hdS_X8_areDrafts ⟨Nat.le_of_ble_eq_true rfl, Nat.le_of_ble_eq_true rfl⟩) rfl hl.1 rfl (Nat.le_of_ble_eq_true rfl) dX8_kernel_1 ⟨Nat.le_of_ble_eq_true rfl, Nat.le_of_ble_eq_true rfl⟩ (fun i1 h => ?_)
  refine lv_if_ne (tgt := 10) hx hb dX8_kernel_4 (by decide) (fun c2 => ?_) (fun c2 => ?_)
  · have h := h.2 c2
    refine lv_aload_n hx hb dX8_kernel_10 rfl (lv_at hl 0 rfl) ?_
    obtain ⟨fs5, e4, h⟩ := h
    refine cV_wv (As := []) (rest := []) (n := 0) C hO (fun L => c_X8_layAll l D Y L S s.heap.size a0 _ h) 6 rfl e4 (cwV 0 hts gX8_kernel_X8_layAll rfl rfl rfl ⟨rfl, hdS_X8_layAll⟩ ⟨Nat.le_of_ble_eq_true rfl, Nat.le_of_ble_eq_true rfl⟩) rfl hl.1 rfl (Nat.le_of_ble_eq_true rfl) dX8_kernel_11 ⟨Nat.le_of_ble_eq_true rfl, Nat.le_of_ble_eq_true rfl⟩ (fun S3 H locs h hO => ?_)
    refine lv_sipush (v := (nI 4095)) hx hb dX8_kernel_14 (by decide) ?_
    refine lv_istore_n (lv' := [(2, .int (nI 4095)), (0, .ref a0), (1, .int v1)]) hx hb dX8_kernel_17 rfl hl (by decide) rfl (fun ls hl => ?_)
    refine lv_iconst (v := (nI 0)) hx hb dX8_kernel_18 (by decide) ?_
    refine lv_istore_n (lv' := [(3, .int (nI 0)), (2, .int (nI 4095)), (0, .ref a0), (1, .int v1)]) hx hb dX8_kernel_19 rfl hl (by decide) rfl (fun ls hl => ?_)
    obtain ⟨n17, h⟩ := h
    refine lp_P (nL := 4) (fun q => [(3, .int q.1), (2, .int q.2), (0, .ref a0), (1, .int v1)]) h (lv_sub hl [0, 1, 2, 3] rfl) (fun K20 ih20 q ls h hl => ?_)
    obtain ⟨i6, i7⟩ := q
    have h : wpb_X8_kernel_20 a0 v1 S3 Post K20 i6 i7 := h
    have hl : lv_has ls 4 [(3, .int i6), (2, .int i7), (0, .ref a0), (1, .int v1)] := hl
    unfold wpb_X8_kernel_20 at h
    refine lv_iload_n hx hb dX8_kernel_20 rfl (lv_at hl 0 rfl) ?_
    refine lv_bipush (v := (nI 6)) hx hb dX8_kernel_21 (by decide) ?_
    refine lv_icmp_ge (tgt := 53) hx hb dX8_kernel_23 (by decide) (fun c8 => ?_) (fun c8 => ?_)
    · have h := h.1 c8
      refine lv_iload_n hx hb dX8_kernel_53 rfl (lv_at hl 1 rfl) ?_
      exact W.iret hx hb hr (fun t ht hW => ⟨⟨i7, S3, rfl, h, hO.q ht⟩, hO.f ht⟩) hO.lc dX8_kernel_54
    · have h := h.2 c8
      refine lv_iload_n hx hb dX8_kernel_26 rfl (lv_at hl 1 rfl) ?_
      refine lv_iload_n hx hb dX8_kernel_27 rfl (lv_at hl 3 rfl) ?_
      refine lv_iload_n hx hb dX8_kernel_28 rfl (lv_at hl 0 rfl) ?_
      refine lv_ishr hx hb dX8_kernel_29 ?_
      refine lv_iconst (v := (nI 1)) hx hb dX8_kernel_30 (by decide) ?_
      refine lv_iand hx hb dX8_kernel_31 ?_
      refine lv_iconst (v := (nI 1)) hx hb dX8_kernel_32 (by decide) ?_
      refine lv_icmp_ne (tgt := 44) hx hb dX8_kernel_33 (by decide) (fun c9 => ?_) (fun c9 => ?_)
      · have h := h.2 c9
        refine lv_iload_n hx hb dX8_kernel_44 rfl (lv_at hl 1 rfl) ?_
        refine lv_iand hx hb dX8_kernel_45 ?_
        refine lv_topi (fun i10 ei10 => ?_)
        have h := h i10 ei10
        refine lv_istore_n (lv' := [(2, .int i10), (3, .int i6), (0, .ref a0), (1, .int v1)]) hx hb dX8_kernel_46 rfl hl (by decide) rfl (fun ls hl => ?_)
        obtain ⟨i11, ei11⟩ : ∃ y : Int32, y = i6 + (nI 1) := ⟨_, rfl⟩
        have h := h i11 ei11
        refine lv_iinc (v := i11) (lv' := [(3, .int i11), (2, .int i10), (0, .ref a0), (1, .int v1)]) hx hb dX8_kernel_47 hl (k := 1) rfl (by rw [ei11]; rfl) (by decide) rfl (fun ls hl => ?_)
        refine lv_goto (tgt := 20) hx hb dX8_kernel_50 (by decide) ?_
        exact ih20 (i11, i10) _ h (lv_sub hl [0, 1, 2, 3] rfl)
      · have h := h.1 c9
        refine lv_aload_n hx hb dX8_kernel_36 rfl (lv_at hl 2 rfl) ?_
        refine lv_iload_n hx hb dX8_kernel_37 rfl (lv_at hl 0 rfl) ?_
        obtain ⟨fs14, e13, h⟩ := h
        refine cV_ri (As := [.int i6]) (rest := [.int i7]) (n := 1) C hO (fun L => c_X8_stays l D Y L S3 H.size a0 i6 _ h) 6 rfl e13 (cwV 1 hts gX8_kernel_X8_stays rfl rfl rfl ⟨rfl, hdS_X8_stays⟩ ⟨Nat.le_of_ble_eq_true rfl, Nat.le_of_ble_eq_true rfl⟩) rfl hl.1 rfl (Nat.le_of_ble_eq_true rfl) dX8_kernel_38 ⟨Nat.le_of_ble_eq_true rfl, Nat.le_of_ble_eq_true rfl⟩ (fun i12 h => ?_)
        refine lv_goto (tgt := 45) hx hb dX8_kernel_41 (by decide) ?_
        refine lv_iand hx hb dX8_kernel_45 ?_
        refine lv_topi (fun i15 ei15 => ?_)
        have h := h i15 ei15
        refine lv_istore_n (lv' := [(2, .int i15), (3, .int i6), (0, .ref a0), (1, .int v1)]) hx hb dX8_kernel_46 rfl hl (by decide) rfl (fun ls hl => ?_)
        obtain ⟨i16, ei16⟩ : ∃ y : Int32, y = i6 + (nI 1) := ⟨_, rfl⟩
        have h := h i16 ei16
        refine lv_iinc (v := i16) (lv' := [(3, .int i16), (2, .int i15), (0, .ref a0), (1, .int v1)]) hx hb dX8_kernel_47 hl (k := 1) rfl (by rw [ei16]; rfl) (by decide) rfl (fun ls hl => ?_)
        refine lv_goto (tgt := 20) hx hb dX8_kernel_50 (by decide) ?_
        exact ih20 (i16, i15) _ h (lv_sub hl [0, 1, 2, 3] rfl)
  · have h := h.1 c2
    refine lv_bipush (v := (-2 : Int32)) hx hb dX8_kernel_7 (by decide) ?_
    exact W.iret hx hb hr (fun t ht hW => ⟨⟨(-2 : Int32), S, rfl, h, hO.q ht⟩, hO.f ht⟩) hO.lc dX8_kernel_9
theorem hdS_X8_orbit : yX8_orbit.cls ≠ "java/lang/invoke/MethodHandle" ∧ yX8_orbit.cls ≠ "java/lang/invoke/VarHandle" ∧ (parseMethodDescriptor yX8_orbit.desc).map (fun d => d.parameters.length) = some 2 := by decide +kernel
set_option maxHeartbeats 4000000 in
set_option maxRecDepth 100000 in
theorem c_X8_orbit (l : Launch) (D : va_G) (Y : Nat → ClassId) (L : List Nat) (S : PS) (sz : Nat) (a0 : Nat) (v1 : Int32) (v2 : Int32) (Post : Int32 → PS → Prop) (h : wp_X8_orbit S a0 v1 v2 Post) : Met l yX8_orbit wsX8_orbit ({ frames := 4, cells := 0, slots := 0, locals := 93 }) (va_Pc [.ref a0, .int v1, .int v2] (PrO D Y L S sz)) (va_Qi Post (QtO D Y (fR L sz)) (fR L sz)) 0 0 (fR L sz) := by
  refine Met.ofW (cc := cX8_orbit) (maxL := 7) (ret := (some .int)) (by decide) rfl ?_
  intro p e s m args below meth c s₁ B hml hv
  obtain ⟨rfl, hsz, hJ, hP, hK, hD0, hZ⟩ := hv
  have hx := B.exec
  have hb := B.bytes
  have hr := B.returns
  have hts := atoms_spec (ws := wsX8_orbit) B.pre
  have hown : s.vm.findClass RX8 = some m.cls := findClass_of_methodNamed B.named
  have hlocks := B.notSynchronized
  have CF : CallFix p m c cX8_orbit 7 s ([.ref a0, .int v1, .int v2] : List Value).toArray wsX8_orbit RX8 := ⟨hx, hb, hml, hown, hts⟩
  have C : CX p m c cX8_orbit 7 s ([.ref a0, .int v1, .int v2] : List Value).toArray wsX8_orbit RX8 D Y := ⟨CF, hK, hZ⟩
  have hO : HO D Y (fR L sz) s.heap S s.heap [] := HO.entry hsz hJ hP hD0
  subst hsz
  have inX8 : ∀ w ∈ wsX80, w ∈ wsX8_orbit := fun w h => List.mem_cons_of_mem _ (List.mem_append_right _ h)
  have hl := lv_entry ([.ref a0, .int v1, .int v2]) (n := 7) (Nat.le_of_ble_eq_true rfl)
  rw [lg_entry_eq]
  generalize (lg_sl ([.ref a0, .int v1, .int v2]) ++ List.replicate (7 - (lg_sl ([.ref a0, .int v1, .int v2])).length) Slot.unset).toArray = ls at hl ⊢
  have hl : lv_has ls 7 [(0, .ref a0), (1, .int v1), (2, .int v2)] := hl
  unfold wp_X8_orbit at h
  refine lv_iload_n hx hb dX8_orbit_0 rfl (lv_at hl 2 rfl) ?_
  refine cS_si (As := [.int v2]) (rest := []) (n := 1) CF hZ (c_X8_isPlace l v2 _ h) (va_cwS 1 hts gX8_orbit_X8_isPlace rfl rfl rfl hdS_X8_isPlace ⟨Nat.le_of_ble_eq_true rfl, Nat.le_of_ble_eq_true rfl⟩) rfl hl.1 rfl (Nat.le_of_ble_eq_true rfl) dX8_orbit_1 ⟨Nat.le_of_ble_eq_true rfl, Nat.le_of_ble_eq_true rfl⟩ (fun i1 h => ?_)
  refine lv_if_ne (tgt := 9) hx hb dX8_orbit_4 (by decide) (fun c2 => ?_) (fun c2 => ?_)
  · have h := h.2 c2
    refine lv_iload_n hx hb dX8_orbit_9 rfl (lv_at hl 1 rfl) ?_
    refine cS_si (As := [.int v1]) (rest := []) (n := 1) CF hZ (c_X8_areDrafts l v1 _ h) (va_cwS 1 hts gX8_orbit_X8_areDrafts rfl rfl rfl hdS_X8_areDrafts ⟨Nat.le_of_ble_eq_true rfl, Nat.le_of_ble_eq_true rfl⟩) rfl hl.1 rfl (Nat.le_of_ble_eq_true rfl) dX8_orbit_10 ⟨Nat.le_of_ble_eq_true rfl, Nat.le_of_ble_eq_true rfl⟩ (fun i3 h => ?_)
    refine lv_if_ne (tgt := 19) hx hb dX8_orbit_13 (by decide) (fun c4 => ?_) (fun c4 => ?_)
    · have h := h.2 c4
      refine lv_aload_n hx hb dX8_orbit_19 rfl (lv_at hl 0 rfl) ?_
      obtain ⟨fs7, e6, h⟩ := h
      refine cV_wv (As := []) (rest := []) (n := 0) C hO (fun L => c_X8_layAll l D Y L S s.heap.size a0 _ h) 6 rfl e6 (cwV 0 hts gX8_orbit_X8_layAll rfl rfl rfl ⟨rfl, hdS_X8_layAll⟩ ⟨Nat.le_of_ble_eq_true rfl, Nat.le_of_ble_eq_true rfl⟩) rfl hl.1 rfl (Nat.le_of_ble_eq_true rfl) dX8_orbit_20 ⟨Nat.le_of_ble_eq_true rfl, Nat.le_of_ble_eq_true rfl⟩ (fun S5 H locs h hO => ?_)
      refine lv_iconst (v := (nI 1)) hx hb dX8_orbit_23 (by decide) ?_
      refine lv_iload_n hx hb dX8_orbit_24 rfl (lv_at hl 2 rfl) ?_
      refine lv_ishl hx hb dX8_orbit_25 ?_
      refine lv_topi (fun i8 ei8 => ?_)
      have h := h i8 ei8
      refine lv_istore_n (lv' := [(3, .int i8), (0, .ref a0), (1, .int v1), (2, .int v2)]) hx hb dX8_orbit_26 rfl hl (by decide) rfl (fun ls hl => ?_)
      refine lv_iconst (v := (nI 0)) hx hb dX8_orbit_27 (by decide) ?_
      refine lv_istore (lv' := [(4, .int (nI 0)), (3, .int i8), (0, .ref a0), (1, .int v1), (2, .int v2)]) hx hb dX8_orbit_28 hl (by decide) rfl (fun ls hl => ?_)
      obtain ⟨n32, h⟩ := h
      refine lp_P (nL := 7) (fun q => [(4, .int q.1), (3, .int q.2), (0, .ref a0), (1, .int v1)]) h (lv_sub hl [0, 1, 2, 3] rfl) (fun K30 ih30 q ls h hl => ?_)
      obtain ⟨i9, i10⟩ := q
      have h : wpb_X8_orbit_30 a0 v1 S5 Post K30 i9 i10 := h
      have hl : lv_has ls 7 [(4, .int i9), (3, .int i10), (0, .ref a0), (1, .int v1)] := hl
      unfold wpb_X8_orbit_30 at h
      refine lv_iload hx hb dX8_orbit_30 (lv_at hl 0 rfl) ?_
      refine lv_bipush (v := (nI 12)) hx hb dX8_orbit_32 (by decide) ?_
      refine lv_icmp_ge (tgt := 113) hx hb dX8_orbit_34 (by decide) (fun c11 => ?_) (fun c11 => ?_)
      · have h := h.1 c11
        refine lv_iload_n hx hb dX8_orbit_113 rfl (lv_at hl 1 rfl) ?_
        exact W.iret hx hb hr (fun t ht hW => ⟨⟨i10, S5, rfl, h, hO.q ht⟩, hO.f ht⟩) hO.lc dX8_orbit_114
      · have h := h.2 c11
        refine lv_iconst (v := (nI 0)) hx hb dX8_orbit_37 (by decide) ?_
        refine lv_istore (lv' := [(5, .int (nI 0)), (4, .int i9), (3, .int i10), (0, .ref a0), (1, .int v1)]) hx hb dX8_orbit_38 hl (by decide) rfl (fun ls hl => ?_)
        obtain ⟨n31, h⟩ := h
        refine lp_P (nL := 7) (fun q => [(5, .int q.1), (4, .int i9), (3, .int q.2), (0, .ref a0), (1, .int v1)]) h (lv_sub hl [0, 1, 2, 3, 4] rfl) (fun K40 ih40 q ls h hl => ?_)
        obtain ⟨i12, i13⟩ := q
        have h : wpb_X8_orbit_40 a0 v1 S5 i9 K30 K40 i12 i13 := h
        have hl : lv_has ls 7 [(5, .int i12), (4, .int i9), (3, .int i13), (0, .ref a0), (1, .int v1)] := hl
        unfold wpb_X8_orbit_40 at h
        refine lv_iload hx hb dX8_orbit_40 (lv_at hl 0 rfl) ?_
        refine lv_bipush (v := (nI 72)) hx hb dX8_orbit_42 (by decide) ?_
        refine lv_icmp_ge (tgt := 107) hx hb dX8_orbit_44 (by decide) (fun c14 => ?_) (fun c14 => ?_)
        · have h := h.1 c14
          obtain ⟨i15, ei15⟩ : ∃ y : Int32, y = i9 + (nI 1) := ⟨_, rfl⟩
          have h := h i15 ei15
          refine lv_iinc (v := i15) (lv' := [(4, .int i15), (5, .int i12), (3, .int i13), (0, .ref a0), (1, .int v1)]) hx hb dX8_orbit_107 hl (k := 1) rfl (by rw [ei15]; rfl) (by decide) rfl (fun ls hl => ?_)
          refine lv_goto (tgt := 30) hx hb dX8_orbit_110 (by decide) ?_
          exact ih30 (i15, i13) _ h (lv_sub hl [0, 2, 3, 4] rfl)
        · have h := h.2 c14
          refine lv_iload_n hx hb dX8_orbit_47 rfl (lv_at hl 2 rfl) ?_
          refine lv_iload hx hb dX8_orbit_48 (lv_at hl 0 rfl) ?_
          refine lv_bipush (v := (nI 12)) hx hb dX8_orbit_50 (by decide) ?_
          refine lv_irem hx hb dX8_orbit_52 (by decide) ?_
          refine lv_ishr hx hb dX8_orbit_53 ?_
          refine lv_iconst (v := (nI 1)) hx hb dX8_orbit_54 (by decide) ?_
          refine lv_iand hx hb dX8_orbit_55 ?_
          refine lv_iconst (v := (nI 1)) hx hb dX8_orbit_56 (by decide) ?_
          refine lv_icmp_ne (tgt := 77) hx hb dX8_orbit_57 (by decide) (fun c16 => ?_) (fun c16 => ?_)
          · have h := h.2 c16
            refine lv_iconst (v := (nI 0)) hx hb dX8_orbit_77 (by decide) ?_
            refine lv_istore (lv' := [(6, .int (nI 0)), (5, .int i12), (4, .int i9), (3, .int i13), (0, .ref a0), (1, .int v1)]) hx hb dX8_orbit_78 hl (by decide) rfl (fun ls hl => ?_)
            refine lv_iload_n hx hb dX8_orbit_80 rfl (lv_at hl 3 rfl) ?_
            refine lv_iload hx hb dX8_orbit_81 (lv_at hl 0 rfl) ?_
            refine lv_if_eq (tgt := 98) hx hb dX8_orbit_83 (by decide) (fun _ => ?_) (fun c9 => absurd c9 (by decide))
            refine lv_iconst (v := (nI 0)) hx hb dX8_orbit_98 (by decide) ?_
            refine lv_ior hx hb dX8_orbit_99 ?_
            refine lv_topi (fun i17 ei17 => ?_)
            have h := h i17 ei17
            refine lv_istore_n (lv' := [(3, .int i17), (6, .int (nI 0)), (5, .int i12), (4, .int i9), (0, .ref a0), (1, .int v1)]) hx hb dX8_orbit_100 rfl hl (by decide) rfl (fun ls hl => ?_)
            obtain ⟨i18, ei18⟩ : ∃ y : Int32, y = i12 + (nI 1) := ⟨_, rfl⟩
            have h := h i18 ei18
            refine lv_iinc (v := i18) (lv' := [(5, .int i18), (3, .int i17), (6, .int (nI 0)), (4, .int i9), (0, .ref a0), (1, .int v1)]) hx hb dX8_orbit_101 hl (k := 2) rfl (by rw [ei18]; rfl) (by decide) rfl (fun ls hl => ?_)
            refine lv_goto (tgt := 40) hx hb dX8_orbit_104 (by decide) ?_
            exact ih40 (i18, i17) _ h (lv_sub hl [0, 3, 1, 4, 5] rfl)
          · have h := h.1 c16
            refine lv_iload_n hx hb dX8_orbit_60 rfl (lv_at hl 4 rfl) ?_
            refine lv_iload hx hb dX8_orbit_61 (lv_at hl 0 rfl) ?_
            refine lv_bipush (v := (nI 12)) hx hb dX8_orbit_63 (by decide) ?_
            refine lv_idiv hx hb dX8_orbit_65 (by decide) ?_
            refine lv_ishr hx hb dX8_orbit_66 ?_
            refine lv_iconst (v := (nI 1)) hx hb dX8_orbit_67 (by decide) ?_
            refine lv_iand hx hb dX8_orbit_68 ?_
            refine lv_iconst (v := (nI 1)) hx hb dX8_orbit_69 (by decide) ?_
            refine lv_icmp_ne (tgt := 77) hx hb dX8_orbit_70 (by decide) (fun c19 => ?_) (fun c19 => ?_)
            · have h := h.2 c19
              refine lv_iconst (v := (nI 0)) hx hb dX8_orbit_77 (by decide) ?_
              refine lv_istore (lv' := [(6, .int (nI 0)), (5, .int i12), (4, .int i9), (3, .int i13), (0, .ref a0), (1, .int v1)]) hx hb dX8_orbit_78 hl (by decide) rfl (fun ls hl => ?_)
              refine lv_iload_n hx hb dX8_orbit_80 rfl (lv_at hl 3 rfl) ?_
              refine lv_iload hx hb dX8_orbit_81 (lv_at hl 0 rfl) ?_
              refine lv_if_eq (tgt := 98) hx hb dX8_orbit_83 (by decide) (fun _ => ?_) (fun c9 => absurd c9 (by decide))
              refine lv_iconst (v := (nI 0)) hx hb dX8_orbit_98 (by decide) ?_
              refine lv_ior hx hb dX8_orbit_99 ?_
              refine lv_topi (fun i20 ei20 => ?_)
              have h := h i20 ei20
              refine lv_istore_n (lv' := [(3, .int i20), (6, .int (nI 0)), (5, .int i12), (4, .int i9), (0, .ref a0), (1, .int v1)]) hx hb dX8_orbit_100 rfl hl (by decide) rfl (fun ls hl => ?_)
              obtain ⟨i21, ei21⟩ : ∃ y : Int32, y = i12 + (nI 1) := ⟨_, rfl⟩
              have h := h i21 ei21
              refine lv_iinc (v := i21) (lv' := [(5, .int i21), (3, .int i20), (6, .int (nI 0)), (4, .int i9), (0, .ref a0), (1, .int v1)]) hx hb dX8_orbit_101 hl (k := 2) rfl (by rw [ei21]; rfl) (by decide) rfl (fun ls hl => ?_)
              refine lv_goto (tgt := 40) hx hb dX8_orbit_104 (by decide) ?_
              exact ih40 (i21, i20) _ h (lv_sub hl [0, 3, 1, 4, 5] rfl)
            · have h := h.1 c19
              refine lv_iconst (v := (nI 1)) hx hb dX8_orbit_73 (by decide) ?_
              refine lv_goto (tgt := 78) hx hb dX8_orbit_74 (by decide) ?_
              refine lv_istore (lv' := [(6, .int (nI 1)), (5, .int i12), (4, .int i9), (3, .int i13), (0, .ref a0), (1, .int v1)]) hx hb dX8_orbit_78 hl (by decide) rfl (fun ls hl => ?_)
              refine lv_iload_n hx hb dX8_orbit_80 rfl (lv_at hl 3 rfl) ?_
              refine lv_iload hx hb dX8_orbit_81 (lv_at hl 0 rfl) ?_
              refine lv_if_eq (tgt := 98) hx hb dX8_orbit_83 (by decide) (fun c9 => absurd c9 (by decide)) (fun _ => ?_)
              refine lv_iconst (v := (nI 1)) hx hb dX8_orbit_86 (by decide) ?_
              refine lv_aload_n hx hb dX8_orbit_87 rfl (lv_at hl 4 rfl) ?_
              obtain ⟨fs22, a23, e24, e24', h⟩ := h
              refine r_get C hO 6 10 rfl inX8 (Nat.le_of_ble_eq_true rfl) e24 e24' (List.mem_of_getElem? (i := 1) (by decide +kernel)) dX8_orbit_88 ?_
              refine lv_iload hx hb dX8_orbit_91 (lv_at hl 1 rfl) ?_
              obtain ⟨n25, f26, i28, e27, e27', exi28, h⟩ := h
              refine r_iald C hO e27 e27' dX8_orbit_93 ?_
              rw [exi28]
              refine lv_ishl hx hb dX8_orbit_94 ?_
              refine lv_goto (tgt := 99) hx hb dX8_orbit_95 (by decide) ?_
              refine lv_ior hx hb dX8_orbit_99 ?_
              refine lv_topi (fun i29 ei29 => ?_)
              have h := h i29 ei29
              refine lv_istore_n (lv' := [(3, .int i29), (6, .int (nI 1)), (5, .int i12), (4, .int i9), (0, .ref a0), (1, .int v1)]) hx hb dX8_orbit_100 rfl hl (by decide) rfl (fun ls hl => ?_)
              obtain ⟨i30, ei30⟩ : ∃ y : Int32, y = i12 + (nI 1) := ⟨_, rfl⟩
              have h := h i30 ei30
              refine lv_iinc (v := i30) (lv' := [(5, .int i30), (3, .int i29), (6, .int (nI 1)), (4, .int i9), (0, .ref a0), (1, .int v1)]) hx hb dX8_orbit_101 hl (k := 2) rfl (by rw [ei30]; rfl) (by decide) rfl (fun ls hl => ?_)
              refine lv_goto (tgt := 40) hx hb dX8_orbit_104 (by decide) ?_
              exact ih40 (i30, i29) _ h (lv_sub hl [0, 3, 1, 4, 5] rfl)
    · have h := h.1 c4
      refine lv_bipush (v := (-2 : Int32)) hx hb dX8_orbit_16 (by decide) ?_
      exact W.iret hx hb hr (fun t ht hW => ⟨⟨(-2 : Int32), S, rfl, h, hO.q ht⟩, hO.f ht⟩) hO.lc dX8_orbit_18
  · have h := h.1 c2
    refine lv_iconst (v := (-1 : Int32)) hx hb dX8_orbit_7 (by decide) ?_
    exact W.iret hx hb hr (fun t ht hW => ⟨⟨(-1 : Int32), S, rfl, h, hO.q ht⟩, hO.f ht⟩) hO.lc dX8_orbit_8
