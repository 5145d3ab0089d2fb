theorem hdS_X8_unlike : yX8_unlike.cls ≠ "java/lang/invoke/MethodHandle" ∧ yX8_unlike.cls ≠ "java/lang/invoke/VarHandle" ∧ (parseMethodDescriptor yX8_unlike.desc).map (fun d => d.parameters.length) = some 3 := by decide +kernel
set_option maxHeartbeats 4000000 in
set_option maxRecDepth 100000 in
theorem c_X8_unlike (l : Launch) (D : va_G) (Y : Nat → ClassId) (L : List Nat) (S : PS) (sz : Nat) (a0 : Nat) (v1 : Int32) (v2 : Int32) (v3 : Int32) (Post : Int32 → Prop) (h : wp_X8_unlike S a0 v1 v2 v3 Post) : Met l yX8_unlike wsX8_unlike ({ frames := 1, cells := 0, slots := 0, locals := 22 }) (va_Pc [.ref a0, .int v1, .int v2, .int v3] (PrO D Y L S sz)) (vp_Si Post) 0 0 (fun _ => False) := by
  refine Met.ofW (cc := cX8_unlike) (maxL := 8) (ret := (some .int)) (by decide) rfl ?_
  intro p e s m args below meth c s₁ B hml hv
  obtain ⟨rfl, hsz, hJ, hP, hK, hD0, hZ⟩ := hv
  have hx := B.exec
  have hb := B.bytes
  have hr := B.returns
  have hts := atoms_spec (ws := wsX8_unlike) B.pre
  have hown : s.vm.findClass RX8 = some m.cls := findClass_of_methodNamed B.named
  have hlocks := B.notSynchronized
  have CF : CallFix p m c cX8_unlike 8 s ([.ref a0, .int v1, .int v2, .int v3] : List Value).toArray wsX8_unlike RX8 := ⟨hx, hb, hml, hown, hts⟩
  have C : CX p m c cX8_unlike 8 s ([.ref a0, .int v1, .int v2, .int v3] : List Value).toArray wsX8_unlike RX8 D Y := ⟨CF, hK, hZ⟩
  have hO : HO D Y (fR L sz) s.heap S s.heap [] := HO.entry hsz hJ hP hD0
  subst hsz
  have hl := lv_entry ([.ref a0, .int v1, .int v2, .int v3]) (n := 8) (Nat.le_of_ble_eq_true rfl)
  rw [lg_entry_eq]
  generalize (lg_sl ([.ref a0, .int v1, .int v2, .int v3]) ++ List.replicate (8 - (lg_sl ([.ref a0, .int v1, .int v2, .int v3])).length) Slot.unset).toArray = ls at hl ⊢
  have hl : lv_has ls 8 [(0, .ref a0), (1, .int v1), (2, .int v2), (3, .int v3)] := hl
  unfold wp_X8_unlike at h
  refine lv_iconst (v := (nI 0)) hx hb dX8_unlike_0 (by decide) ?_
  refine lv_istore (lv' := [(4, .int (nI 0)), (0, .ref a0), (1, .int v1), (2, .int v2), (3, .int v3)]) hx hb dX8_unlike_1 hl (by decide) rfl (fun ls hl => ?_)
  refine lv_iconst (v := (nI 0)) hx hb dX8_unlike_3 (by decide) ?_
  refine lv_istore (lv' := [(5, .int (nI 0)), (4, .int (nI 0)), (0, .ref a0), (1, .int v1), (2, .int v2), (3, .int v3)]) hx hb dX8_unlike_4 hl (by decide) rfl (fun ls hl => ?_)
  obtain ⟨n27, h⟩ := h
  refine lp_P (nL := 8) (fun q => [(5, .int q.1), (4, .int q.2), (0, .ref a0), (1, .int v1), (2, .int v2), (3, .int v3)]) h (lv_sub hl [0, 1, 2, 3, 4, 5] rfl) (fun K6 ih6 q ls h hl => ?_)
  obtain ⟨i1, i2⟩ := q
  have h : wpb_X8_unlike_6 S a0 v1 v2 v3 Post K6 i1 i2 := h
  have hl : lv_has ls 8 [(5, .int i1), (4, .int i2), (0, .ref a0), (1, .int v1), (2, .int v2), (3, .int v3)] := hl
  unfold wpb_X8_unlike_6 at h
  refine lv_iload hx hb dX8_unlike_6 (lv_at hl 0 rfl) ?_
  refine lv_bipush (v := (nI 12)) hx hb dX8_unlike_8 (by decide) ?_
  refine lv_icmp_ge (tgt := 104) hx hb dX8_unlike_10 (by decide) (fun c3 => ?_) (fun c3 => ?_)
  · have h := h.1 c3
    refine lv_iload hx hb dX8_unlike_104 (lv_at hl 1 rfl) ?_
    exact W.iret hx hb hr (fun t ht hW => ⟨i2, rfl, h, ht⟩) no_locs dX8_unlike_106
  · have h := h.2 c3
    refine lv_aload_n hx hb dX8_unlike_13 rfl (lv_at hl 2 rfl) ?_
    refine lv_iload_n hx hb dX8_unlike_14 rfl (lv_at hl 3 rfl) ?_
    refine lv_iload hx hb dX8_unlike_15 (lv_at hl 0 rfl) ?_
    obtain ⟨fs6, e5, h⟩ := h
    refine cV_ri (As := [.int v1, .int i1]) (rest := []) (n := 2) C hO (fun L => c_X8_comesBy l D Y L S s.heap.size a0 v1 i1 _ h) 6 rfl e5 (cwV 2 hts gX8_unlike_X8_comesBy rfl rfl rfl ⟨rfl, hdS_X8_comesBy⟩ ⟨Nat.le_of_ble_eq_true rfl, Nat.le_of_ble_eq_true rfl⟩) rfl hl.1 rfl (Nat.le_of_ble_eq_true rfl) dX8_unlike_17 ⟨Nat.le_of_ble_eq_true rfl, Nat.le_of_ble_eq_true rfl⟩ (fun i4 h => ?_)
    refine lv_istore (lv' := [(6, .int i4), (5, .int i1), (4, .int i2), (0, .ref a0), (1, .int v1), (2, .int v2), (3, .int v3)]) hx hb dX8_unlike_20 hl (by decide) rfl (fun ls hl => ?_)
    refine lv_iload_n hx hb dX8_unlike_22 rfl (lv_at hl 6 rfl) ?_
    refine lv_iconst (v := (nI 2)) hx hb dX8_unlike_23 (by decide) ?_
    refine cut_P (nL := 8) (fun (q : Int32) => wpk_X8_unlike_41 S a0 v1 v2 v3 i1 i2 i4 K6 q) (fun q => [(6, .int i4), (5, .int i1), (4, .int i2), (0, .ref a0), (1, .int v1), (2, .int v2), (3, .int v3), (7, .int q)]) 41 ?_ (fun kc41 => ?_)
    · intro q ls h hl
      obtain ⟨i7, rfl⟩ : ∃ z, z = q := ⟨q, rfl⟩
      have h : wpk_X8_unlike_41 S a0 v1 v2 v3 i1 i2 i4 K6 i7 := h
      have hl : lv_has ls 8 [(6, .int i4), (5, .int i1), (4, .int i2), (0, .ref a0), (1, .int v1), (2, .int v2), (3, .int v3), (7, .int i7)] := hl
      unfold wpk_X8_unlike_41 at h
      refine lv_iload_n hx hb dX8_unlike_41 rfl (lv_at hl 6 rfl) ?_
      refine cut_P (nL := 8) (fun (q : Int32) => wpk_X8_unlike_59 S a0 v1 v3 i1 i2 i7 K6 q) (fun q => [(6, .int q), (5, .int i1), (4, .int i2), (0, .ref a0), (1, .int v1), (2, .int v2), (3, .int v3), (7, .int i7)]) 59 ?_ (fun kc59 => ?_)
      · intro q ls h hl
        obtain ⟨i8, rfl⟩ : ∃ z, z = q := ⟨q, rfl⟩
        have h : wpk_X8_unlike_59 S a0 v1 v3 i1 i2 i7 K6 i8 := h
        have hl : lv_has ls 8 [(6, .int i8), (5, .int i1), (4, .int i2), (0, .ref a0), (1, .int v1), (2, .int v2), (3, .int v3), (7, .int i7)] := hl
        unfold wpk_X8_unlike_59 at h
        refine lv_iload_n hx hb dX8_unlike_59 rfl (lv_at hl 6 rfl) ?_
        refine lv_iconst (v := (nI 1)) hx hb dX8_unlike_60 (by decide) ?_
        refine cut_P (nL := 8) (fun (q : Int32) => wpk_X8_unlike_78 i1 i2 i8 K6 q) (fun q => [(6, .int i8), (5, .int i1), (4, .int i2), (0, .ref a0), (1, .int v1), (2, .int v2), (3, .int v3), (7, .int q)]) 78 ?_ (fun kc78 => ?_)
        · intro q ls h hl
          obtain ⟨i9, rfl⟩ : ∃ z, z = q := ⟨q, rfl⟩
          have h : wpk_X8_unlike_78 i1 i2 i8 K6 i9 := h
          have hl : lv_has ls 8 [(6, .int i8), (5, .int i1), (4, .int i2), (0, .ref a0), (1, .int v1), (2, .int v2), (3, .int v3), (7, .int i9)] := hl
          unfold wpk_X8_unlike_78 at h
          refine lv_iload hx hb dX8_unlike_78 (lv_at hl 2 rfl) ?_
          refine lv_iload hx hb dX8_unlike_80 (lv_at hl 0 rfl) ?_
          refine lv_iload hx hb dX8_unlike_82 (lv_at hl 7 rfl) ?_
          refine lv_icmp_ne (tgt := 91) hx hb dX8_unlike_84 (by decide) (fun c10 => ?_) (fun c10 => ?_)
          · have h := h.2 c10
            refine lv_iconst (v := (nI 1)) hx hb dX8_unlike_91 (by decide) ?_
            refine lv_iload hx hb dX8_unlike_92 (lv_at hl 1 rfl) ?_
            refine lv_ishl hx hb dX8_unlike_94 ?_
            refine lv_ior hx hb dX8_unlike_95 ?_
            refine lv_topi (fun i11 ei11 => ?_)
            have h := h i11 ei11
            refine lv_istore (lv' := [(4, .int i11), (6, .int i8), (5, .int i1), (0, .ref a0), (1, .int v1), (2, .int v2), (3, .int v3), (7, .int i9)]) hx hb dX8_unlike_96 hl (by decide) rfl (fun ls hl => ?_)
            obtain ⟨i12, ei12⟩ : ∃ y : Int32, y = i1 + (nI 1) := ⟨_, rfl⟩
            have h := h i12 ei12
            refine lv_iinc (v := i12) (lv' := [(5, .int i12), (4, .int i11), (6, .int i8), (0, .ref a0), (1, .int v1), (2, .int v2), (3, .int v3), (7, .int i9)]) hx hb dX8_unlike_98 hl (k := 2) rfl (by rw [ei12]; rfl) (by decide) rfl (fun ls hl => ?_)
            refine lv_goto (tgt := 6) hx hb dX8_unlike_101 (by decide) ?_
            exact ih6 (i12, i11) _ h (lv_sub hl [0, 1, 3, 4, 5, 6] rfl)
          · have h := h.1 c10
            refine lv_iconst (v := (nI 0)) hx hb dX8_unlike_87 (by decide) ?_
            refine lv_goto (tgt := 95) hx hb dX8_unlike_88 (by decide) ?_
            refine lv_ior hx hb dX8_unlike_95 ?_
            refine lv_topi (fun i13 ei13 => ?_)
            have h := h i13 ei13
            refine lv_istore (lv' := [(4, .int i13), (6, .int i8), (5, .int i1), (0, .ref a0), (1, .int v1), (2, .int v2), (3, .int v3), (7, .int i9)]) hx hb dX8_unlike_96 hl (by decide) rfl (fun ls hl => ?_)
            obtain ⟨i14, ei14⟩ : ∃ y : Int32, y = i1 + (nI 1) := ⟨_, rfl⟩
            have h := h i14 ei14
            refine lv_iinc (v := i14) (lv' := [(5, .int i14), (4, .int i13), (6, .int i8), (0, .ref a0), (1, .int v1), (2, .int v2), (3, .int v3), (7, .int i9)]) hx hb dX8_unlike_98 hl (k := 2) rfl (by rw [ei14]; rfl) (by decide) rfl (fun ls hl => ?_)
            refine lv_goto (tgt := 6) hx hb dX8_unlike_101 (by decide) ?_
            exact ih6 (i14, i13) _ h (lv_sub hl [0, 1, 3, 4, 5, 6] rfl)
        refine lv_icmp_ne (tgt := 74) hx hb dX8_unlike_61 (by decide) (fun c15 => ?_) (fun c15 => ?_)
        · have h := h.2 c15
          refine lv_iload hx hb dX8_unlike_74 (lv_at hl 7 rfl) ?_
          refine lv_istore (lv' := [(7, .int i7), (6, .int i8), (5, .int i1), (4, .int i2), (0, .ref a0), (1, .int v1), (2, .int v2), (3, .int v3)]) hx hb dX8_unlike_76 hl (by decide) rfl (fun ls hl => ?_)
          exact kc78 i7 _ h (lv_sub hl [1, 2, 3, 4, 5, 6, 7, 0] rfl)
        · have h := h.1 c15
          refine lv_aload_n hx hb dX8_unlike_64 rfl (lv_at hl 3 rfl) ?_
          refine lv_iload_n hx hb dX8_unlike_65 rfl (lv_at hl 4 rfl) ?_
          refine lv_iload hx hb dX8_unlike_66 (lv_at hl 7 rfl) ?_
          obtain ⟨fs18, e17, h⟩ := h
          refine cV_ri (As := [.int v1, .int i7]) (rest := []) (n := 2) C hO (fun L => c_X8_comesBy l D Y L S s.heap.size a0 v1 i7 _ h) 6 rfl e17 (cwV 2 hts gX8_unlike_X8_comesBy rfl rfl rfl ⟨rfl, hdS_X8_comesBy⟩ ⟨Nat.le_of_ble_eq_true rfl, Nat.le_of_ble_eq_true rfl⟩) rfl hl.1 rfl (Nat.le_of_ble_eq_true rfl) dX8_unlike_68 ⟨Nat.le_of_ble_eq_true rfl, Nat.le_of_ble_eq_true rfl⟩ (fun i16 h => ?_)
          refine lv_goto (tgt := 76) hx hb dX8_unlike_71 (by decide) ?_
          refine lv_istore (lv' := [(7, .int i16), (6, .int i8), (5, .int i1), (4, .int i2), (0, .ref a0), (1, .int v1), (2, .int v2), (3, .int v3)]) hx hb dX8_unlike_76 hl (by decide) rfl (fun ls hl => ?_)
          exact kc78 i16 _ h (lv_sub hl [1, 2, 3, 4, 5, 6, 7, 0] rfl)
      refine lv_if_ne (tgt := 50) hx hb dX8_unlike_42 (by decide) (fun c19 => ?_) (fun c19 => ?_)
      · have h := h.2 c19
        refine lv_aload_n hx hb dX8_unlike_50 rfl (lv_at hl 3 rfl) ?_
        refine lv_iload_n hx hb dX8_unlike_51 rfl (lv_at hl 5 rfl) ?_
        refine lv_iload hx hb dX8_unlike_52 (lv_at hl 0 rfl) ?_
        obtain ⟨fs22, e21, h⟩ := h
        refine cV_ri (As := [.int v2, .int i4]) (rest := []) (n := 2) C hO (fun L => c_X8_comesBy l D Y L S s.heap.size a0 v2 i4 _ h) 6 rfl e21 (cwV 2 hts gX8_unlike_X8_comesBy rfl rfl rfl ⟨rfl, hdS_X8_comesBy⟩ ⟨Nat.le_of_ble_eq_true rfl, Nat.le_of_ble_eq_true rfl⟩) rfl hl.1 rfl (Nat.le_of_ble_eq_true rfl) dX8_unlike_54 ⟨Nat.le_of_ble_eq_true rfl, Nat.le_of_ble_eq_true rfl⟩ (fun i20 h => ?_)
        refine lv_istore (lv' := [(6, .int i20), (5, .int i1), (4, .int i2), (0, .ref a0), (1, .int v1), (2, .int v2), (3, .int v3), (7, .int i7)]) hx hb dX8_unlike_57 hl (by decide) rfl (fun ls hl => ?_)
        exact kc59 i20 _ h (lv_sub hl [0, 1, 2, 3, 4, 5, 6, 7] rfl)
      · have h := h.1 c19
        refine lv_iload hx hb dX8_unlike_45 (lv_at hl 0 rfl) ?_
        refine lv_goto (tgt := 57) hx hb dX8_unlike_47 (by decide) ?_
        refine lv_istore (lv' := [(6, .int i4), (5, .int i1), (4, .int i2), (0, .ref a0), (1, .int v1), (2, .int v2), (3, .int v3), (7, .int i7)]) hx hb dX8_unlike_57 hl (by decide) rfl (fun ls hl => ?_)
        exact kc59 i4 _ h (lv_sub hl [0, 1, 2, 3, 4, 5, 6, 7] rfl)
    refine lv_icmp_ne (tgt := 32) hx hb dX8_unlike_24 (by decide) (fun c23 => ?_) (fun c23 => ?_)
    · have h := h.2 c23
      refine lv_aload_n hx hb dX8_unlike_32 rfl (lv_at hl 3 rfl) ?_
      refine lv_iload_n hx hb dX8_unlike_33 rfl (lv_at hl 5 rfl) ?_
      refine lv_iload hx hb dX8_unlike_34 (lv_at hl 1 rfl) ?_
      obtain ⟨fs26, e25, h⟩ := h
      refine cV_ri (As := [.int v2, .int i1]) (rest := []) (n := 2) C hO (fun L => c_X8_comesBy l D Y L S s.heap.size a0 v2 i1 _ h) 6 rfl e25 (cwV 2 hts gX8_unlike_X8_comesBy rfl rfl rfl ⟨rfl, hdS_X8_comesBy⟩ ⟨Nat.le_of_ble_eq_true rfl, Nat.le_of_ble_eq_true rfl⟩) rfl hl.1 rfl (Nat.le_of_ble_eq_true rfl) dX8_unlike_36 ⟨Nat.le_of_ble_eq_true rfl, Nat.le_of_ble_eq_true rfl⟩ (fun i24 h => ?_)
      refine lv_istore (lv' := [(7, .int i24), (6, .int i4), (5, .int i1), (4, .int i2), (0, .ref a0), (1, .int v1), (2, .int v2), (3, .int v3)]) hx hb dX8_unlike_39 hl (by decide) rfl (fun ls hl => ?_)
      exact kc41 i24 _ h (lv_sub hl [1, 2, 3, 4, 5, 6, 7, 0] rfl)
    · have h := h.1 c23
      refine lv_iload hx hb dX8_unlike_27 (lv_at hl 1 rfl) ?_
      refine lv_goto (tgt := 39) hx hb dX8_unlike_29 (by decide) ?_
      refine lv_istore (lv' := [(7, .int i1), (6, .int i4), (5, .int i1), (4, .int i2), (0, .ref a0), (1, .int v1), (2, .int v2), (3, .int v3)]) hx hb dX8_unlike_39 hl (by decide) rfl (fun ls hl => ?_)
      exact kc41 i1 _ h (lv_sub hl [1, 2, 3, 4, 5, 6, 7, 0] rfl)
theorem hdS_X8_pair : yX8_pair.cls ≠ "java/lang/invoke/MethodHandle" ∧ yX8_pair.cls ≠ "java/lang/invoke/VarHandle" ∧ (parseMethodDescriptor yX8_pair.desc).map (fun d => d.parameters.length) = some 3 := by decide +kernel
set_option maxHeartbeats 4000000 in
set_option maxRecDepth 100000 in
theorem c_X8_pair (l : Launch) (D : va_G) (Y : Nat → ClassId) (L : List Nat) (S : PS) (sz : Nat) (a0 : Nat) (v1 : Int32) (v2 : Int32) (v3 : Int32) (Post : Int32 → PS → Prop) (h : wp_X8_pair S a0 v1 v2 v3 Post) : Met l yX8_pair wsX8_pair ({ frames := 3, cells := 0, slots := 0, locals := 72 }) (va_Pc [.ref a0, .int v1, .int v2, .int v3] (PrO D Y L S sz)) (va_Qi Post (QtO D Y (fR L sz)) (fR L sz)) 0 0 (fR L sz) := by
  refine Met.ofW (cc := cX8_pair) (maxL := 4) (ret := (some .int)) (by decide) rfl ?_
  intro p e s m args below meth c s₁ B hml hv
  obtain ⟨rfl, hsz, hJ, hP, hK, hD0, hZ⟩ := hv
  have hx := B.exec
  have hb := B.bytes
  have hr := B.returns
  have hts := atoms_spec (ws := wsX8_pair) B.pre
  have hown : s.vm.findClass RX8 = some m.cls := findClass_of_methodNamed B.named
  have hlocks := B.notSynchronized
  have CF : CallFix p m c cX8_pair 4 s ([.ref a0, .int v1, .int v2, .int v3] : List Value).toArray wsX8_pair RX8 := ⟨hx, hb, hml, hown, hts⟩
  have C : CX p m c cX8_pair 4 s ([.ref a0, .int v1, .int v2, .int v3] : List Value).toArray wsX8_pair RX8 D Y := ⟨CF, hK, hZ⟩
  have hO : HO D Y (fR L sz) s.heap S s.heap [] := HO.entry hsz hJ hP hD0
  subst hsz
  have hl := lv_entry ([.ref a0, .int v1, .int v2, .int v3]) (n := 4) (Nat.le_of_ble_eq_true rfl)
  rw [lg_entry_eq]
  generalize (lg_sl ([.ref a0, .int v1, .int v2, .int v3]) ++ List.replicate (4 - (lg_sl ([.ref a0, .int v1, .int v2, .int v3])).length) Slot.unset).toArray = ls at hl ⊢
  have hl : lv_has ls 4 [(0, .ref a0), (1, .int v1), (2, .int v2), (3, .int v3)] := hl
  unfold wp_X8_pair at h
  refine lv_iload_n hx hb dX8_pair_0 rfl (lv_at hl 1 rfl) ?_
  refine cS_si (As := [.int v1]) (rest := []) (n := 1) CF hZ (c_X8_isDraft l v1 _ h) (va_cwS 1 hts gX8_pair_X8_isDraft rfl rfl rfl hdS_X8_isDraft ⟨Nat.le_of_ble_eq_true rfl, Nat.le_of_ble_eq_true rfl⟩) rfl hl.1 rfl (Nat.le_of_ble_eq_true rfl) dX8_pair_1 ⟨Nat.le_of_ble_eq_true rfl, Nat.le_of_ble_eq_true rfl⟩ (fun i1 h => ?_)
  refine lv_if_eq (tgt := 14) hx hb dX8_pair_4 (by decide) (fun c2 => ?_) (fun c2 => ?_)
  · have h := h.1 c2
    refine lv_iconst (v := (-1 : Int32)) hx hb dX8_pair_14 (by decide) ?_
    exact W.iret hx hb hr (fun t ht hW => ⟨⟨(-1 : Int32), S, rfl, h, hO.q ht⟩, hO.f ht⟩) hO.lc dX8_pair_15
  · have h := h.2 c2
    refine lv_iload_n hx hb dX8_pair_7 rfl (lv_at hl 2 rfl) ?_
    refine cS_si (As := [.int v2]) (rest := []) (n := 1) CF hZ (c_X8_isDraft l v2 _ h) (va_cwS 1 hts gX8_pair_X8_isDraft rfl rfl rfl hdS_X8_isDraft ⟨Nat.le_of_ble_eq_true rfl, Nat.le_of_ble_eq_true rfl⟩) rfl hl.1 rfl (Nat.le_of_ble_eq_true rfl) dX8_pair_8 ⟨Nat.le_of_ble_eq_true rfl, Nat.le_of_ble_eq_true rfl⟩ (fun i3 h => ?_)
    refine lv_if_ne (tgt := 16) hx hb dX8_pair_11 (by decide) (fun c4 => ?_) (fun c4 => ?_)
    · have h := h.2 c4
      refine lv_iload_n hx hb dX8_pair_16 rfl (lv_at hl 3 rfl) ?_
      refine lv_iconst (v := (nI 0)) hx hb dX8_pair_17 (by decide) ?_
      refine lv_iconst (v := (nI 3)) hx hb dX8_pair_18 (by decide) ?_
      refine cS_si (As := [.int v3, .int (nI 0), .int (nI 3)]) (rest := []) (n := 3) CF hZ (c_X8_within l v3 (nI 0) (nI 3) _ h) (va_cwS 3 hts gX8_pair_X8_within rfl rfl rfl hdS_X8_within ⟨Nat.le_of_ble_eq_true rfl, Nat.le_of_ble_eq_true rfl⟩) rfl hl.1 rfl (Nat.le_of_ble_eq_true rfl) dX8_pair_19 ⟨Nat.le_of_ble_eq_true rfl, Nat.le_of_ble_eq_true rfl⟩ (fun i5 h => ?_)
      refine lv_if_ne (tgt := 28) hx hb dX8_pair_22 (by decide) (fun c6 => ?_) (fun c6 => ?_)
      · have h := h.2 c6
        refine lv_aload_n hx hb dX8_pair_28 rfl (lv_at hl 0 rfl) ?_
        refine lv_iload_n hx hb dX8_pair_29 rfl (lv_at hl 1 rfl) ?_
        obtain ⟨fs9, e8, h⟩ := h
        refine cV_wv (As := [.int v1]) (rest := []) (n := 1) C hO (fun L => c_X8_lay l D Y L S s.heap.size a0 v1 _ h) 6 rfl e8 (cwV 1 hts gX8_pair_X8_lay rfl rfl rfl ⟨rfl, hdS_X8_lay⟩ ⟨Nat.le_of_ble_eq_true rfl, Nat.le_of_ble_eq_true rfl⟩) rfl hl.1 rfl (Nat.le_of_ble_eq_true rfl) dX8_pair_30 ⟨Nat.le_of_ble_eq_true rfl, Nat.le_of_ble_eq_true rfl⟩ (fun S7 H locs h hO => ?_)
        refine lv_aload_n hx hb dX8_pair_33 rfl (lv_at hl 0 rfl) ?_
        refine lv_iload_n hx hb dX8_pair_34 rfl (lv_at hl 2 rfl) ?_
        obtain ⟨fs12, e11, h⟩ := h
        refine cV_wv (As := [.int v2]) (rest := []) (n := 1) C hO (fun L => c_X8_lay l D Y L S7 H.size a0 v2 _ h) 6 rfl e11 (cwV 1 hts gX8_pair_X8_lay rfl rfl rfl ⟨rfl, hdS_X8_lay⟩ ⟨Nat.le_of_ble_eq_true rfl, Nat.le_of_ble_eq_true rfl⟩) rfl hl.1 rfl (Nat.le_of_ble_eq_true rfl) dX8_pair_35 ⟨Nat.le_of_ble_eq_true rfl, Nat.le_of_ble_eq_true rfl⟩ (fun S10 H locs h hO => ?_)
        refine lv_iload_n hx hb dX8_pair_38 rfl (lv_at hl 3 rfl) ?_
        refine lv_iconst (v := (nI 3)) hx hb dX8_pair_39 (by decide) ?_
        refine lv_icmp_ne (tgt := 51) hx hb dX8_pair_40 (by decide) (fun c13 => ?_) (fun c13 => ?_)
        · have h := h.2 c13
          refine lv_aload_n hx hb dX8_pair_51 rfl (lv_at hl 0 rfl) ?_
          refine lv_iload_n hx hb dX8_pair_52 rfl (lv_at hl 1 rfl) ?_
          refine lv_iload_n hx hb dX8_pair_53 rfl (lv_at hl 2 rfl) ?_
          refine lv_iload_n hx hb dX8_pair_54 rfl (lv_at hl 3 rfl) ?_
          obtain ⟨fs16, e15, h⟩ := h
          refine cV_ri (As := [.int v1, .int v2, .int v3]) (rest := []) (n := 3) C hO (fun L => c_X8_unlike l D Y L S10 H.size a0 v1 v2 v3 _ h) 6 rfl e15 (cwV 3 hts gX8_pair_X8_unlike rfl rfl rfl ⟨rfl, hdS_X8_unlike⟩ ⟨Nat.le_of_ble_eq_true rfl, Nat.le_of_ble_eq_true rfl⟩) rfl hl.1 rfl (Nat.le_of_ble_eq_true rfl) dX8_pair_55 ⟨Nat.le_of_ble_eq_true rfl, Nat.le_of_ble_eq_true rfl⟩ (fun i14 h => ?_)
          refine lv_if_ne (tgt := 65) hx hb dX8_pair_58 (by decide) (fun c17 => ?_) (fun c17 => ?_)
          · have h := h.2 c17
            refine lv_iconst (v := (nI 0)) hx hb dX8_pair_65 (by decide) ?_
            exact W.iret hx hb hr (fun t ht hW => ⟨⟨(nI 0), S10, rfl, h, hO.q ht⟩, hO.f ht⟩) hO.lc dX8_pair_66
          · have h := h.1 c17
            refine lv_iconst (v := (nI 1)) hx hb dX8_pair_61 (by decide) ?_
            refine lv_goto (tgt := 66) hx hb dX8_pair_62 (by decide) ?_
            exact W.iret hx hb hr (fun t ht hW => ⟨⟨(nI 1), S10, rfl, h, hO.q ht⟩, hO.f ht⟩) hO.lc dX8_pair_66
        · have h := h.1 c13
          refine lv_aload_n hx hb dX8_pair_43 rfl (lv_at hl 0 rfl) ?_
          refine lv_iload_n hx hb dX8_pair_44 rfl (lv_at hl 1 rfl) ?_
          refine lv_iload_n hx hb dX8_pair_45 rfl (lv_at hl 2 rfl) ?_
          refine lv_iconst (v := (nI 0)) hx hb dX8_pair_46 (by decide) ?_
          obtain ⟨fs20, e19, h⟩ := h
          refine cV_ri (As := [.int v1, .int v2, .int (nI 0)]) (rest := []) (n := 3) C hO (fun L => c_X8_unlike l D Y L S10 H.size a0 v1 v2 (nI 0) _ h) 6 rfl e19 (cwV 3 hts gX8_pair_X8_unlike rfl rfl rfl ⟨rfl, hdS_X8_unlike⟩ ⟨Nat.le_of_ble_eq_true rfl, Nat.le_of_ble_eq_true rfl⟩) rfl hl.1 rfl (Nat.le_of_ble_eq_true rfl) dX8_pair_47 ⟨Nat.le_of_ble_eq_true rfl, Nat.le_of_ble_eq_true rfl⟩ (fun i18 h => ?_)
          exact W.iret hx hb hr (fun t ht hW => ⟨⟨i18, S10, rfl, h, hO.q ht⟩, hO.f ht⟩) hO.lc dX8_pair_50
      · have h := h.1 c6
        refine lv_bipush (v := (-2 : Int32)) hx hb dX8_pair_25 (by decide) ?_
        exact W.iret hx hb hr (fun t ht hW => ⟨⟨(-2 : Int32), S, rfl, h, hO.q ht⟩, hO.f ht⟩) hO.lc dX8_pair_27
    · have h := h.1 c4
      refine lv_iconst (v := (-1 : Int32)) hx hb dX8_pair_14 (by decide) ?_
      exact W.iret hx hb hr (fun t ht hW => ⟨⟨(-1 : Int32), S, rfl, h, hO.q ht⟩, hO.f ht⟩) hO.lc dX8_pair_15
theorem hdS_X8_addWay : yX8_addWay.cls ≠ "java/lang/invoke/MethodHandle" ∧ yX8_addWay.cls ≠ "java/lang/invoke/VarHandle" ∧ (parseMethodDescriptor yX8_addWay.desc).map (fun d => d.parameters.length) = some 0 := by decide +kernel
set_option maxHeartbeats 4000000 in
set_option maxRecDepth 100000 in
theorem c_X8_addWay (l : Launch) (D : va_G) (Y : Nat → ClassId) (L : List Nat) (S : PS) (sz : Nat) (a0 : Nat) (Post : PS → Prop) (h : wp_X8_addWay S a0 Post) : Met l yX8_addWay wsX8_addWay ({ frames := 0, cells := 0, slots := 0, locals := 0 }) (va_Pc [.ref a0] (PrO D Y L S sz)) (va_Qv Post (QtO D Y (fR L sz)) (fR L sz)) 0 0 (fR L sz) := by
  refine Met.ofW (cc := cX8_addWay) (maxL := 5) (ret := none) (by decide) rfl ?_
  intro p e s m args below meth c s₁ B hml hv
  obtain ⟨rfl, hsz, hJ, hP, hK, hD0, hZ⟩ := hv
  have hx := B.exec
  have hb := B.bytes
  have hr := B.returns
  have hts := atoms_spec (ws := wsX8_addWay) B.pre
  have hown : s.vm.findClass RX8 = some m.cls := findClass_of_methodNamed B.named
  have hlocks := B.notSynchronized
  have CF : CallFix p m c cX8_addWay 5 s ([.ref a0] : List Value).toArray wsX8_addWay RX8 := ⟨hx, hb, hml, hown, hts⟩
  have C : CX p m c cX8_addWay 5 s ([.ref a0] : List Value).toArray wsX8_addWay RX8 D Y := ⟨CF, hK, hZ⟩
  have hO : HO D Y (fR L sz) s.heap S s.heap [] := HO.entry hsz hJ hP hD0
  subst hsz
  have inX8 : ∀ w ∈ wsX80, w ∈ wsX8_addWay := fun w h => List.mem_cons_of_mem _ (List.mem_append_right _ h)
  have hl := lv_entry ([.ref a0]) (n := 5) (Nat.le_of_ble_eq_true rfl)
  rw [lg_entry_eq]
  generalize (lg_sl ([.ref a0]) ++ List.replicate (5 - (lg_sl ([.ref a0])).length) Slot.unset).toArray = ls at hl ⊢
  have hl : lv_has ls 5 [(0, .ref a0)] := hl
  unfold wp_X8_addWay at h
  refine lv_iconst (v := (nI 1)) hx hb dX8_addWay_0 (by decide) ?_
  refine lv_istore_n (lv' := [(1, .int (nI 1)), (0, .ref a0)]) hx hb dX8_addWay_1 rfl hl (by decide) rfl (fun ls hl => ?_)
  refine lv_iconst (v := (nI 0)) hx hb dX8_addWay_2 (by decide) ?_
  refine lv_istore_n (lv' := [(2, .int (nI 0)), (1, .int (nI 1)), (0, .ref a0)]) hx hb dX8_addWay_3 rfl hl (by decide) rfl (fun ls hl => ?_)
  obtain ⟨n73, h⟩ := h
  refine lp_P (nL := 5) (fun q => [(2, .int q.1), (1, .int q.2), (0, .ref a0)]) h (lv_sub hl [0, 1, 2] rfl) (fun K4 ih4 q ls h hl => ?_)
  obtain ⟨i1, i2⟩ := q
  have h : wpb_X8_addWay_4 S a0 Post K4 i1 i2 := h
  have hl : lv_has ls 5 [(2, .int i1), (1, .int i2), (0, .ref a0)] := hl
  unfold wpb_X8_addWay_4 at h
  refine lv_iload_n hx hb dX8_addWay_4 rfl (lv_at hl 0 rfl) ?_
  refine lv_aload_n hx hb dX8_addWay_5 rfl (lv_at hl 2 rfl) ?_
  obtain ⟨fs3, i4, e5, e5', h⟩ := h
  refine r_get C hO 6 14 rfl inX8 (Nat.le_of_ble_eq_true rfl) e5 e5' (List.mem_of_getElem? (i := 1) (by decide +kernel)) dX8_addWay_6 ?_
  refine lv_icmp_ge (tgt := 82) hx hb dX8_addWay_9 (by decide) (fun c6 => ?_) (fun c6 => ?_)
  · have h := h.1 c6
    refine lv_iload_n hx hb dX8_addWay_82 rfl (lv_at hl 1 rfl) ?_
    refine cut_W D Y (fR L s.heap.size) s.heap (nL := 5) (fun (q : PS) => wpk_X8_addWay_130 a0 i2 Post q) (fun q => [(1, .int i2), (0, .ref a0)]) (fun q => q) 130 ?_ (fun kc130 => ?_)
    · intro q ls H locs h hl hO
      obtain ⟨S7, rfl⟩ : ∃ z, z = q := ⟨q, rfl⟩
      have h : wpk_X8_addWay_130 a0 i2 Post S7 := h
      have hl : lv_has ls 5 [(1, .int i2), (0, .ref a0)] := hl
      have hO : HO D Y (fR L s.heap.size) s.heap S7 H locs := hO
      unfold wpk_X8_addWay_130 at h
      refine lv_aload_n hx hb dX8_addWay_130 rfl (lv_at hl 1 rfl) ?_
      refine lv_dup hx hb dX8_addWay_131 rfl ?_
      obtain ⟨fs8, i9, e10, e10', h⟩ := h
      refine r_get C hO 6 14 rfl inX8 (Nat.le_of_ble_eq_true rfl) e10 e10' (List.mem_of_getElem? (i := 1) (by decide +kernel)) dX8_addWay_132 ?_
      refine lv_iload_n hx hb dX8_addWay_135 rfl (lv_at hl 0 rfl) ?_
      refine lv_if_eq (tgt := 143) hx hb dX8_addWay_136 (by decide) (fun c11 => ?_) (fun c11 => ?_)
      · have h := h.1 c11
        refine lv_iconst (v := (nI 0)) hx hb dX8_addWay_143 (by decide) ?_
        refine lv_iadd hx hb dX8_addWay_144 ?_
        obtain ⟨fs12, e13, e13', h⟩ := h
        refine r_put C hO 6 14 rfl inX8 tyX8_ok nmX8 (Nat.le_of_ble_eq_true rfl) rfl rfl rfl e13 e13' (List.mem_of_getElem? (i := 1) (by decide +kernel)) dX8_addWay_145 (fun H locs hO => ?_)
        obtain ⟨S14, eS14⟩ : ∃ Sx, Sx = va_up S7 a0 (.inl (6, fs12.set 14 (.int (i9 + (nI 0))))) := ⟨_, rfl⟩
        rw [← eS14] at hO
        have h := h S14 eS14
        exact W.vret hx hb hr (fun t ht hW => ⟨⟨S14, rfl, h, hO.q ht⟩, hO.f ht⟩) hO.lc dX8_addWay_148
      · have h := h.2 c11
        refine lv_iconst (v := (nI 1)) hx hb dX8_addWay_139 (by decide) ?_
        refine lv_goto (tgt := 144) hx hb dX8_addWay_140 (by decide) ?_
        refine lv_iadd hx hb dX8_addWay_144 ?_
        obtain ⟨fs15, e16, e16', h⟩ := h
        refine r_put C hO 6 14 rfl inX8 tyX8_ok nmX8 (Nat.le_of_ble_eq_true rfl) rfl rfl rfl e16 e16' (List.mem_of_getElem? (i := 1) (by decide +kernel)) dX8_addWay_145 (fun H locs hO => ?_)
        obtain ⟨S17, eS17⟩ : ∃ Sx, Sx = va_up S7 a0 (.inl (6, fs15.set 14 (.int (i9 + (nI 1))))) := ⟨_, rfl⟩
        rw [← eS17] at hO
        have h := h S17 eS17
        exact W.vret hx hb hr (fun t ht hW => ⟨⟨S17, rfl, h, hO.q ht⟩, hO.f ht⟩) hO.lc dX8_addWay_148
    refine lv_if_eq (tgt := 130) hx hb dX8_addWay_83 (by decide) (fun c18 => ?_) (fun c18 => ?_)
    · have h := h.1 c18
      exact kc130 S _ _ _ h (lv_sub hl [1, 2] rfl) hO
    · have h := h.2 c18
      refine lv_aload_n hx hb dX8_addWay_86 rfl (lv_at hl 2 rfl) ?_
      obtain ⟨fs19, i20, e21, e21', h⟩ := h
      refine r_get C hO 6 14 rfl inX8 (Nat.le_of_ble_eq_true rfl) e21 e21' (List.mem_of_getElem? (i := 1) (by decide +kernel)) dX8_addWay_87 ?_
      refine lv_sipush (v := (nI 300)) hx hb dX8_addWay_90 (by decide) ?_
      refine lv_icmp_ge (tgt := 130) hx hb dX8_addWay_93 (by decide) (fun c22 => ?_) (fun c22 => ?_)
      · have h := h.1 c22
        exact kc130 S _ _ _ h (lv_sub hl [1, 2] rfl) hO
      · have h := h.2 c22
        refine lv_iconst (v := (nI 0)) hx hb dX8_addWay_96 (by decide) ?_
        refine lv_istore_n (lv' := [(2, .int (nI 0)), (1, .int i2), (0, .ref a0)]) hx hb dX8_addWay_97 rfl hl (by decide) rfl (fun ls hl => ?_)
        obtain ⟨n44, h⟩ := h
        refine lp_W (nL := 5) (fun q => [(2, .int q.1), (1, .int i2), (0, .ref a0)]) (fun q => q.2) h (lv_sub hl [0, 1, 2] rfl) hO (fun K98 ih98 q ls H locs h hl hO => ?_)
        obtain ⟨i23, S24⟩ := q
        have h : wpb_X8_addWay_98 a0 i2 Post K98 i23 S24 := h
        have hl : lv_has ls 5 [(2, .int i23), (1, .int i2), (0, .ref a0)] := hl
        have hO : HO D Y (fR L s.heap.size) s.heap S24 H locs := hO
        unfold wpb_X8_addWay_98 at h
        refine lv_iload_n hx hb dX8_addWay_98 rfl (lv_at hl 0 rfl) ?_
        refine lv_bipush (v := (nI 12)) hx hb dX8_addWay_99 (by decide) ?_
        refine lv_icmp_ge (tgt := 130) hx hb dX8_addWay_101 (by decide) (fun c25 => ?_) (fun c25 => ?_)
        · have h := h.1 c25
          exact kc130 S24 _ _ _ h (lv_sub hl [1, 2] rfl) hO
        · have h := h.2 c25
          refine lv_aload_n hx hb dX8_addWay_104 rfl (lv_at hl 2 rfl) ?_
          obtain ⟨fs26, a27, e28, e28', h⟩ := h
          refine r_get C hO 6 13 rfl inX8 (Nat.le_of_ble_eq_true rfl) e28 e28' (List.mem_of_getElem? (i := 2) (by decide +kernel)) dX8_addWay_105 ?_
          refine lv_bipush (v := (nI 12)) hx hb dX8_addWay_108 (by decide) ?_
          refine lv_aload_n hx hb dX8_addWay_110 rfl (lv_at hl 2 rfl) ?_
          obtain ⟨fs29, i30, e31, e31', h⟩ := h
          refine r_get C hO 6 14 rfl inX8 (Nat.le_of_ble_eq_true rfl) e31 e31' (List.mem_of_getElem? (i := 1) (by decide +kernel)) dX8_addWay_111 ?_
          refine lv_imul hx hb dX8_addWay_114 ?_
          refine lv_iload_n hx hb dX8_addWay_115 rfl (lv_at hl 0 rfl) ?_
          refine lv_iadd hx hb dX8_addWay_116 ?_
          refine lv_aload_n hx hb dX8_addWay_117 rfl (lv_at hl 2 rfl) ?_
          obtain ⟨fs32, a33, e34, e34', h⟩ := h
          refine r_get C hO 6 11 rfl inX8 (Nat.le_of_ble_eq_true rfl) e34 e34' (List.mem_of_getElem? (i := 3) (by decide +kernel)) dX8_addWay_118 ?_
          refine lv_iload_n hx hb dX8_addWay_121 rfl (lv_at hl 0 rfl) ?_
          obtain ⟨n35, f36, i38, e37, e37', exi38, h⟩ := h
          refine r_iald C hO e37 e37' dX8_addWay_122 ?_
          rw [exi38]
          obtain ⟨n39, f40, e41, e41', h⟩ := h
          refine r_iast C hO e41 e41' dX8_addWay_123 (fun H locs hO => ?_)
          obtain ⟨S42, eS42⟩ : ∃ Sx, Sx = va_up S24 a27 (aI n39 (upd f40 ((((nI 12) * i30) + i23)).toNatClampNeg i38)) := ⟨_, rfl⟩
          rw [← eS42] at hO
          have h := h S42 eS42
          obtain ⟨i43, ei43⟩ : ∃ y : Int32, y = i23 + (nI 1) := ⟨_, rfl⟩
          have h := h i43 ei43
          refine lv_iinc (v := i43) (lv' := [(2, .int i43), (1, .int i2), (0, .ref a0)]) hx hb dX8_addWay_124 hl (k := 0) rfl (by rw [ei43]; rfl) (by decide) rfl (fun ls hl => ?_)
          refine lv_goto (tgt := 98) hx hb dX8_addWay_127 (by decide) ?_
          exact ih98 (i43, S42) _ _ _ h (lv_sub hl [0, 1, 2] rfl) hO
  · have h := h.2 c6
    refine lv_iconst (v := (nI 1)) hx hb dX8_addWay_12 (by decide) ?_
    refine lv_istore_n (lv' := [(3, .int (nI 1)), (2, .int i1), (1, .int i2), (0, .ref a0)]) hx hb dX8_addWay_13 rfl hl (by decide) rfl (fun ls hl => ?_)
    refine lv_iconst (v := (nI 0)) hx hb dX8_addWay_14 (by decide) ?_
    refine lv_istore (lv' := [(4, .int (nI 0)), (3, .int (nI 1)), (2, .int i1), (1, .int i2), (0, .ref a0)]) hx hb dX8_addWay_15 hl (by decide) rfl (fun ls hl => ?_)
    obtain ⟨n72, h⟩ := h
    refine lp_P (nL := 5) (fun q => [(4, .int q.1), (3, .int q.2), (2, .int i1), (1, .int i2), (0, .ref a0)]) h (lv_sub hl [0, 1, 2, 3, 4] rfl) (fun K17 ih17 q ls h hl => ?_)
    obtain ⟨i45, i46⟩ := q
    have h : wpb_X8_addWay_17 S a0 i1 i2 K4 K17 i45 i46 := h
    have hl : lv_has ls 5 [(4, .int i45), (3, .int i46), (2, .int i1), (1, .int i2), (0, .ref a0)] := hl
    unfold wpb_X8_addWay_17 at h
    refine lv_iload hx hb dX8_addWay_17 (lv_at hl 0 rfl) ?_
    refine lv_bipush (v := (nI 12)) hx hb dX8_addWay_19 (by decide) ?_
    refine lv_icmp_ge (tgt := 62) hx hb dX8_addWay_21 (by decide) (fun c47 => ?_) (fun c47 => ?_)
    · have h := h.1 c47
      refine lv_iload_n hx hb dX8_addWay_62 rfl (lv_at hl 3 rfl) ?_
      refine lv_if_eq (tgt := 74) hx hb dX8_addWay_63 (by decide) (fun c48 => ?_) (fun c48 => ?_)
      · have h := h.1 c48
        refine lv_iconst (v := (nI 0)) hx hb dX8_addWay_74 (by decide) ?_
        refine lv_istore_n (lv' := [(1, .int (nI 0)), (4, .int i45), (3, .int i46), (2, .int i1), (0, .ref a0)]) hx hb dX8_addWay_75 rfl hl (by decide) rfl (fun ls hl => ?_)
        obtain ⟨i49, ei49⟩ : ∃ y : Int32, y = i1 + (nI 1) := ⟨_, rfl⟩
        have h := h i49 ei49
        refine lv_iinc (v := i49) (lv' := [(2, .int i49), (1, .int (nI 0)), (4, .int i45), (3, .int i46), (0, .ref a0)]) hx hb dX8_addWay_76 hl (k := 3) rfl (by rw [ei49]; rfl) (by decide) rfl (fun ls hl => ?_)
        refine lv_goto (tgt := 4) hx hb dX8_addWay_79 (by decide) ?_
        exact ih4 (i49, (nI 0)) _ h (lv_sub hl [0, 1, 4] rfl)
      · have h := h.2 c48
        refine lv_iload_n hx hb dX8_addWay_66 rfl (lv_at hl 1 rfl) ?_
        refine lv_if_ne (tgt := 74) hx hb dX8_addWay_67 (by decide) (fun c50 => ?_) (fun c50 => ?_)
        · have h := h.2 c50
          refine lv_iconst (v := (nI 0)) hx hb dX8_addWay_74 (by decide) ?_
          refine lv_istore_n (lv' := [(1, .int (nI 0)), (4, .int i45), (3, .int i46), (2, .int i1), (0, .ref a0)]) hx hb dX8_addWay_75 rfl hl (by decide) rfl (fun ls hl => ?_)
          obtain ⟨i51, ei51⟩ : ∃ y : Int32, y = i1 + (nI 1) := ⟨_, rfl⟩
          have h := h i51 ei51
          refine lv_iinc (v := i51) (lv' := [(2, .int i51), (1, .int (nI 0)), (4, .int i45), (3, .int i46), (0, .ref a0)]) hx hb dX8_addWay_76 hl (k := 3) rfl (by rw [ei51]; rfl) (by decide) rfl (fun ls hl => ?_)
          refine lv_goto (tgt := 4) hx hb dX8_addWay_79 (by decide) ?_
          exact ih4 (i51, (nI 0)) _ h (lv_sub hl [0, 1, 4] rfl)
        · have h := h.1 c50
          refine lv_iconst (v := (nI 1)) hx hb dX8_addWay_70 (by decide) ?_
          refine lv_goto (tgt := 75) hx hb dX8_addWay_71 (by decide) ?_
          refine lv_istore_n (lv' := [(1, .int (nI 1)), (4, .int i45), (3, .int i46), (2, .int i1), (0, .ref a0)]) hx hb dX8_addWay_75 rfl hl (by decide) rfl (fun ls hl => ?_)
          obtain ⟨i52, ei52⟩ : ∃ y : Int32, y = i1 + (nI 1) := ⟨_, rfl⟩
          have h := h i52 ei52
          refine lv_iinc (v := i52) (lv' := [(2, .int i52), (1, .int (nI 1)), (4, .int i45), (3, .int i46), (0, .ref a0)]) hx hb dX8_addWay_76 hl (k := 3) rfl (by rw [ei52]; rfl) (by decide) rfl (fun ls hl => ?_)
          refine lv_goto (tgt := 4) hx hb dX8_addWay_79 (by decide) ?_
          exact ih4 (i52, (nI 1)) _ h (lv_sub hl [0, 1, 4] rfl)
    · have h := h.2 c47
      refine lv_iload_n hx hb dX8_addWay_24 rfl (lv_at hl 1 rfl) ?_
      refine lv_if_eq (tgt := 54) hx hb dX8_addWay_25 (by decide) (fun c53 => ?_) (fun c53 => ?_)
      · have h := h.1 c53
        refine lv_iconst (v := (nI 0)) hx hb dX8_addWay_54 (by decide) ?_
        refine lv_istore_n (lv' := [(3, .int (nI 0)), (4, .int i45), (2, .int i1), (1, .int i2), (0, .ref a0)]) hx hb dX8_addWay_55 rfl hl (by decide) rfl (fun ls hl => ?_)
        obtain ⟨i54, ei54⟩ : ∃ y : Int32, y = i45 + (nI 1) := ⟨_, rfl⟩
        have h := h i54 ei54
        refine lv_iinc (v := i54) (lv' := [(4, .int i54), (3, .int (nI 0)), (2, .int i1), (1, .int i2), (0, .ref a0)]) hx hb dX8_addWay_56 hl (k := 1) rfl (by rw [ei54]; rfl) (by decide) rfl (fun ls hl => ?_)
        refine lv_goto (tgt := 17) hx hb dX8_addWay_59 (by decide) ?_
        exact ih17 (i54, (nI 0)) _ h (lv_sub hl [0, 1, 2, 3, 4] rfl)
      · have h := h.2 c53
        refine lv_aload_n hx hb dX8_addWay_28 rfl (lv_at hl 4 rfl) ?_
        obtain ⟨fs55, a56, e57, e57', h⟩ := h
        refine r_get C hO 6 13 rfl inX8 (Nat.le_of_ble_eq_true rfl) e57 e57' (List.mem_of_getElem? (i := 2) (by decide +kernel)) dX8_addWay_29 ?_
        refine lv_bipush (v := (nI 12)) hx hb dX8_addWay_32 (by decide) ?_
        refine lv_iload_n hx hb dX8_addWay_34 rfl (lv_at hl 2 rfl) ?_
        refine lv_imul hx hb dX8_addWay_35 ?_
        refine lv_iload hx hb dX8_addWay_36 (lv_at hl 0 rfl) ?_
        refine lv_iadd hx hb dX8_addWay_38 ?_
        obtain ⟨n58, f59, i61, e60, e60', exi61, h⟩ := h
        refine r_iald C hO e60 e60' dX8_addWay_39 ?_
        rw [exi61]
        refine lv_aload_n hx hb dX8_addWay_40 rfl (lv_at hl 4 rfl) ?_
        obtain ⟨fs62, a63, e64, e64', h⟩ := h
        refine r_get C hO 6 11 rfl inX8 (Nat.le_of_ble_eq_true rfl) e64 e64' (List.mem_of_getElem? (i := 3) (by decide +kernel)) dX8_addWay_41 ?_
        refine lv_iload hx hb dX8_addWay_44 (lv_at hl 0 rfl) ?_
        obtain ⟨n65, f66, i68, e67, e67', exi68, h⟩ := h
        refine r_iald C hO e67 e67' dX8_addWay_46 ?_
        rw [exi68]
        refine lv_icmp_ne (tgt := 54) hx hb dX8_addWay_47 (by decide) (fun c69 => ?_) (fun c69 => ?_)
        · have h := h.2 c69
          refine lv_iconst (v := (nI 0)) hx hb dX8_addWay_54 (by decide) ?_
          refine lv_istore_n (lv' := [(3, .int (nI 0)), (4, .int i45), (2, .int i1), (1, .int i2), (0, .ref a0)]) hx hb dX8_addWay_55 rfl hl (by decide) rfl (fun ls hl => ?_)
          obtain ⟨i70, ei70⟩ : ∃ y : Int32, y = i45 + (nI 1) := ⟨_, rfl⟩
          have h := h i70 ei70
          refine lv_iinc (v := i70) (lv' := [(4, .int i70), (3, .int (nI 0)), (2, .int i1), (1, .int i2), (0, .ref a0)]) hx hb dX8_addWay_56 hl (k := 1) rfl (by rw [ei70]; rfl) (by decide) rfl (fun ls hl => ?_)
          refine lv_goto (tgt := 17) hx hb dX8_addWay_59 (by decide) ?_
          exact ih17 (i70, (nI 0)) _ h (lv_sub hl [0, 1, 2, 3, 4] rfl)
        · have h := h.1 c69
          refine lv_iconst (v := (nI 1)) hx hb dX8_addWay_50 (by decide) ?_
          refine lv_goto (tgt := 55) hx hb dX8_addWay_51 (by decide) ?_
          refine lv_istore_n (lv' := [(3, .int (nI 1)), (4, .int i45), (2, .int i1), (1, .int i2), (0, .ref a0)]) hx hb dX8_addWay_55 rfl hl (by decide) rfl (fun ls hl => ?_)
          obtain ⟨i71, ei71⟩ : ∃ y : Int32, y = i45 + (nI 1) := ⟨_, rfl⟩
          have h := h i71 ei71
          refine lv_iinc (v := i71) (lv' := [(4, .int i71), (3, .int (nI 1)), (2, .int i1), (1, .int i2), (0, .ref a0)]) hx hb dX8_addWay_56 hl (k := 1) rfl (by rw [ei71]; rfl) (by decide) rfl (fun ls hl => ?_)
          refine lv_goto (tgt := 17) hx hb dX8_addWay_59 (by decide) ?_
          exact ih17 (i71, (nI 1)) _ h (lv_sub hl [0, 1, 2, 3, 4] rfl)
theorem hdS_X8_ways : yX8_ways.cls ≠ "java/lang/invoke/MethodHandle" ∧ yX8_ways.cls ≠ "java/lang/invoke/VarHandle" ∧ (parseMethodDescriptor yX8_ways.desc).map (fun d => d.parameters.length) = some 1 := by decide +kernel
set_option maxHeartbeats 4000000 in
set_option maxRecDepth 100000 in
theorem c_X8_ways (l : Launch) (D : va_G) (Y : Nat → ClassId) (L : List Nat) (S : PS) (sz : Nat) (a0 : Nat) (v1 : Int32) (Post : Int32 → PS → Prop) (h : wp_X8_ways S a0 v1 Post) : Met l yX8_ways wsX8_ways ({ frames := 4, cells := 0, slots := 0, locals := 93 }) (va_Pc [.ref a0, .int v1] (PrO D Y L S sz)) (va_Qi Post (QtO D Y (fR L sz)) (fR L sz)) 0 0 (fR L sz) := by
  refine Met.ofW (cc := cX8_ways) (maxL := 5) (ret := (some .int)) (by decide) rfl ?_
  intro p e s m args below meth c s₁ B hml hv
  obtain ⟨rfl, hsz, hJ, hP, hK, hD0, hZ⟩ := hv
  have hx := B.exec
  have hb := B.bytes
  have hr := B.returns
  have hts := atoms_spec (ws := wsX8_ways) B.pre
  have hown : s.vm.findClass RX8 = some m.cls := findClass_of_methodNamed B.named
  have hlocks := B.notSynchronized
  have CF : CallFix p m c cX8_ways 5 s ([.ref a0, .int v1] : List Value).toArray wsX8_ways RX8 := ⟨hx, hb, hml, hown, hts⟩
  have C : CX p m c cX8_ways 5 s ([.ref a0, .int v1] : List Value).toArray wsX8_ways RX8 D Y := ⟨CF, hK, hZ⟩
  have hO : HO D Y (fR L sz) s.heap S s.heap [] := HO.entry hsz hJ hP hD0
  subst hsz
  have inX8 : ∀ w ∈ wsX80, w ∈ wsX8_ways := fun w h => List.mem_cons_of_mem _ (List.mem_append_right _ h)
  have hl := lv_entry ([.ref a0, .int v1]) (n := 5) (Nat.le_of_ble_eq_true rfl)
  rw [lg_entry_eq]
  generalize (lg_sl ([.ref a0, .int v1]) ++ List.replicate (5 - (lg_sl ([.ref a0, .int v1])).length) Slot.unset).toArray = ls at hl ⊢
  have hl : lv_has ls 5 [(0, .ref a0), (1, .int v1)] := hl
  unfold wp_X8_ways at h
  refine lv_iload_n hx hb dX8_ways_0 rfl (lv_at hl 1 rfl) ?_
  refine cS_si (As := [.int v1]) (rest := []) (n := 1) CF hZ (c_X8_areDrafts l v1 _ h) (va_cwS 1 hts gX8_ways_X8_areDrafts rfl rfl rfl hdS_X8_areDrafts ⟨Nat.le_of_ble_eq_true rfl, Nat.le_of_ble_eq_true rfl⟩) rfl hl.1 rfl (Nat.le_of_ble_eq_true rfl) dX8_ways_1 ⟨Nat.le_of_ble_eq_true rfl, Nat.le_of_ble_eq_true rfl⟩ (fun i1 h => ?_)
  refine lv_if_ne (tgt := 10) hx hb dX8_ways_4 (by decide) (fun c2 => ?_) (fun c2 => ?_)
  · have h := h.2 c2
    refine lv_aload_n hx hb dX8_ways_10 rfl (lv_at hl 0 rfl) ?_
    obtain ⟨fs5, e4, h⟩ := h
    refine cV_wv (As := []) (rest := []) (n := 0) C hO (fun L => c_X8_layAll l D Y L S s.heap.size a0 _ h) 6 rfl e4 (cwV 0 hts gX8_ways_X8_layAll rfl rfl rfl ⟨rfl, hdS_X8_layAll⟩ ⟨Nat.le_of_ble_eq_true rfl, Nat.le_of_ble_eq_true rfl⟩) rfl hl.1 rfl (Nat.le_of_ble_eq_true rfl) dX8_ways_11 ⟨Nat.le_of_ble_eq_true rfl, Nat.le_of_ble_eq_true rfl⟩ (fun S3 H locs h hO => ?_)
    refine lv_aload_n hx hb dX8_ways_14 rfl (lv_at hl 0 rfl) ?_
    refine lv_iconst (v := (nI 0)) hx hb dX8_ways_15 (by decide) ?_
    obtain ⟨fs6, e7, e7', h⟩ := h
    refine r_put C hO 6 14 rfl inX8 tyX8_ok nmX8 (Nat.le_of_ble_eq_true rfl) rfl rfl rfl e7 e7' (List.mem_of_getElem? (i := 1) (by decide +kernel)) dX8_ways_16 (fun H locs hO => ?_)
    obtain ⟨S8, eS8⟩ : ∃ Sx, Sx = va_up S3 a0 (.inl (6, fs6.set 14 (.int (nI 0)))) := ⟨_, rfl⟩
    rw [← eS8] at hO
    have h := h S8 eS8
    refine lv_iconst (v := (nI 0)) hx hb dX8_ways_19 (by decide) ?_
    refine lv_istore_n (lv' := [(2, .int (nI 0)), (0, .ref a0), (1, .int v1)]) hx hb dX8_ways_20 rfl hl (by decide) rfl (fun ls hl => ?_)
    obtain ⟨n80, h⟩ := h
    refine lp_W (nL := 5) (fun q => [(2, .int q.1), (0, .ref a0), (1, .int v1)]) (fun q => q.2) h (lv_sub hl [0, 1, 2] rfl) hO (fun K21 ih21 q ls H locs h hl hO => ?_)
    obtain ⟨i9, S10⟩ := q
    have h : wpb_X8_ways_21 a0 v1 Post K21 i9 S10 := h
    have hl : lv_has ls 5 [(2, .int i9), (0, .ref a0), (1, .int v1)] := hl
    have hO : HO D Y (fR L s.heap.size) s.heap S10 H locs := hO
    unfold wpb_X8_ways_21 at h
    refine lv_iload_n hx hb dX8_ways_21 rfl (lv_at hl 0 rfl) ?_
    refine lv_bipush (v := (nI 12)) hx hb dX8_ways_22 (by decide) ?_
    refine lv_icmp_ge (tgt := 40) hx hb dX8_ways_24 (by decide) (fun c11 => ?_) (fun c11 => ?_)
    · have h := h.1 c11
      refine lv_aload_n hx hb dX8_ways_40 rfl (lv_at hl 1 rfl) ?_
      obtain ⟨fs14, e13, h⟩ := h
      refine cV_wv (As := []) (rest := []) (n := 0) C hO (fun L => c_X8_addWay l D Y L S10 H.size a0 _ h) 6 rfl e13 (cwV 0 hts gX8_ways_X8_addWay rfl rfl rfl ⟨rfl, hdS_X8_addWay⟩ ⟨Nat.le_of_ble_eq_true rfl, Nat.le_of_ble_eq_true rfl⟩) rfl hl.1 rfl (Nat.le_of_ble_eq_true rfl) dX8_ways_41 ⟨Nat.le_of_ble_eq_true rfl, Nat.le_of_ble_eq_true rfl⟩ (fun S12 H locs h hO => ?_)
      refine lv_iconst (v := (nI 0)) hx hb dX8_ways_44 (by decide) ?_
      refine lv_istore_n (lv' := [(2, .int (nI 0)), (0, .ref a0), (1, .int v1)]) hx hb dX8_ways_45 rfl hl (by decide) rfl (fun ls hl => ?_)
      obtain ⟨n71, h⟩ := h
      refine lp_W (nL := 5) (fun q => [(2, .int q.1), (0, .ref a0), (1, .int v1)]) (fun q => q.2) h (lv_sub hl [0, 1, 2] rfl) hO (fun K46 ih46 q ls H locs h hl hO => ?_)
      obtain ⟨i15, S16⟩ := q
      have h : wpb_X8_ways_46 a0 v1 Post K46 i15 S16 := h
      have hl : lv_has ls 5 [(2, .int i15), (0, .ref a0), (1, .int v1)] := hl
      have hO : HO D Y (fR L s.heap.size) s.heap S16 H locs := hO
      unfold wpb_X8_ways_46 at h
      refine lv_iload_n hx hb dX8_ways_46 rfl (lv_at hl 0 rfl) ?_
      refine lv_aload_n hx hb dX8_ways_47 rfl (lv_at hl 1 rfl) ?_
      obtain ⟨fs17, i18, e19, e19', h⟩ := h
      refine r_get C hO 6 14 rfl inX8 (Nat.le_of_ble_eq_true rfl) e19 e19' (List.mem_of_getElem? (i := 1) (by decide +kernel)) dX8_ways_48 ?_
      refine cut_W D Y (fR L s.heap.size) s.heap (nL := 5) (fun (q : PS) => wpk_X8_ways_147 a0 Post q) (fun q => [(0, .ref a0)]) (fun q => q) 147 ?_ (fun kc147 => ?_)
      · intro q ls H locs h hl hO
        obtain ⟨S20, rfl⟩ : ∃ z, z = q := ⟨q, rfl⟩
        have h : wpk_X8_ways_147 a0 Post S20 := h
        have hl : lv_has ls 5 [(0, .ref a0)] := hl
        have hO : HO D Y (fR L s.heap.size) s.heap S20 H locs := hO
        unfold wpk_X8_ways_147 at h
        refine lv_aload_n hx hb dX8_ways_147 rfl (lv_at hl 0 rfl) ?_
        obtain ⟨fs21, i22, e23, e23', h⟩ := h
        refine r_get C hO 6 14 rfl inX8 (Nat.le_of_ble_eq_true rfl) e23 e23' (List.mem_of_getElem? (i := 1) (by decide +kernel)) dX8_ways_148 ?_
        refine lv_sipush (v := (nI 300)) hx hb dX8_ways_151 (by decide) ?_
        refine lv_icmp_le (tgt := 162) hx hb dX8_ways_154 (by decide) (fun c24 => ?_) (fun c24 => ?_)
        · have h := h.1 c24
          refine lv_aload_n hx hb dX8_ways_162 rfl (lv_at hl 0 rfl) ?_
          obtain ⟨fs25, i26, e27, e27', h⟩ := h
          refine r_get C hO 6 14 rfl inX8 (Nat.le_of_ble_eq_true rfl) e27 e27' (List.mem_of_getElem? (i := 1) (by decide +kernel)) dX8_ways_163 ?_
          exact W.iret hx hb hr (fun t ht hW => ⟨⟨i26, S20, rfl, h, hO.q ht⟩, hO.f ht⟩) hO.lc dX8_ways_166
        · have h := h.2 c24
          refine lv_bipush (v := (-6 : Int32)) hx hb dX8_ways_157 (by decide) ?_
          refine lv_goto (tgt := 166) hx hb dX8_ways_159 (by decide) ?_
          exact W.iret hx hb hr (fun t ht hW => ⟨⟨(-6 : Int32), S20, rfl, h, hO.q ht⟩, hO.f ht⟩) hO.lc dX8_ways_166
      refine lv_icmp_ge (tgt := 147) hx hb dX8_ways_51 (by decide) (fun c28 => ?_) (fun c28 => ?_)
      · have h := h.1 c28
        exact kc147 S16 _ _ _ h (lv_sub hl [1] rfl) hO
      · have h := h.2 c28
        refine lv_aload_n hx hb dX8_ways_54 rfl (lv_at hl 1 rfl) ?_
        obtain ⟨fs29, i30, e31, e31', h⟩ := h
        refine r_get C hO 6 14 rfl inX8 (Nat.le_of_ble_eq_true rfl) e31 e31' (List.mem_of_getElem? (i := 1) (by decide +kernel)) dX8_ways_55 ?_
        refine lv_sipush (v := (nI 300)) hx hb dX8_ways_58 (by decide) ?_
        refine lv_icmp_gt (tgt := 147) hx hb dX8_ways_61 (by decide) (fun c32 => ?_) (fun c32 => ?_)
        · have h := h.1 c32
          exact kc147 S16 _ _ _ h (lv_sub hl [1] rfl) hO
        · have h := h.2 c32
          refine lv_iconst (v := (nI 0)) hx hb dX8_ways_64 (by decide) ?_
          refine lv_istore_n (lv' := [(3, .int (nI 0)), (2, .int i15), (0, .ref a0), (1, .int v1)]) hx hb dX8_ways_65 rfl hl (by decide) rfl (fun ls hl => ?_)
          obtain ⟨n70, h⟩ := h
          refine lp_W (nL := 5) (fun q => [(3, .int q.1), (2, .int i15), (0, .ref a0), (1, .int v1)]) (fun q => q.2) h (lv_sub hl [0, 1, 2, 3] rfl) hO (fun K66 ih66 q ls H locs h hl hO => ?_)
          obtain ⟨i33, S34⟩ := q
          have h : wpb_X8_ways_66 a0 v1 i15 K46 K66 i33 S34 := h
          have hl : lv_has ls 5 [(3, .int i33), (2, .int i15), (0, .ref a0), (1, .int v1)] := hl
          have hO : HO D Y (fR L s.heap.size) s.heap S34 H locs := hO
          unfold wpb_X8_ways_66 at h
          refine lv_iload_n hx hb dX8_ways_66 rfl (lv_at hl 0 rfl) ?_
          refine lv_bipush (v := (nI 6)) hx hb dX8_ways_67 (by decide) ?_
          refine cut_W D Y (fR L s.heap.size) s.heap (nL := 5) (fun (q : PS) => wpk_X8_ways_141 i15 K46 q) (fun q => [(2, .int i15), (0, .ref a0), (1, .int v1)]) (fun q => q) 141 ?_ (fun kc141 => ?_)
          · intro q ls H locs h hl hO
            obtain ⟨S35, rfl⟩ : ∃ z, z = q := ⟨q, rfl⟩
            have h : wpk_X8_ways_141 i15 K46 S35 := h
            have hl : lv_has ls 5 [(2, .int i15), (0, .ref a0), (1, .int v1)] := hl
            have hO : HO D Y (fR L s.heap.size) s.heap S35 H locs := hO
            unfold wpk_X8_ways_141 at h
            obtain ⟨i36, ei36⟩ : ∃ y : Int32, y = i15 + (nI 1) := ⟨_, rfl⟩
            have h := h i36 ei36
            refine lv_iinc (v := i36) (lv' := [(2, .int i36), (0, .ref a0), (1, .int v1)]) hx hb dX8_ways_141 hl (k := 0) rfl (by rw [ei36]; rfl) (by decide) rfl (fun ls hl => ?_)
            refine lv_goto (tgt := 46) hx hb dX8_ways_144 (by decide) ?_
            exact ih46 (i36, S35) _ _ _ h (lv_sub hl [0, 1, 2] rfl) hO
          refine lv_icmp_ge (tgt := 141) hx hb dX8_ways_69 (by decide) (fun c37 => ?_) (fun c37 => ?_)
          · have h := h.1 c37
            exact kc141 S34 _ _ _ h (lv_sub hl [1, 2, 3] rfl) hO
          · have h := h.2 c37
            refine lv_aload_n hx hb dX8_ways_72 rfl (lv_at hl 2 rfl) ?_
            obtain ⟨fs38, i39, e40, e40', h⟩ := h
            refine r_get C hO 6 14 rfl inX8 (Nat.le_of_ble_eq_true rfl) e40 e40' (List.mem_of_getElem? (i := 1) (by decide +kernel)) dX8_ways_73 ?_
            refine lv_sipush (v := (nI 300)) hx hb dX8_ways_76 (by decide) ?_
            refine lv_icmp_gt (tgt := 141) hx hb dX8_ways_79 (by decide) (fun c41 => ?_) (fun c41 => ?_)
            · have h := h.1 c41
              exact kc141 S34 _ _ _ h (lv_sub hl [1, 2, 3] rfl) hO
            · have h := h.2 c41
              refine lv_iload_n hx hb dX8_ways_82 rfl (lv_at hl 3 rfl) ?_
              refine lv_iload_n hx hb dX8_ways_83 rfl (lv_at hl 0 rfl) ?_
              refine lv_ishr hx hb dX8_ways_84 ?_
              refine lv_iconst (v := (nI 1)) hx hb dX8_ways_85 (by decide) ?_
              refine lv_iand hx hb dX8_ways_86 ?_
              refine lv_iconst (v := (nI 1)) hx hb dX8_ways_87 (by decide) ?_
              refine lv_icmp_ne (tgt := 135) hx hb dX8_ways_88 (by decide) (fun c42 => ?_) (fun c42 => ?_)
              · have h := h.2 c42
                obtain ⟨i43, ei43⟩ : ∃ y : Int32, y = i33 + (nI 1) := ⟨_, rfl⟩
                have h := h i43 ei43
                refine lv_iinc (v := i43) (lv' := [(3, .int i43), (2, .int i15), (0, .ref a0), (1, .int v1)]) hx hb dX8_ways_135 hl (k := 0) rfl (by rw [ei43]; rfl) (by decide) rfl (fun ls hl => ?_)
                refine lv_goto (tgt := 66) hx hb dX8_ways_138 (by decide) ?_
                exact ih66 (i43, S34) _ _ _ h (lv_sub hl [0, 1, 2, 3] rfl) hO
              · have h := h.1 c42
                refine lv_iconst (v := (nI 0)) hx hb dX8_ways_91 (by decide) ?_
                refine lv_istore (lv' := [(4, .int (nI 0)), (3, .int i33), (2, .int i15), (0, .ref a0), (1, .int v1)]) hx hb dX8_ways_92 hl (by decide) rfl (fun ls hl => ?_)
                obtain ⟨n69, h⟩ := h
                refine lp_W (nL := 5) (fun q => [(4, .int q.1), (3, .int i33), (2, .int i15), (0, .ref a0), (1, .int v1)]) (fun q => q.2) h (lv_sub hl [0, 1, 2, 3, 4] rfl) hO (fun K94 ih94 q ls H locs h hl hO => ?_)
                obtain ⟨i44, S45⟩ := q
                have h : wpb_X8_ways_94 a0 i15 i33 K66 K94 i44 S45 := h
                have hl : lv_has ls 5 [(4, .int i44), (3, .int i33), (2, .int i15), (0, .ref a0), (1, .int v1)] := hl
                have hO : HO D Y (fR L s.heap.size) s.heap S45 H locs := hO
                unfold wpb_X8_ways_94 at h
                refine lv_iload hx hb dX8_ways_94 (lv_at hl 0 rfl) ?_
                refine lv_bipush (v := (nI 12)) hx hb dX8_ways_96 (by decide) ?_
                refine lv_icmp_ge (tgt := 131) hx hb dX8_ways_98 (by decide) (fun c46 => ?_) (fun c46 => ?_)
                · have h := h.1 c46
                  refine lv_aload_n hx hb dX8_ways_131 rfl (lv_at hl 3 rfl) ?_
                  obtain ⟨fs49, e48, h⟩ := h
                  refine cV_wv (As := []) (rest := []) (n := 0) C hO (fun L => c_X8_addWay l D Y L S45 H.size a0 _ h) 6 rfl e48 (cwV 0 hts gX8_ways_X8_addWay rfl rfl rfl ⟨rfl, hdS_X8_addWay⟩ ⟨Nat.le_of_ble_eq_true rfl, Nat.le_of_ble_eq_true rfl⟩) rfl hl.1 rfl (Nat.le_of_ble_eq_true rfl) dX8_ways_132 ⟨Nat.le_of_ble_eq_true rfl, Nat.le_of_ble_eq_true rfl⟩ (fun S47 H locs h hO => ?_)
                  obtain ⟨i50, ei50⟩ : ∃ y : Int32, y = i33 + (nI 1) := ⟨_, rfl⟩
                  have h := h i50 ei50
                  refine lv_iinc (v := i50) (lv' := [(3, .int i50), (4, .int i44), (2, .int i15), (0, .ref a0), (1, .int v1)]) hx hb dX8_ways_135 hl (k := 1) rfl (by rw [ei50]; rfl) (by decide) rfl (fun ls hl => ?_)
                  refine lv_goto (tgt := 66) hx hb dX8_ways_138 (by decide) ?_
                  exact ih66 (i50, S47) _ _ _ h (lv_sub hl [0, 2, 3, 4] rfl) hO
                · have h := h.2 c46
                  refine lv_aload_n hx hb dX8_ways_101 rfl (lv_at hl 3 rfl) ?_
                  obtain ⟨fs51, a52, e53, e53', h⟩ := h
                  refine r_get C hO 6 11 rfl inX8 (Nat.le_of_ble_eq_true rfl) e53 e53' (List.mem_of_getElem? (i := 2) (by decide +kernel)) dX8_ways_102 ?_
                  refine lv_iload hx hb dX8_ways_105 (lv_at hl 0 rfl) ?_
                  refine lv_aload_n hx hb dX8_ways_107 rfl (lv_at hl 3 rfl) ?_
                  refine lv_iload_n hx hb dX8_ways_108 rfl (lv_at hl 1 rfl) ?_
                  refine lv_aload_n hx hb dX8_ways_109 rfl (lv_at hl 3 rfl) ?_
                  obtain ⟨fs54, a55, e56, e56', h⟩ := h
                  refine r_get C hO 6 13 rfl inX8 (Nat.le_of_ble_eq_true rfl) e56 e56' (List.mem_of_getElem? (i := 3) (by decide +kernel)) dX8_ways_110 ?_
                  refine lv_bipush (v := (nI 12)) hx hb dX8_ways_113 (by decide) ?_
                  refine lv_iload_n hx hb dX8_ways_115 rfl (lv_at hl 2 rfl) ?_
                  refine lv_imul hx hb dX8_ways_116 ?_
                  refine lv_iload hx hb dX8_ways_117 (lv_at hl 0 rfl) ?_
                  refine lv_iadd hx hb dX8_ways_119 ?_
                  obtain ⟨n57, f58, i60, e59, e59', exi60, h⟩ := h
                  refine r_iald C hO e59 e59' dX8_ways_120 ?_
                  rw [exi60]
                  obtain ⟨fs63, e62, h⟩ := h
                  refine cV_ri (As := [.int i33, .int i60]) (rest := [.int i44, .ref a52]) (n := 2) C hO (fun L => c_X8_comesBy l D Y L S45 H.size a0 i33 i60 _ h) 6 rfl e62 (cwV 2 hts gX8_ways_X8_comesBy rfl rfl rfl ⟨rfl, hdS_X8_comesBy⟩ ⟨Nat.le_of_ble_eq_true rfl, Nat.le_of_ble_eq_true rfl⟩) rfl hl.1 rfl (Nat.le_of_ble_eq_true rfl) dX8_ways_121 ⟨Nat.le_of_ble_eq_true rfl, Nat.le_of_ble_eq_true rfl⟩ (fun i61 h => ?_)
                  obtain ⟨n64, f65, e66, e66', h⟩ := h
                  refine r_iast C hO e66 e66' dX8_ways_124 (fun H locs hO => ?_)
                  obtain ⟨S67, eS67⟩ : ∃ Sx, Sx = va_up S45 a52 (aI n64 (upd f65 (i44).toNatClampNeg i61)) := ⟨_, rfl⟩
                  rw [← eS67] at hO
                  have h := h S67 eS67
                  obtain ⟨i68, ei68⟩ : ∃ y : Int32, y = i44 + (nI 1) := ⟨_, rfl⟩
                  have h := h i68 ei68
                  refine lv_iinc (v := i68) (lv' := [(4, .int i68), (3, .int i33), (2, .int i15), (0, .ref a0), (1, .int v1)]) hx hb dX8_ways_125 hl (k := 0) rfl (by rw [ei68]; rfl) (by decide) rfl (fun ls hl => ?_)
                  refine lv_goto (tgt := 94) hx hb dX8_ways_128 (by decide) ?_
                  exact ih94 (i68, S67) _ _ _ h (lv_sub hl [0, 1, 2, 3, 4] rfl) hO
    · have h := h.2 c11
      refine lv_aload_n hx hb dX8_ways_27 rfl (lv_at hl 1 rfl) ?_
      obtain ⟨fs72, a73, e74, e74', h⟩ := h
      refine r_get C hO 6 11 rfl inX8 (Nat.le_of_ble_eq_true rfl) e74 e74' (List.mem_of_getElem? (i := 2) (by decide +kernel)) dX8_ways_28 ?_
      refine lv_iload_n hx hb dX8_ways_31 rfl (lv_at hl 0 rfl) ?_
      refine lv_iload_n hx hb dX8_ways_32 rfl (lv_at hl 0 rfl) ?_
      obtain ⟨n75, f76, e77, e77', h⟩ := h
      refine r_iast C hO e77 e77' dX8_ways_33 (fun H locs hO => ?_)
      obtain ⟨S78, eS78⟩ : ∃ Sx, Sx = va_up S10 a73 (aI n75 (upd f76 (i9).toNatClampNeg i9)) := ⟨_, rfl⟩
      rw [← eS78] at hO
      have h := h S78 eS78
      obtain ⟨i79, ei79⟩ : ∃ y : Int32, y = i9 + (nI 1) := ⟨_, rfl⟩
      have h := h i79 ei79
      refine lv_iinc (v := i79) (lv' := [(2, .int i79), (0, .ref a0), (1, .int v1)]) hx hb dX8_ways_34 hl (k := 0) rfl (by rw [ei79]; rfl) (by decide) rfl (fun ls hl => ?_)
      refine lv_goto (tgt := 21) hx hb dX8_ways_37 (by decide) ?_
      exact ih21 (i79, S78) _ _ _ h (lv_sub hl [0, 1, 2] rfl) hO
  · have h := h.1 c2
    refine lv_bipush (v := (-2 : Int32)) hx hb dX8_ways_7 (by decide) ?_
    exact W.iret hx hb hr (fun t ht hW => ⟨⟨(-2 : Int32), S, rfl, h, hO.q ht⟩, hO.f ht⟩) hO.lc dX8_ways_9
theorem hdS_X8_untilHome : yX8_untilHome.cls ≠ "java/lang/invoke/MethodHandle" ∧ yX8_untilHome.cls ≠ "java/lang/invoke/VarHandle" ∧ (parseMethodDescriptor yX8_untilHome.desc).map (fun d => d.parameters.length) = some 1 := by decide +kernel
set_option maxHeartbeats 4000000 in
set_option maxRecDepth 100000 in
theorem c_X8_untilHome (l : Launch) (D : va_G) (Y : Nat → ClassId) (L : List Nat) (S : PS) (sz : Nat) (a0 : Nat) (v1 : Int32) (Post : Int32 → PS → Prop) (h : wp_X8_untilHome S a0 v1 Post) : Met l yX8_untilHome wsX8_untilHome ({ frames := 3, cells := 0, slots := 0, locals := 72 }) (va_Pc [.ref a0, .int v1] (PrO D Y L S sz)) (va_Qi Post (QtO D Y (fR L sz)) (fR L sz)) 0 0 (fR L sz) := by
  refine Met.ofW (cc := cX8_untilHome) (maxL := 4) (ret := (some .int)) (by decide) rfl ?_
  intro p e s m args below meth c s₁ B hml hv
  obtain ⟨rfl, hsz, hJ, hP, hK, hD0, hZ⟩ := hv
  have hx := B.exec
  have hb := B.bytes
  have hr := B.returns
  have hts := atoms_spec (ws := wsX8_untilHome) B.pre
  have hown : s.vm.findClass RX8 = some m.cls := findClass_of_methodNamed B.named
  have hlocks := B.notSynchronized
  have CF : CallFix p m c cX8_untilHome 4 s ([.ref a0, .int v1] : List Value).toArray wsX8_untilHome RX8 := ⟨hx, hb, hml, hown, hts⟩
  have C : CX p m c cX8_untilHome 4 s ([.ref a0, .int v1] : List Value).toArray wsX8_untilHome RX8 D Y := ⟨CF, hK, hZ⟩
  have hO : HO D Y (fR L sz) s.heap S s.heap [] := HO.entry hsz hJ hP hD0
  subst hsz
  have hl := lv_entry ([.ref a0, .int v1]) (n := 4) (Nat.le_of_ble_eq_true rfl)
  rw [lg_entry_eq]
  generalize (lg_sl ([.ref a0, .int v1]) ++ List.replicate (4 - (lg_sl ([.ref a0, .int v1])).length) Slot.unset).toArray = ls at hl ⊢
  have hl : lv_has ls 4 [(0, .ref a0), (1, .int v1)] := hl
  unfold wp_X8_untilHome at h
  refine lv_iload_n hx hb dX8_untilHome_0 rfl (lv_at hl 1 rfl) ?_
  refine cS_si (As := [.int v1]) (rest := []) (n := 1) CF hZ (c_X8_isDraft l v1 _ h) (va_cwS 1 hts gX8_untilHome_X8_isDraft rfl rfl rfl hdS_X8_isDraft ⟨Nat.le_of_ble_eq_true rfl, Nat.le_of_ble_eq_true rfl⟩) rfl hl.1 rfl (Nat.le_of_ble_eq_true rfl) dX8_untilHome_1 ⟨Nat.le_of_ble_eq_true rfl, Nat.le_of_ble_eq_true rfl⟩ (fun i1 h => ?_)
  refine lv_if_ne (tgt := 9) hx hb dX8_untilHome_4 (by decide) (fun c2 => ?_) (fun c2 => ?_)
  · have h := h.2 c2
    refine lv_aload_n hx hb dX8_untilHome_9 rfl (lv_at hl 0 rfl) ?_
    refine lv_iload_n hx hb dX8_untilHome_10 rfl (lv_at hl 1 rfl) ?_
    obtain ⟨fs5, e4, h⟩ := h
    refine cV_wv (As := [.int v1]) (rest := []) (n := 1) C hO (fun L => c_X8_lay l D Y L S s.heap.size a0 v1 _ h) 6 rfl e4 (cwV 1 hts gX8_untilHome_X8_lay rfl rfl rfl ⟨rfl, hdS_X8_lay⟩ ⟨Nat.le_of_ble_eq_true rfl, Nat.le_of_ble_eq_true rfl⟩) rfl hl.1 rfl (Nat.le_of_ble_eq_true rfl) dX8_untilHome_11 ⟨Nat.le_of_ble_eq_true rfl, Nat.le_of_ble_eq_true rfl⟩ (fun S3 H locs h hO => ?_)
    refine lv_aload_n hx hb dX8_untilHome_14 rfl (lv_at hl 0 rfl) ?_
    refine lv_iload_n hx hb dX8_untilHome_15 rfl (lv_at hl 1 rfl) ?_
    obtain ⟨fs8, e7, h⟩ := h
    refine cV_ri (As := [.int v1]) (rest := []) (n := 1) C hO (fun L => c_X8_orderOf l D Y L S3 H.size a0 v1 _ h) 6 rfl e7 (cwV 1 hts gX8_untilHome_X8_orderOf rfl rfl rfl ⟨rfl, hdS_X8_orderOf⟩ ⟨Nat.le_of_ble_eq_true rfl, Nat.le_of_ble_eq_true rfl⟩) rfl hl.1 rfl (Nat.le_of_ble_eq_true rfl) dX8_untilHome_16 ⟨Nat.le_of_ble_eq_true rfl, Nat.le_of_ble_eq_true rfl⟩ (fun i6 h => ?_)
    refine lv_istore_n (lv' := [(2, .int i6), (0, .ref a0), (1, .int v1)]) hx hb dX8_untilHome_19 rfl hl (by decide) rfl (fun ls hl => ?_)
    refine lv_aload_n hx hb dX8_untilHome_20 rfl (lv_at hl 1 rfl) ?_
    obtain ⟨fs11, e10, h⟩ := h
    refine cV_wv (As := []) (rest := []) (n := 0) C hO (fun L => c_X8_takeThreads l D Y L S3 H.size a0 _ h) 6 rfl e10 (cwV 0 hts gX8_untilHome_X8_takeThreads rfl rfl rfl ⟨rfl, hdS_X8_takeThreads⟩ ⟨Nat.le_of_ble_eq_true rfl, Nat.le_of_ble_eq_true rfl⟩) rfl hl.1 rfl (Nat.le_of_ble_eq_true rfl) dX8_untilHome_21 ⟨Nat.le_of_ble_eq_true rfl, Nat.le_of_ble_eq_true rfl⟩ (fun S9 H locs h hO => ?_)
    refine lv_iconst (v := (nI 0)) hx hb dX8_untilHome_24 (by decide) ?_
    refine lv_istore_n (lv' := [(3, .int (nI 0)), (2, .int i6), (0, .ref a0), (1, .int v1)]) hx hb dX8_untilHome_25 rfl hl (by decide) rfl (fun ls hl => ?_)
    obtain ⟨n25, h⟩ := h
    refine lp_W (nL := 4) (fun q => [(3, .int q.1), (2, .int i6), (0, .ref a0), (1, .int v1)]) (fun q => q.2) h (lv_sub hl [0, 1, 2, 3] rfl) hO (fun K26 ih26 q ls H locs h hl hO => ?_)
    obtain ⟨i12, S13⟩ := q
    have h : wpb_X8_untilHome_26 a0 v1 i6 Post K26 i12 S13 := h
    have hl : lv_has ls 4 [(3, .int i12), (2, .int i6), (0, .ref a0), (1, .int v1)] := hl
    have hO : HO D Y (fR L s.heap.size) s.heap S13 H locs := hO
    unfold wpb_X8_untilHome_26 at h
    refine lv_iload_n hx hb dX8_untilHome_26 rfl (lv_at hl 0 rfl) ?_
    refine lv_iload_n hx hb dX8_untilHome_27 rfl (lv_at hl 1 rfl) ?_
    refine lv_icmp_ge (tgt := 51) hx hb dX8_untilHome_28 (by decide) (fun c14 => ?_) (fun c14 => ?_)
    · have h := h.1 c14
      refine lv_iload_n hx hb dX8_untilHome_51 rfl (lv_at hl 0 rfl) ?_
      refine lv_iload_n hx hb dX8_untilHome_52 rfl (lv_at hl 1 rfl) ?_
      refine lv_icmp_ge (tgt := 60) hx hb dX8_untilHome_53 (by decide) (fun c15 => ?_) (fun c15 => ?_)
      · have h := h.1 c15
        refine lv_bipush (v := (-6 : Int32)) hx hb dX8_untilHome_60 (by decide) ?_
        exact W.iret hx hb hr (fun t ht hW => ⟨⟨(-6 : Int32), S13, rfl, h, hO.q ht⟩, hO.f ht⟩) hO.lc dX8_untilHome_62
      · have h := h.2 c15
        refine lv_iload_n hx hb dX8_untilHome_56 rfl (lv_at hl 0 rfl) ?_
        refine lv_goto (tgt := 62) hx hb dX8_untilHome_57 (by decide) ?_
        exact W.iret hx hb hr (fun t ht hW => ⟨⟨i12, S13, rfl, h, hO.q ht⟩, hO.f ht⟩) hO.lc dX8_untilHome_62
    · have h := h.2 c14
      refine lv_aload_n hx hb dX8_untilHome_31 rfl (lv_at hl 2 rfl) ?_
      obtain ⟨fs18, e17, h⟩ := h
      refine cV_ri (As := []) (rest := []) (n := 0) C hO (fun L => c_X8_homeNow l D Y L S13 H.size a0 _ h) 6 rfl e17 (cwV 0 hts gX8_untilHome_X8_homeNow rfl rfl rfl ⟨rfl, hdS_X8_homeNow⟩ ⟨Nat.le_of_ble_eq_true rfl, Nat.le_of_ble_eq_true rfl⟩) rfl hl.1 rfl (Nat.le_of_ble_eq_true rfl) dX8_untilHome_32 ⟨Nat.le_of_ble_eq_true rfl, Nat.le_of_ble_eq_true rfl⟩ (fun i16 h => ?_)
      refine lv_bipush (v := (nI 12)) hx hb dX8_untilHome_35 (by decide) ?_
      refine lv_icmp_ge (tgt := 51) hx hb dX8_untilHome_37 (by decide) (fun c19 => ?_) (fun c19 => ?_)
      · have h := h.1 c19
        refine lv_iload_n hx hb dX8_untilHome_51 rfl (lv_at hl 0 rfl) ?_
        refine lv_iload_n hx hb dX8_untilHome_52 rfl (lv_at hl 1 rfl) ?_
        refine lv_icmp_ge (tgt := 60) hx hb dX8_untilHome_53 (by decide) (fun c20 => ?_) (fun c20 => ?_)
        · have h := h.1 c20
          refine lv_bipush (v := (-6 : Int32)) hx hb dX8_untilHome_60 (by decide) ?_
          exact W.iret hx hb hr (fun t ht hW => ⟨⟨(-6 : Int32), S13, rfl, h, hO.q ht⟩, hO.f ht⟩) hO.lc dX8_untilHome_62
        · have h := h.2 c20
          refine lv_iload_n hx hb dX8_untilHome_56 rfl (lv_at hl 0 rfl) ?_
          refine lv_goto (tgt := 62) hx hb dX8_untilHome_57 (by decide) ?_
          exact W.iret hx hb hr (fun t ht hW => ⟨⟨i12, S13, rfl, h, hO.q ht⟩, hO.f ht⟩) hO.lc dX8_untilHome_62
      · have h := h.2 c19
        refine lv_aload_n hx hb dX8_untilHome_40 rfl (lv_at hl 2 rfl) ?_
        refine lv_iload_n hx hb dX8_untilHome_41 rfl (lv_at hl 3 rfl) ?_
        obtain ⟨fs23, e22, h⟩ := h
        refine cV_wv (As := [.int v1]) (rest := []) (n := 1) C hO (fun L => c_X8_weaveOnce l D Y L S13 H.size a0 v1 _ h) 6 rfl e22 (cwV 1 hts gX8_untilHome_X8_weaveOnce rfl rfl rfl ⟨rfl, hdS_X8_weaveOnce⟩ ⟨Nat.le_of_ble_eq_true rfl, Nat.le_of_ble_eq_true rfl⟩) rfl hl.1 rfl (Nat.le_of_ble_eq_true rfl) dX8_untilHome_42 ⟨Nat.le_of_ble_eq_true rfl, Nat.le_of_ble_eq_true rfl⟩ (fun S21 H locs h hO => ?_)
        obtain ⟨i24, ei24⟩ : ∃ y : Int32, y = i12 + (nI 1) := ⟨_, rfl⟩
        have h := h i24 ei24
        refine lv_iinc (v := i24) (lv' := [(3, .int i24), (2, .int i6), (0, .ref a0), (1, .int v1)]) hx hb dX8_untilHome_45 hl (k := 0) rfl (by rw [ei24]; rfl) (by decide) rfl (fun ls hl => ?_)
        refine lv_goto (tgt := 26) hx hb dX8_untilHome_48 (by decide) ?_
        exact ih26 (i24, S21) _ _ _ h (lv_sub hl [0, 1, 2, 3] rfl) hO
  · have h := h.1 c2
    refine lv_iconst (v := (-1 : Int32)) hx hb dX8_untilHome_7 (by decide) ?_
    exact W.iret hx hb hr (fun t ht hW => ⟨⟨(-1 : Int32), S, rfl, h, hO.q ht⟩, hO.f ht⟩) hO.lc dX8_untilHome_8
theorem hdS_X8_bestDraft : yX8_bestDraft.cls ≠ "java/lang/invoke/MethodHandle" ∧ yX8_bestDraft.cls ≠ "java/lang/invoke/VarHandle" ∧ (parseMethodDescriptor yX8_bestDraft.desc).map (fun d => d.parameters.length) = some 1 := by decide +kernel
set_option maxHeartbeats 4000000 in
set_option maxRecDepth 100000 in
theorem c_X8_bestDraft (l : Launch) (D : va_G) (Y : Nat → ClassId) (L : List Nat) (S : PS) (sz : Nat) (a0 : Nat) (v1 : Int32) (Post : Int32 → PS → Prop) (h : wp_X8_bestDraft S a0 v1 Post) : Met l yX8_bestDraft wsX8_bestDraft ({ frames := 3, cells := 0, slots := 0, locals := 72 }) (va_Pc [.ref a0, .int v1] (PrO D Y L S sz)) (va_Qi Post (QtO D Y (fR L sz)) (fR L sz)) 0 0 (fR L sz) := by
  refine Met.ofW (cc := cX8_bestDraft) (maxL := 5) (ret := (some .int)) (by decide) rfl ?_
  intro p e s m args below meth c s₁ B hml hv
  obtain ⟨rfl, hsz, hJ, hP, hK, hD0, hZ⟩ := hv
  have hx := B.exec
  have hb := B.bytes
  have hr := B.returns
  have hts := atoms_spec (ws := wsX8_bestDraft) B.pre
  have hown : s.vm.findClass RX8 = some m.cls := findClass_of_methodNamed B.named
  have hlocks := B.notSynchronized
  have CF : CallFix p m c cX8_bestDraft 5 s ([.ref a0, .int v1] : List Value).toArray wsX8_bestDraft RX8 := ⟨hx, hb, hml, hown, hts⟩
  have C : CX p m c cX8_bestDraft 5 s ([.ref a0, .int v1] : List Value).toArray wsX8_bestDraft RX8 D Y := ⟨CF, hK, hZ⟩
  have hO : HO D Y (fR L sz) s.heap S s.heap [] := HO.entry hsz hJ hP hD0
  subst hsz
  have hl := lv_entry ([.ref a0, .int v1]) (n := 5) (Nat.le_of_ble_eq_true rfl)
  rw [lg_entry_eq]
  generalize (lg_sl ([.ref a0, .int v1]) ++ List.replicate (5 - (lg_sl ([.ref a0, .int v1])).length) Slot.unset).toArray = ls at hl ⊢
  have hl : lv_has ls 5 [(0, .ref a0), (1, .int v1)] := hl
  unfold wp_X8_bestDraft at h
  refine lv_iload_n hx hb dX8_bestDraft_0 rfl (lv_at hl 1 rfl) ?_
  refine lv_iconst (v := (nI 0)) hx hb dX8_bestDraft_1 (by decide) ?_
  refine lv_iconst (v := (nI 1)) hx hb dX8_bestDraft_2 (by decide) ?_
  refine cS_si (As := [.int v1, .int (nI 0), .int (nI 1)]) (rest := []) (n := 3) CF hZ (c_X8_within l v1 (nI 0) (nI 1) _ h) (va_cwS 3 hts gX8_bestDraft_X8_within rfl rfl rfl hdS_X8_within ⟨Nat.le_of_ble_eq_true rfl, Nat.le_of_ble_eq_true rfl⟩) rfl hl.1 rfl (Nat.le_of_ble_eq_true rfl) dX8_bestDraft_3 ⟨Nat.le_of_ble_eq_true rfl, Nat.le_of_ble_eq_true rfl⟩ (fun i1 h => ?_)
  refine lv_if_ne (tgt := 12) hx hb dX8_bestDraft_6 (by decide) (fun c2 => ?_) (fun c2 => ?_)
  · have h := h.2 c2
    refine lv_iconst (v := (nI 0)) hx hb dX8_bestDraft_12 (by decide) ?_
    refine lv_istore_n (lv' := [(2, .int (nI 0)), (0, .ref a0), (1, .int v1)]) hx hb dX8_bestDraft_13 rfl hl (by decide) rfl (fun ls hl => ?_)
    refine lv_iconst (v := (-1 : Int32)) hx hb dX8_bestDraft_14 (by decide) ?_
    refine lv_istore_n (lv' := [(3, .int (-1 : Int32)), (2, .int (nI 0)), (0, .ref a0), (1, .int v1)]) hx hb dX8_bestDraft_15 rfl hl (by decide) rfl (fun ls hl => ?_)
    refine lv_iconst (v := (nI 0)) hx hb dX8_bestDraft_16 (by decide) ?_
    refine lv_istore (lv' := [(4, .int (nI 0)), (3, .int (-1 : Int32)), (2, .int (nI 0)), (0, .ref a0), (1, .int v1)]) hx hb dX8_bestDraft_17 hl (by decide) rfl (fun ls hl => ?_)
    obtain ⟨n40, h⟩ := h
    refine lp_W (nL := 5) (fun q => [(4, .int q.1), (3, .int q.2.1), (2, .int q.2.2.1), (0, .ref a0), (1, .int v1)]) (fun q => q.2.2.2) h (lv_sub hl [0, 1, 2, 3, 4] rfl) hO (fun K19 ih19 q ls H locs h hl hO => ?_)
    obtain ⟨i3, i4, i5, S6⟩ := q
    have h : wpb_X8_bestDraft_19 a0 v1 Post K19 i3 i4 i5 S6 := h
    have hl : lv_has ls 5 [(4, .int i3), (3, .int i4), (2, .int i5), (0, .ref a0), (1, .int v1)] := hl
    have hO : HO D Y (fR L s.heap.size) s.heap S6 H locs := hO
    unfold wpb_X8_bestDraft_19 at h
    refine lv_iload hx hb dX8_bestDraft_19 (lv_at hl 0 rfl) ?_
    refine lv_bipush (v := (nI 6)) hx hb dX8_bestDraft_21 (by decide) ?_
    refine lv_icmp_ge (tgt := 80) hx hb dX8_bestDraft_23 (by decide) (fun c7 => ?_) (fun c7 => ?_)
    · have h := h.1 c7
      refine lv_iload_n hx hb dX8_bestDraft_80 rfl (lv_at hl 4 rfl) ?_
      refine lv_if_ne (tgt := 88) hx hb dX8_bestDraft_81 (by decide) (fun c8 => ?_) (fun c8 => ?_)
      · have h := h.2 c8
        refine lv_iload_n hx hb dX8_bestDraft_88 rfl (lv_at hl 1 rfl) ?_
        exact W.iret hx hb hr (fun t ht hW => ⟨⟨i4, S6, rfl, h, hO.q ht⟩, hO.f ht⟩) hO.lc dX8_bestDraft_89
      · have h := h.1 c8
        refine lv_iload_n hx hb dX8_bestDraft_84 rfl (lv_at hl 2 rfl) ?_
        refine lv_goto (tgt := 89) hx hb dX8_bestDraft_85 (by decide) ?_
        exact W.iret hx hb hr (fun t ht hW => ⟨⟨i5, S6, rfl, h, hO.q ht⟩, hO.f ht⟩) hO.lc dX8_bestDraft_89
    · have h := h.2 c7
      refine lv_aload_n hx hb dX8_bestDraft_26 rfl (lv_at hl 3 rfl) ?_
      refine lv_iload hx hb dX8_bestDraft_27 (lv_at hl 0 rfl) ?_
      obtain ⟨fs11, e10, h⟩ := h
      refine cV_wv (As := [.int i3]) (rest := []) (n := 1) C hO (fun L => c_X8_lay l D Y L S6 H.size a0 i3 _ h) 6 rfl e10 (cwV 1 hts gX8_bestDraft_X8_lay rfl rfl rfl ⟨rfl, hdS_X8_lay⟩ ⟨Nat.le_of_ble_eq_true rfl, Nat.le_of_ble_eq_true rfl⟩) rfl hl.1 rfl (Nat.le_of_ble_eq_true rfl) dX8_bestDraft_29 ⟨Nat.le_of_ble_eq_true rfl, Nat.le_of_ble_eq_true rfl⟩ (fun S9 H locs h hO => ?_)
      refine lv_aload_n hx hb dX8_bestDraft_32 rfl (lv_at hl 3 rfl) ?_
      obtain ⟨fs14, e13, h⟩ := h
      refine cV_wv (As := []) (rest := []) (n := 0) C hO (fun L => c_X8_takeThreads l D Y L S9 H.size a0 _ h) 6 rfl e13 (cwV 0 hts gX8_bestDraft_X8_takeThreads rfl rfl rfl ⟨rfl, hdS_X8_takeThreads⟩ ⟨Nat.le_of_ble_eq_true rfl, Nat.le_of_ble_eq_true rfl⟩) rfl hl.1 rfl (Nat.le_of_ble_eq_true rfl) dX8_bestDraft_33 ⟨Nat.le_of_ble_eq_true rfl, Nat.le_of_ble_eq_true rfl⟩ (fun S12 H locs h hO => ?_)
      refine lv_aload_n hx hb dX8_bestDraft_36 rfl (lv_at hl 3 rfl) ?_
      refine lv_iload hx hb dX8_bestDraft_37 (lv_at hl 0 rfl) ?_
      obtain ⟨fs17, e16, h⟩ := h
      refine cV_wv (As := [.int i3]) (rest := []) (n := 1) C hO (fun L => c_X8_weaveOnce l D Y L S12 H.size a0 i3 _ h) 6 rfl e16 (cwV 1 hts gX8_bestDraft_X8_weaveOnce rfl rfl rfl ⟨rfl, hdS_X8_weaveOnce⟩ ⟨Nat.le_of_ble_eq_true rfl, Nat.le_of_ble_eq_true rfl⟩) rfl hl.1 rfl (Nat.le_of_ble_eq_true rfl) dX8_bestDraft_39 ⟨Nat.le_of_ble_eq_true rfl, Nat.le_of_ble_eq_true rfl⟩ (fun S15 H locs h hO => ?_)
      refine lv_aload_n hx hb dX8_bestDraft_42 rfl (lv_at hl 3 rfl) ?_
      obtain ⟨fs20, e19, h⟩ := h
      refine cV_ri (As := []) (rest := []) (n := 0) C hO (fun L => c_X8_homeNow l D Y L S15 H.size a0 _ h) 6 rfl e19 (cwV 0 hts gX8_bestDraft_X8_homeNow rfl rfl rfl ⟨rfl, hdS_X8_homeNow⟩ ⟨Nat.le_of_ble_eq_true rfl, Nat.le_of_ble_eq_true rfl⟩) rfl hl.1 rfl (Nat.le_of_ble_eq_true rfl) dX8_bestDraft_43 ⟨Nat.le_of_ble_eq_true rfl, Nat.le_of_ble_eq_true rfl⟩ (fun i18 h => ?_)
      refine lv_iload_n hx hb dX8_bestDraft_46 rfl (lv_at hl 1 rfl) ?_
      refine lv_icmp_le (tgt := 55) hx hb dX8_bestDraft_47 (by decide) (fun c21 => ?_) (fun c21 => ?_)
      · have h := h.1 c21
        refine lv_iload_n hx hb dX8_bestDraft_55 rfl (lv_at hl 2 rfl) ?_
        refine lv_istore_n (lv' := [(2, .int i5), (4, .int i3), (3, .int i4), (0, .ref a0), (1, .int v1)]) hx hb dX8_bestDraft_56 rfl hl (by decide) rfl (fun ls hl => ?_)
        refine lv_aload_n hx hb dX8_bestDraft_57 rfl (lv_at hl 3 rfl) ?_
        obtain ⟨fs24, e23, h⟩ := h
        refine cV_ri (As := []) (rest := []) (n := 0) C hO (fun L => c_X8_homeNow l D Y L S15 H.size a0 _ h) 6 rfl e23 (cwV 0 hts gX8_bestDraft_X8_homeNow rfl rfl rfl ⟨rfl, hdS_X8_homeNow⟩ ⟨Nat.le_of_ble_eq_true rfl, Nat.le_of_ble_eq_true rfl⟩) rfl hl.1 rfl (Nat.le_of_ble_eq_true rfl) dX8_bestDraft_58 ⟨Nat.le_of_ble_eq_true rfl, Nat.le_of_ble_eq_true rfl⟩ (fun i22 h => ?_)
        refine lv_iload_n hx hb dX8_bestDraft_61 rfl (lv_at hl 2 rfl) ?_
        refine lv_icmp_le (tgt := 72) hx hb dX8_bestDraft_62 (by decide) (fun c25 => ?_) (fun c25 => ?_)
        · have h := h.1 c25
          refine lv_iload_n hx hb dX8_bestDraft_72 rfl (lv_at hl 2 rfl) ?_
          refine lv_istore_n (lv' := [(3, .int i4), (2, .int i5), (4, .int i3), (0, .ref a0), (1, .int v1)]) hx hb dX8_bestDraft_73 rfl hl (by decide) rfl (fun ls hl => ?_)
          obtain ⟨i26, ei26⟩ : ∃ y : Int32, y = i3 + (nI 1) := ⟨_, rfl⟩
          have h := h i26 ei26
          refine lv_iinc (v := i26) (lv' := [(4, .int i26), (3, .int i4), (2, .int i5), (0, .ref a0), (1, .int v1)]) hx hb dX8_bestDraft_74 hl (k := 2) rfl (by rw [ei26]; rfl) (by decide) rfl (fun ls hl => ?_)
          refine lv_goto (tgt := 19) hx hb dX8_bestDraft_77 (by decide) ?_
          exact ih19 (i26, i4, i5, S15) _ _ _ h (lv_sub hl [0, 1, 2, 3, 4] rfl) hO
        · have h := h.2 c25
          refine lv_aload_n hx hb dX8_bestDraft_65 rfl (lv_at hl 3 rfl) ?_
          obtain ⟨fs29, e28, h⟩ := h
          refine cV_ri (As := []) (rest := []) (n := 0) C hO (fun L => c_X8_homeNow l D Y L S15 H.size a0 _ h) 6 rfl e28 (cwV 0 hts gX8_bestDraft_X8_homeNow rfl rfl rfl ⟨rfl, hdS_X8_homeNow⟩ ⟨Nat.le_of_ble_eq_true rfl, Nat.le_of_ble_eq_true rfl⟩) rfl hl.1 rfl (Nat.le_of_ble_eq_true rfl) dX8_bestDraft_66 ⟨Nat.le_of_ble_eq_true rfl, Nat.le_of_ble_eq_true rfl⟩ (fun i27 h => ?_)
          refine lv_goto (tgt := 73) hx hb dX8_bestDraft_69 (by decide) ?_
          refine lv_istore_n (lv' := [(3, .int i27), (2, .int i5), (4, .int i3), (0, .ref a0), (1, .int v1)]) hx hb dX8_bestDraft_73 rfl hl (by decide) rfl (fun ls hl => ?_)
          obtain ⟨i30, ei30⟩ : ∃ y : Int32, y = i3 + (nI 1) := ⟨_, rfl⟩
          have h := h i30 ei30
          refine lv_iinc (v := i30) (lv' := [(4, .int i30), (3, .int i27), (2, .int i5), (0, .ref a0), (1, .int v1)]) hx hb dX8_bestDraft_74 hl (k := 2) rfl (by rw [ei30]; rfl) (by decide) rfl (fun ls hl => ?_)
          refine lv_goto (tgt := 19) hx hb dX8_bestDraft_77 (by decide) ?_
          exact ih19 (i30, i27, i5, S15) _ _ _ h (lv_sub hl [0, 1, 2, 3, 4] rfl) hO
      · have h := h.2 c21
        refine lv_iload hx hb dX8_bestDraft_50 (lv_at hl 0 rfl) ?_
        refine lv_goto (tgt := 56) hx hb dX8_bestDraft_52 (by decide) ?_
        refine lv_istore_n (lv' := [(2, .int i3), (4, .int i3), (3, .int i4), (0, .ref a0), (1, .int v1)]) hx hb dX8_bestDraft_56 rfl hl (by decide) rfl (fun ls hl => ?_)
        refine lv_aload_n hx hb dX8_bestDraft_57 rfl (lv_at hl 3 rfl) ?_
        obtain ⟨fs33, e32, h⟩ := h
        refine cV_ri (As := []) (rest := []) (n := 0) C hO (fun L => c_X8_homeNow l D Y L S15 H.size a0 _ h) 6 rfl e32 (cwV 0 hts gX8_bestDraft_X8_homeNow rfl rfl rfl ⟨rfl, hdS_X8_homeNow⟩ ⟨Nat.le_of_ble_eq_true rfl, Nat.le_of_ble_eq_true rfl⟩) rfl hl.1 rfl (Nat.le_of_ble_eq_true rfl) dX8_bestDraft_58 ⟨Nat.le_of_ble_eq_true rfl, Nat.le_of_ble_eq_true rfl⟩ (fun i31 h => ?_)
        refine lv_iload_n hx hb dX8_bestDraft_61 rfl (lv_at hl 2 rfl) ?_
        refine lv_icmp_le (tgt := 72) hx hb dX8_bestDraft_62 (by decide) (fun c34 => ?_) (fun c34 => ?_)
        · have h := h.1 c34
          refine lv_iload_n hx hb dX8_bestDraft_72 rfl (lv_at hl 2 rfl) ?_
          refine lv_istore_n (lv' := [(3, .int i4), (2, .int i3), (4, .int i3), (0, .ref a0), (1, .int v1)]) hx hb dX8_bestDraft_73 rfl hl (by decide) rfl (fun ls hl => ?_)
          obtain ⟨i35, ei35⟩ : ∃ y : Int32, y = i3 + (nI 1) := ⟨_, rfl⟩
          have h := h i35 ei35
          refine lv_iinc (v := i35) (lv' := [(4, .int i35), (3, .int i4), (2, .int i3), (0, .ref a0), (1, .int v1)]) hx hb dX8_bestDraft_74 hl (k := 2) rfl (by rw [ei35]; rfl) (by decide) rfl (fun ls hl => ?_)
          refine lv_goto (tgt := 19) hx hb dX8_bestDraft_77 (by decide) ?_
          exact ih19 (i35, i4, i3, S15) _ _ _ h (lv_sub hl [0, 1, 2, 3, 4] rfl) hO
        · have h := h.2 c34
          refine lv_aload_n hx hb dX8_bestDraft_65 rfl (lv_at hl 3 rfl) ?_
          obtain ⟨fs38, e37, h⟩ := h
          refine cV_ri (As := []) (rest := []) (n := 0) C hO (fun L => c_X8_homeNow l D Y L S15 H.size a0 _ h) 6 rfl e37 (cwV 0 hts gX8_bestDraft_X8_homeNow rfl rfl rfl ⟨rfl, hdS_X8_homeNow⟩ ⟨Nat.le_of_ble_eq_true rfl, Nat.le_of_ble_eq_true rfl⟩) rfl hl.1 rfl (Nat.le_of_ble_eq_true rfl) dX8_bestDraft_66 ⟨Nat.le_of_ble_eq_true rfl, Nat.le_of_ble_eq_true rfl⟩ (fun i36 h => ?_)
          refine lv_goto (tgt := 73) hx hb dX8_bestDraft_69 (by decide) ?_
          refine lv_istore_n (lv' := [(3, .int i36), (2, .int i3), (4, .int i3), (0, .ref a0), (1, .int v1)]) hx hb dX8_bestDraft_73 rfl hl (by decide) rfl (fun ls hl => ?_)
          obtain ⟨i39, ei39⟩ : ∃ y : Int32, y = i3 + (nI 1) := ⟨_, rfl⟩
          have h := h i39 ei39
          refine lv_iinc (v := i39) (lv' := [(4, .int i39), (3, .int i36), (2, .int i3), (0, .ref a0), (1, .int v1)]) hx hb dX8_bestDraft_74 hl (k := 2) rfl (by rw [ei39]; rfl) (by decide) rfl (fun ls hl => ?_)
          refine lv_goto (tgt := 19) hx hb dX8_bestDraft_77 (by decide) ?_
          exact ih19 (i39, i36, i3, S15) _ _ _ h (lv_sub hl [0, 1, 2, 3, 4] rfl) hO
  · have h := h.1 c2
    refine lv_bipush (v := (-2 : Int32)) hx hb dX8_bestDraft_9 (by decide) ?_
    exact W.iret hx hb hr (fun t ht hW => ⟨⟨(-2 : Int32), S, rfl, h, hO.q ht⟩, hO.f ht⟩) hO.lc dX8_bestDraft_11
theorem hdS_X8_codeAt : yX8_codeAt.cls ≠ "java/lang/invoke/MethodHandle" ∧ yX8_codeAt.cls ≠ "java/lang/invoke/VarHandle" ∧ (parseMethodDescriptor yX8_codeAt.desc).map (fun d => d.parameters.length) = some 2 := by decide +kernel
set_option maxHeartbeats 4000000 in
set_option maxRecDepth 100000 in
theorem c_X8_codeAt (l : Launch) (v0 : Int64) (v2 : Int32) (Post : Int32 → Prop) (h : wp_X8_codeAt v0 v2 Post) : Met l yX8_codeAt wsX8_codeAt ({ frames := 0, cells := 0, slots := 0, locals := 0 }) (va_Pc [.long v0, .int v2] NZ) (vp_Si Post) 0 0 (fun _ => False) := by
  refine Met.ofW (cc := cX8_codeAt) (maxL := 3) (ret := (some .int)) (by decide) rfl ?_
  intro p e s m args below meth c s₁ B hml hv
  obtain ⟨rfl, hZ⟩ := hv
  have hx := B.exec
  have hb := B.bytes
  have hr := B.returns
  have hts := atoms_spec (ws := wsX8_codeAt) B.pre
  have hown : s.vm.findClass RX8 = some m.cls := findClass_of_methodNamed B.named
  have hlocks := B.notSynchronized
  have CF : CallFix p m c cX8_codeAt 3 s ([.long v0, .int v2] : List Value).toArray wsX8_codeAt RX8 := ⟨hx, hb, hml, hown, hts⟩
  have hl := lv_entry ([.long v0, .int v2]) (n := 3) (Nat.le_of_ble_eq_true rfl)
  rw [lg_entry_eq]
  generalize (lg_sl ([.long v0, .int v2]) ++ List.replicate (3 - (lg_sl ([.long v0, .int v2])).length) Slot.unset).toArray = ls at hl ⊢
  have hl : lv_has ls 3 [(0, .long v0), (2, .int v2)] := hl
  unfold wp_X8_codeAt at h
  refine lv_lload_n hx hb dX8_codeAt_0 rfl (lv_at hl 0 rfl) ?_
  refine lv_bipush (v := (nI 8)) hx hb dX8_codeAt_1 (by decide) ?_
  refine lv_iload_n hx hb dX8_codeAt_3 rfl (lv_at hl 1 rfl) ?_
  refine lv_imul hx hb dX8_codeAt_4 ?_
  refine lv_lushr (v := (uShrL v0 ((nI 8) * v2))) hx hb dX8_codeAt_5 rfl ?_
  refine lv_ldc2 hx hb hown (hts _ (List.mem_of_getElem? (i := 1) (by decide +kernel : wsX8_codeAt[1]? = some (Cond.constantLong RX8 161 (255))))) dX8_codeAt_6 ?_
  refine lv_land hx hb dX8_codeAt_9 ?_
  refine lv_l2i (v := (((uShrL v0 ((nI 8) * v2)) &&& (255 : Int64))).toInt32) hx hb dX8_codeAt_10 rfl ?_
  exact W.iret hx hb hr (fun t ht hW => ⟨(((uShrL v0 ((nI 8) * v2)) &&& (255 : Int64))).toInt32, rfl, h, ht⟩) no_locs dX8_codeAt_11
theorem hdS_X8_charactersIn : yX8_charactersIn.cls ≠ "java/lang/invoke/MethodHandle" ∧ yX8_charactersIn.cls ≠ "java/lang/invoke/VarHandle" ∧ (parseMethodDescriptor yX8_charactersIn.desc).map (fun d => d.parameters.length) = some 1 := by decide +kernel
set_option maxHeartbeats 4000000 in
set_option maxRecDepth 100000 in
theorem c_X8_charactersIn (l : Launch) (v0 : Int64) (Post : Int32 → Prop) (h : wp_X8_charactersIn v0 Post) : Met l yX8_charactersIn wsX8_charactersIn ({ frames := 1, cells := 0, slots := 0, locals := 22 }) (va_Pc [.long v0] NZ) (vp_Si Post) 0 0 (fun _ => False) := by
  refine Met.ofW (cc := cX8_charactersIn) (maxL := 5) (ret := (some .int)) (by decide) rfl ?_
  intro p e s m args below meth c s₁ B hml hv
  obtain ⟨rfl, hZ⟩ := hv
  have hx := B.exec
  have hb := B.bytes
  have hr := B.returns
  have hts := atoms_spec (ws := wsX8_charactersIn) B.pre
  have hown : s.vm.findClass RX8 = some m.cls := findClass_of_methodNamed B.named
  have hlocks := B.notSynchronized
  have CF : CallFix p m c cX8_charactersIn 5 s ([.long v0] : List Value).toArray wsX8_charactersIn RX8 := ⟨hx, hb, hml, hown, hts⟩
  have hl := lv_entry ([.long v0]) (n := 5) (Nat.le_of_ble_eq_true rfl)
  rw [lg_entry_eq]
  generalize (lg_sl ([.long v0]) ++ List.replicate (5 - (lg_sl ([.long v0])).length) Slot.unset).toArray = ls at hl ⊢
  have hl : lv_has ls 5 [(0, .long v0)] := hl
  unfold wp_X8_charactersIn at h
  refine lv_iconst (v := (nI 0)) hx hb dX8_charactersIn_0 (by decide) ?_
  refine lv_istore_n (lv' := [(2, .int (nI 0)), (0, .long v0)]) hx hb dX8_charactersIn_1 rfl hl (by decide) rfl (fun ls hl => ?_)
  obtain ⟨n21, h⟩ := h
  refine lp_P (nL := 5) (fun q => [(2, .int q), (0, .long v0)]) h (lv_sub hl [0, 1] rfl) (fun K2 ih2 q ls h hl => ?_)
  obtain ⟨i1, rfl⟩ : ∃ z, z = q := ⟨q, rfl⟩
  have h : wpb_X8_charactersIn_2 v0 Post K2 i1 := h
  have hl : lv_has ls 5 [(2, .int i1), (0, .long v0)] := hl
  unfold wpb_X8_charactersIn_2 at h
  refine lv_iload_n hx hb dX8_charactersIn_2 rfl (lv_at hl 0 rfl) ?_
  refine lv_bipush (v := (nI 8)) hx hb dX8_charactersIn_3 (by decide) ?_
  refine cut_P (nL := 5) (fun (q : Int32) => wpk_X8_charactersIn_22 v0 Post q) (fun q => [(2, .int q), (0, .long v0)]) 22 ?_ (fun kc22 => ?_)
  · intro q ls h hl
    obtain ⟨i2, rfl⟩ : ∃ z, z = q := ⟨q, rfl⟩
    have h : wpk_X8_charactersIn_22 v0 Post i2 := h
    have hl : lv_has ls 5 [(2, .int i2), (0, .long v0)] := hl
    unfold wpk_X8_charactersIn_22 at h
    refine lv_iload_n hx hb dX8_charactersIn_22 rfl (lv_at hl 0 rfl) ?_
    refine lv_bipush (v := (nI 8)) hx hb dX8_charactersIn_23 (by decide) ?_
    refine cut_P (nL := 5) (fun (q : Int32) => wpk_X8_charactersIn_45 v0 i2 Post q) (fun q => [(2, .int i2), (0, .long v0), (3, .int q)]) 45 ?_ (fun kc45 => ?_)
    · intro q ls h hl
      obtain ⟨i3, rfl⟩ : ∃ z, z = q := ⟨q, rfl⟩
      have h : wpk_X8_charactersIn_45 v0 i2 Post i3 := h
      have hl : lv_has ls 5 [(2, .int i2), (0, .long v0), (3, .int i3)] := hl
      unfold wpk_X8_charactersIn_45 at h
      refine lv_iconst (v := (nI 0)) hx hb dX8_charactersIn_45 (by decide) ?_
      refine lv_istore (lv' := [(4, .int (nI 0)), (2, .int i2), (0, .long v0), (3, .int i3)]) hx hb dX8_charactersIn_46 hl (by decide) rfl (fun ls hl => ?_)
      obtain ⟨n14, h⟩ := h
      refine lp_P (nL := 5) (fun q => [(4, .int q.1), (2, .int i2), (0, .long v0), (3, .int q.2)]) h (lv_sub hl [0, 1, 2, 3] rfl) (fun K48 ih48 q ls h hl => ?_)
      obtain ⟨i4, i5⟩ := q
      have h : wpb_X8_charactersIn_48 v0 i2 Post K48 i4 i5 := h
      have hl : lv_has ls 5 [(4, .int i4), (2, .int i2), (0, .long v0), (3, .int i5)] := hl
      unfold wpb_X8_charactersIn_48 at h
      refine lv_iload hx hb dX8_charactersIn_48 (lv_at hl 0 rfl) ?_
      refine lv_iload_n hx hb dX8_charactersIn_50 rfl (lv_at hl 1 rfl) ?_
      refine lv_icmp_ge (tgt := 86) hx hb dX8_charactersIn_51 (by decide) (fun c6 => ?_) (fun c6 => ?_)
      · have h := h.1 c6
        refine lv_iload_n hx hb dX8_charactersIn_86 rfl (lv_at hl 3 rfl) ?_
        refine lv_if_eq (tgt := 94) hx hb dX8_charactersIn_87 (by decide) (fun c7 => ?_) (fun c7 => ?_)
        · have h := h.1 c7
          refine lv_iconst (v := (nI 0)) hx hb dX8_charactersIn_94 (by decide) ?_
          exact W.iret hx hb hr (fun t ht hW => ⟨(nI 0), rfl, h, ht⟩) no_locs dX8_charactersIn_95
        · have h := h.2 c7
          refine lv_iload_n hx hb dX8_charactersIn_90 rfl (lv_at hl 1 rfl) ?_
          refine lv_goto (tgt := 95) hx hb dX8_charactersIn_91 (by decide) ?_
          exact W.iret hx hb hr (fun t ht hW => ⟨i2, rfl, h, ht⟩) no_locs dX8_charactersIn_95
      · have h := h.2 c6
        refine lv_iload_n hx hb dX8_charactersIn_54 rfl (lv_at hl 3 rfl) ?_
        refine cut_P (nL := 5) (fun (q : Int32) => wpk_X8_charactersIn_80 i4 K48 q) (fun q => [(4, .int i4), (2, .int i2), (0, .long v0), (3, .int q)]) 80 ?_ (fun kc80 => ?_)
        · intro q ls h hl
          obtain ⟨i8, rfl⟩ : ∃ z, z = q := ⟨q, rfl⟩
          have h : wpk_X8_charactersIn_80 i4 K48 i8 := h
          have hl : lv_has ls 5 [(4, .int i4), (2, .int i2), (0, .long v0), (3, .int i8)] := hl
          unfold wpk_X8_charactersIn_80 at h
          obtain ⟨i9, ei9⟩ : ∃ y : Int32, y = i4 + (nI 1) := ⟨_, rfl⟩
          have h := h i9 ei9
          refine lv_iinc (v := i9) (lv' := [(4, .int i9), (2, .int i2), (0, .long v0), (3, .int i8)]) hx hb dX8_charactersIn_80 hl (k := 0) rfl (by rw [ei9]; rfl) (by decide) rfl (fun ls hl => ?_)
          refine lv_goto (tgt := 48) hx hb dX8_charactersIn_83 (by decide) ?_
          exact ih48 (i9, i8) _ h (lv_sub hl [0, 1, 2, 3] rfl)
        refine lv_if_eq (tgt := 78) hx hb dX8_charactersIn_55 (by decide) (fun c10 => ?_) (fun c10 => ?_)
        · have h := h.1 c10
          refine lv_iconst (v := (nI 0)) hx hb dX8_charactersIn_78 (by decide) ?_
          refine lv_istore_n (lv' := [(3, .int (nI 0)), (4, .int i4), (2, .int i2), (0, .long v0)]) hx hb dX8_charactersIn_79 rfl hl (by decide) rfl (fun ls hl => ?_)
          exact kc80 (nI 0) _ h (lv_sub hl [1, 2, 3, 0] rfl)
        · have h := h.2 c10
          refine lv_lload_n hx hb dX8_charactersIn_58 rfl (lv_at hl 2 rfl) ?_
          refine lv_iload hx hb dX8_charactersIn_59 (lv_at hl 0 rfl) ?_
          refine cS_si (As := [.long v0, .int i4]) (rest := []) (n := 2) CF hZ (c_X8_codeAt l v0 i4 _ h) (va_cwS 2 hts gX8_charactersIn_X8_codeAt rfl rfl rfl hdS_X8_codeAt ⟨Nat.le_of_ble_eq_true rfl, Nat.le_of_ble_eq_true rfl⟩) rfl hl.1 rfl (Nat.le_of_ble_eq_true rfl) dX8_charactersIn_61 ⟨Nat.le_of_ble_eq_true rfl, Nat.le_of_ble_eq_true rfl⟩ (fun i11 h => ?_)
          refine lv_bipush (v := (nI 33)) hx hb dX8_charactersIn_64 (by decide) ?_
          refine lv_bipush (v := (nI 126)) hx hb dX8_charactersIn_66 (by decide) ?_
          refine cS_si (As := [.int i11, .int (nI 33), .int (nI 126)]) (rest := []) (n := 3) CF hZ (c_X8_within l i11 (nI 33) (nI 126) _ h) (va_cwS 3 hts gX8_charactersIn_X8_within rfl rfl rfl hdS_X8_within ⟨Nat.le_of_ble_eq_true rfl, Nat.le_of_ble_eq_true rfl⟩) rfl hl.1 rfl (Nat.le_of_ble_eq_true rfl) dX8_charactersIn_68 ⟨Nat.le_of_ble_eq_true rfl, Nat.le_of_ble_eq_true rfl⟩ (fun i12 h => ?_)
          refine lv_if_eq (tgt := 78) hx hb dX8_charactersIn_71 (by decide) (fun c13 => ?_) (fun c13 => ?_)
          · have h := h.1 c13
            refine lv_iconst (v := (nI 0)) hx hb dX8_charactersIn_78 (by decide) ?_
            refine lv_istore_n (lv' := [(3, .int (nI 0)), (4, .int i4), (2, .int i2), (0, .long v0)]) hx hb dX8_charactersIn_79 rfl hl (by decide) rfl (fun ls hl => ?_)
            exact kc80 (nI 0) _ h (lv_sub hl [1, 2, 3, 0] rfl)
          · have h := h.2 c13
            refine lv_iconst (v := (nI 1)) hx hb dX8_charactersIn_74 (by decide) ?_
            refine lv_goto (tgt := 79) hx hb dX8_charactersIn_75 (by decide) ?_
            refine lv_istore_n (lv' := [(3, .int (nI 1)), (4, .int i4), (2, .int i2), (0, .long v0)]) hx hb dX8_charactersIn_79 rfl hl (by decide) rfl (fun ls hl => ?_)
            exact kc80 (nI 1) _ h (lv_sub hl [1, 2, 3, 0] rfl)
    refine lv_icmp_eq (tgt := 39) hx hb dX8_charactersIn_25 (by decide) (fun c15 => ?_) (fun c15 => ?_)
    · have h := h.1 c15
      refine lv_iconst (v := (nI 1)) hx hb dX8_charactersIn_39 (by decide) ?_
      refine lv_goto (tgt := 44) hx hb dX8_charactersIn_40 (by decide) ?_
      refine lv_istore_n (lv' := [(3, .int (nI 1)), (2, .int i2), (0, .long v0)]) hx hb dX8_charactersIn_44 rfl hl (by decide) rfl (fun ls hl => ?_)
      exact kc45 (nI 1) _ h (lv_sub hl [1, 2, 0] rfl)
    · have h := h.2 c15
      refine lv_lload_n hx hb dX8_charactersIn_28 rfl (lv_at hl 1 rfl) ?_
      refine lv_bipush (v := (nI 8)) hx hb dX8_charactersIn_29 (by decide) ?_
      refine lv_iload_n hx hb dX8_charactersIn_31 rfl (lv_at hl 0 rfl) ?_
      refine lv_imul hx hb dX8_charactersIn_32 ?_
      refine lv_lushr (v := (uShrL v0 ((nI 8) * i2))) hx hb dX8_charactersIn_33 rfl ?_
      refine lv_lconst (v := (lN 0)) hx hb dX8_charactersIn_34 (by decide) ?_
      refine W.lcmp hx hb dX8_charactersIn_35 ?_
      refine lv_if_ne (tgt := 43) hx hb dX8_charactersIn_36 (by decide) (fun c16 => ?_) (fun c16 => ?_)
      · have h := h.2 c16
        refine lv_iconst (v := (nI 0)) hx hb dX8_charactersIn_43 (by decide) ?_
        refine lv_istore_n (lv' := [(3, .int (nI 0)), (2, .int i2), (0, .long v0)]) hx hb dX8_charactersIn_44 rfl hl (by decide) rfl (fun ls hl => ?_)
        exact kc45 (nI 0) _ h (lv_sub hl [1, 2, 0] rfl)
      · have h := h.1 c16
        refine lv_iconst (v := (nI 1)) hx hb dX8_charactersIn_39 (by decide) ?_
        refine lv_goto (tgt := 44) hx hb dX8_charactersIn_40 (by decide) ?_
        refine lv_istore_n (lv' := [(3, .int (nI 1)), (2, .int i2), (0, .long v0)]) hx hb dX8_charactersIn_44 rfl hl (by decide) rfl (fun ls hl => ?_)
        exact kc45 (nI 1) _ h (lv_sub hl [1, 2, 0] rfl)
  refine lv_icmp_ge (tgt := 22) hx hb dX8_charactersIn_5 (by decide) (fun c17 => ?_) (fun c17 => ?_)
  · have h := h.1 c17
    exact kc22 i1 _ h (lv_sub hl [0, 1] rfl)
  · have h := h.2 c17
    refine lv_lload_n hx hb dX8_charactersIn_8 rfl (lv_at hl 1 rfl) ?_
    refine lv_iload_n hx hb dX8_charactersIn_9 rfl (lv_at hl 0 rfl) ?_
    refine cS_si (As := [.long v0, .int i1]) (rest := []) (n := 2) CF hZ (c_X8_codeAt l v0 i1 _ h) (va_cwS 2 hts gX8_charactersIn_X8_codeAt rfl rfl rfl hdS_X8_codeAt ⟨Nat.le_of_ble_eq_true rfl, Nat.le_of_ble_eq_true rfl⟩) rfl hl.1 rfl (Nat.le_of_ble_eq_true rfl) dX8_charactersIn_10 ⟨Nat.le_of_ble_eq_true rfl, Nat.le_of_ble_eq_true rfl⟩ (fun i18 h => ?_)
    refine lv_if_eq (tgt := 22) hx hb dX8_charactersIn_13 (by decide) (fun c19 => ?_) (fun c19 => ?_)
    · have h := h.1 c19
      exact kc22 i1 _ h (lv_sub hl [0, 1] rfl)
    · have h := h.2 c19
      obtain ⟨i20, ei20⟩ : ∃ y : Int32, y = i1 + (nI 1) := ⟨_, rfl⟩
      have h := h i20 ei20
      refine lv_iinc (v := i20) (lv' := [(2, .int i20), (0, .long v0)]) hx hb dX8_charactersIn_16 hl (k := 0) rfl (by rw [ei20]; rfl) (by decide) rfl (fun ls hl => ?_)
      refine lv_goto (tgt := 2) hx hb dX8_charactersIn_19 (by decide) ?_
      exact ih2 i20 _ h (lv_sub hl [0, 1] rfl)
theorem hdS_X8_write : yX8_write.cls ≠ "java/lang/invoke/MethodHandle" ∧ yX8_write.cls ≠ "java/lang/invoke/VarHandle" ∧ (parseMethodDescriptor yX8_write.desc).map (fun d => d.parameters.length) = some 1 := by decide +kernel
set_option maxHeartbeats 4000000 in
set_option maxRecDepth 100000 in
theorem c_X8_write (l : Launch) (D : va_G) (Y : Nat → ClassId) (L : List Nat) (S : PS) (sz : Nat) (a0 : Nat) (v1 : Int64) (Post : Int32 → PS → Prop) (h : wp_X8_write S a0 v1 Post) : Met l yX8_write wsX8_write ({ frames := 2, cells := 0, slots := 0, locals := 46 }) (va_Pc [.ref a0, .long v1] (PrO D Y L S sz)) (va_Qi Post (QtO D Y (fR L sz)) (fR L sz)) 0 0 (fR L sz) := by
  refine Met.ofW (cc := cX8_write) (maxL := 5) (ret := (some .int)) (by decide) rfl ?_
  intro p e s m args below meth c s₁ B hml hv
  obtain ⟨rfl, hsz, hJ, hP, hK, hD0, hZ⟩ := hv
  have hx := B.exec
  have hb := B.bytes
  have hr := B.returns
  have hts := atoms_spec (ws := wsX8_write) B.pre
  have hown : s.vm.findClass RX8 = some m.cls := findClass_of_methodNamed B.named
  have hlocks := B.notSynchronized
  have CF : CallFix p m c cX8_write 5 s ([.ref a0, .long v1] : List Value).toArray wsX8_write RX8 := ⟨hx, hb, hml, hown, hts⟩
  have C : CX p m c cX8_write 5 s ([.ref a0, .long v1] : List Value).toArray wsX8_write RX8 D Y := ⟨CF, hK, hZ⟩
  have hO : HO D Y (fR L sz) s.heap S s.heap [] := HO.entry hsz hJ hP hD0
  subst hsz
  have inX8 : ∀ w ∈ wsX80, w ∈ wsX8_write := fun w h => List.mem_cons_of_mem _ (List.mem_append_right _ h)
  have hl := lv_entry ([.ref a0, .long v1]) (n := 5) (Nat.le_of_ble_eq_true rfl)
  rw [lg_entry_eq]
  generalize (lg_sl ([.ref a0, .long v1]) ++ List.replicate (5 - (lg_sl ([.ref a0, .long v1])).length) Slot.unset).toArray = ls at hl ⊢
  have hl : lv_has ls 5 [(0, .ref a0), (1, .long v1)] := hl
  unfold wp_X8_write at h
  refine lv_lload_n hx hb dX8_write_0 rfl (lv_at hl 1 rfl) ?_
  refine cS_si (As := [.long v1]) (rest := []) (n := 1) CF hZ (c_X8_charactersIn l v1 _ h) (va_cwS 1 hts gX8_write_X8_charactersIn rfl rfl rfl hdS_X8_charactersIn ⟨Nat.le_of_ble_eq_true rfl, Nat.le_of_ble_eq_true rfl⟩) rfl hl.1 rfl (Nat.le_of_ble_eq_true rfl) dX8_write_1 ⟨Nat.le_of_ble_eq_true rfl, Nat.le_of_ble_eq_true rfl⟩ (fun i1 h => ?_)
  refine lv_istore_n (lv' := [(3, .int i1), (0, .ref a0), (1, .long v1)]) hx hb dX8_write_4 rfl hl (by decide) rfl (fun ls hl => ?_)
  refine lv_iload_n hx hb dX8_write_5 rfl (lv_at hl 0 rfl) ?_
  refine lv_if_ne (tgt := 12) hx hb dX8_write_6 (by decide) (fun c2 => ?_) (fun c2 => ?_)
  · have h := h.2 c2
    refine lv_aload_n hx hb dX8_write_12 rfl (lv_at hl 1 rfl) ?_
    obtain ⟨fs3, i4, e5, e5', h⟩ := h
    refine r_get C hO 6 6 rfl inX8 (Nat.le_of_ble_eq_true rfl) e5 e5' (List.mem_of_getElem? (i := 1) (by decide +kernel)) dX8_write_13 ?_
    refine lv_iload_n hx hb dX8_write_16 rfl (lv_at hl 0 rfl) ?_
    refine lv_iadd hx hb dX8_write_17 ?_
    refine lv_bipush (v := (nI 40)) hx hb dX8_write_18 (by decide) ?_
    refine lv_icmp_le (tgt := 26) hx hb dX8_write_20 (by decide) (fun c6 => ?_) (fun c6 => ?_)
    · have h := h.1 c6
      refine lv_iload_n hx hb dX8_write_26 rfl (lv_at hl 0 rfl) ?_
      refine lv_iconst (v := (nI 1)) hx hb dX8_write_27 (by decide) ?_
      refine lv_isub hx hb dX8_write_28 ?_
      refine lv_topi (fun i7 ei7 => ?_)
      have h := h i7 ei7
      refine lv_istore (lv' := [(4, .int i7), (3, .int i1), (0, .ref a0), (1, .long v1)]) hx hb dX8_write_29 hl (by decide) rfl (fun ls hl => ?_)
      obtain ⟨n32, h⟩ := h
      refine lp_W (nL := 5) (fun q => [(4, .int q.1), (0, .ref a0), (1, .long v1)]) (fun q => q.2) h (lv_sub hl [0, 2, 3] rfl) hO (fun K31 ih31 q ls H locs h hl hO => ?_)
      obtain ⟨i8, S9⟩ := q
      have h : wpb_X8_write_31 a0 v1 Post K31 i8 S9 := h
      have hl : lv_has ls 5 [(4, .int i8), (0, .ref a0), (1, .long v1)] := hl
      have hO : HO D Y (fR L s.heap.size) s.heap S9 H locs := hO
      unfold wpb_X8_write_31 at h
      refine lv_iload hx hb dX8_write_31 (lv_at hl 0 rfl) ?_
      refine lv_if_lt (tgt := 67) hx hb dX8_write_33 (by decide) (fun c10 => ?_) (fun c10 => ?_)
      · have h := h.1 c10
        refine lv_aload_n hx hb dX8_write_67 rfl (lv_at hl 1 rfl) ?_
        obtain ⟨fs11, i12, e13, e13', h⟩ := h
        refine r_get C hO 6 6 rfl inX8 (Nat.le_of_ble_eq_true rfl) e13 e13' (List.mem_of_getElem? (i := 1) (by decide +kernel)) dX8_write_68 ?_
        exact W.iret hx hb hr (fun t ht hW => ⟨⟨i12, S9, rfl, h, hO.q ht⟩, hO.f ht⟩) hO.lc dX8_write_71
      · have h := h.2 c10
        refine lv_aload_n hx hb dX8_write_36 rfl (lv_at hl 1 rfl) ?_
        obtain ⟨fs14, a15, e16, e16', h⟩ := h
        refine r_get C hO 6 5 rfl inX8 (Nat.le_of_ble_eq_true rfl) e16 e16' (List.mem_of_getElem? (i := 2) (by decide +kernel)) dX8_write_37 ?_
        refine lv_aload_n hx hb dX8_write_40 rfl (lv_at hl 1 rfl) ?_
        obtain ⟨fs17, i18, e19, e19', h⟩ := h
        refine r_get C hO 6 6 rfl inX8 (Nat.le_of_ble_eq_true rfl) e19 e19' (List.mem_of_getElem? (i := 1) (by decide +kernel)) dX8_write_41 ?_
        refine lv_lload_n hx hb dX8_write_44 rfl (lv_at hl 2 rfl) ?_
        refine lv_iload hx hb dX8_write_45 (lv_at hl 0 rfl) ?_
        refine cS_si (As := [.long v1, .int i8]) (rest := [.int i18, .ref a15]) (n := 2) CF hZ (c_X8_codeAt l v1 i8 _ h) (va_cwS 2 hts gX8_write_X8_codeAt rfl rfl rfl hdS_X8_codeAt ⟨Nat.le_of_ble_eq_true rfl, Nat.le_of_ble_eq_true rfl⟩) rfl hl.1 rfl (Nat.le_of_ble_eq_true rfl) dX8_write_47 ⟨Nat.le_of_ble_eq_true rfl, Nat.le_of_ble_eq_true rfl⟩ (fun i20 h => ?_)
        obtain ⟨n21, f22, e23, e23', h⟩ := h
        refine r_iast C hO e23 e23' dX8_write_50 (fun H locs hO => ?_)
        obtain ⟨S24, eS24⟩ : ∃ Sx, Sx = va_up S9 a15 (aI n21 (upd f22 (i18).toNatClampNeg i20)) := ⟨_, rfl⟩
        rw [← eS24] at hO
        have h := h S24 eS24
        refine lv_aload_n hx hb dX8_write_51 rfl (lv_at hl 1 rfl) ?_
        refine lv_dup hx hb dX8_write_52 rfl ?_
        obtain ⟨fs25, i26, e27, e27', h⟩ := h
        refine r_get C hO 6 6 rfl inX8 (Nat.le_of_ble_eq_true rfl) e27 e27' (List.mem_of_getElem? (i := 1) (by decide +kernel)) dX8_write_53 ?_
        refine lv_iconst (v := (nI 1)) hx hb dX8_write_56 (by decide) ?_
        refine lv_iadd hx hb dX8_write_57 ?_
        obtain ⟨fs28, e29, e29', h⟩ := h
        refine r_put C hO 6 6 rfl inX8 tyX8_ok nmX8 (Nat.le_of_ble_eq_true rfl) rfl rfl rfl e29 e29' (List.mem_of_getElem? (i := 1) (by decide +kernel)) dX8_write_58 (fun H locs hO => ?_)
        obtain ⟨S30, eS30⟩ : ∃ Sx, Sx = va_up S24 a0 (.inl (6, fs28.set 6 (.int (i26 + (nI 1))))) := ⟨_, rfl⟩
        rw [← eS30] at hO
        have h := h S30 eS30
        obtain ⟨i31, ei31⟩ : ∃ y : Int32, y = i8 + (-1 : Int32) := ⟨_, rfl⟩
        have h := h i31 ei31
        refine lv_iinc (v := i31) (lv' := [(4, .int i31), (0, .ref a0), (1, .long v1)]) hx hb dX8_write_61 hl (k := 0) rfl (by rw [ei31]; rfl) (by decide) rfl (fun ls hl => ?_)
        refine lv_goto (tgt := 31) hx hb dX8_write_64 (by decide) ?_
        exact ih31 (i31, S30) _ _ _ h (lv_sub hl [0, 1, 2] rfl) hO
    · have h := h.2 c6
      refine lv_bipush (v := (-4 : Int32)) hx hb dX8_write_23 (by decide) ?_
      exact W.iret hx hb hr (fun t ht hW => ⟨⟨(-4 : Int32), S, rfl, h, hO.q ht⟩, hO.f ht⟩) hO.lc dX8_write_25
  · have h := h.1 c2
    refine lv_bipush (v := (-2 : Int32)) hx hb dX8_write_9 (by decide) ?_
    exact W.iret hx hb hr (fun t ht hW => ⟨⟨(-2 : Int32), S, rfl, h, hO.q ht⟩, hO.f ht⟩) hO.lc dX8_write_11
theorem hdS_X8_wipe : yX8_wipe.cls ≠ "java/lang/invoke/MethodHandle" ∧ yX8_wipe.cls ≠ "java/lang/invoke/VarHandle" ∧ (parseMethodDescriptor yX8_wipe.desc).map (fun d => d.parameters.length) = some 0 := by decide +kernel
set_option maxHeartbeats 4000000 in
set_option maxRecDepth 100000 in
theorem c_X8_wipe (l : Launch) (D : va_G) (Y : Nat → ClassId) (L : List Nat) (S : PS) (sz : Nat) (a0 : Nat) (Post : Int32 → PS → Prop) (h : wp_X8_wipe S a0 Post) : Met l yX8_wipe wsX8_wipe ({ frames := 0, cells := 0, slots := 0, locals := 0 }) (va_Pc [.ref a0] (PrO D Y L S sz)) (va_Qi Post (QtO D Y (fR L sz)) (fR L sz)) 0 0 (fR L sz) := by
  refine Met.ofW (cc := cX8_wipe) (maxL := 2) (ret := (some .int)) (by decide) rfl ?_
  intro p e s m args below meth c s₁ B hml hv
  obtain ⟨rfl, hsz, hJ, hP, hK, hD0, hZ⟩ := hv
  have hx := B.exec
  have hb := B.bytes
  have hr := B.returns
  have hts := atoms_spec (ws := wsX8_wipe) B.pre
  have hown : s.vm.findClass RX8 = some m.cls := findClass_of_methodNamed B.named
  have hlocks := B.notSynchronized
  have CF : CallFix p m c cX8_wipe 2 s ([.ref a0] : List Value).toArray wsX8_wipe RX8 := ⟨hx, hb, hml, hown, hts⟩
  have C : CX p m c cX8_wipe 2 s ([.ref a0] : List Value).toArray wsX8_wipe RX8 D Y := ⟨CF, hK, hZ⟩
  have hO : HO D Y (fR L sz) s.heap S s.heap [] := HO.entry hsz hJ hP hD0
  subst hsz
  have inX8 : ∀ w ∈ wsX80, w ∈ wsX8_wipe := fun w h => List.mem_cons_of_mem _ (List.mem_append_right _ h)
  have hl := lv_entry ([.ref a0]) (n := 2) (Nat.le_of_ble_eq_true rfl)
  rw [lg_entry_eq]
  generalize (lg_sl ([.ref a0]) ++ List.replicate (2 - (lg_sl ([.ref a0])).length) Slot.unset).toArray = ls at hl ⊢
  have hl : lv_has ls 2 [(0, .ref a0)] := hl
  unfold wp_X8_wipe at h
  refine lv_aload_n hx hb dX8_wipe_0 rfl (lv_at hl 0 rfl) ?_
  obtain ⟨fs1, i2, e3, e3', h⟩ := h
  refine r_get C hO 6 6 rfl inX8 (Nat.le_of_ble_eq_true rfl) e3 e3' (List.mem_of_getElem? (i := 1) (by decide +kernel)) dX8_wipe_1 ?_
  refine lv_istore_n (lv' := [(1, .int i2), (0, .ref a0)]) hx hb dX8_wipe_4 rfl hl (by decide) rfl (fun ls hl => ?_)
  refine lv_aload_n hx hb dX8_wipe_5 rfl (lv_at hl 1 rfl) ?_
  refine lv_iconst (v := (nI 0)) hx hb dX8_wipe_6 (by decide) ?_
  obtain ⟨fs4, e5, e5', h⟩ := h
  refine r_put C hO 6 6 rfl inX8 tyX8_ok nmX8 (Nat.le_of_ble_eq_true rfl) rfl rfl rfl e5 e5' (List.mem_of_getElem? (i := 1) (by decide +kernel)) dX8_wipe_7 (fun H locs hO => ?_)
  obtain ⟨S6, eS6⟩ : ∃ Sx, Sx = va_up S a0 (.inl (6, fs4.set 6 (.int (nI 0)))) := ⟨_, rfl⟩
  rw [← eS6] at hO
  have h := h S6 eS6
  refine lv_iload_n hx hb dX8_wipe_10 rfl (lv_at hl 0 rfl) ?_
  exact W.iret hx hb hr (fun t ht hW => ⟨⟨i2, S6, rfl, h, hO.q ht⟩, hO.f ht⟩) hO.lc dX8_wipe_11
theorem hdS_X8_fault : yX8_fault.cls ≠ "java/lang/invoke/MethodHandle" ∧ yX8_fault.cls ≠ "java/lang/invoke/VarHandle" ∧ (parseMethodDescriptor yX8_fault.desc).map (fun d => d.parameters.length) = some 0 := by decide +kernel
set_option maxHeartbeats 4000000 in
set_option maxRecDepth 100000 in
theorem c_X8_fault (l : Launch) (D : va_G) (Y : Nat → ClassId) (L : List Nat) (S : PS) (sz : Nat) (a0 : Nat) (Post : Int32 → PS → Prop) (h : wp_X8_fault S a0 Post) : Met l yX8_fault wsX8_fault ({ frames := 3, cells := 0, slots := 0, locals := 68 }) (va_Pc [.ref a0] (PrO D Y L S sz)) (va_Qi Post (QtO D Y (fR L sz)) (fR L sz)) 0 0 (fR L sz) := by
  refine Met.ofW (cc := cX8_fault) (maxL := 1) (ret := (some .int)) (by decide) rfl ?_
  intro p e s m args below meth c s₁ B hml hv
  obtain ⟨rfl, hsz, hJ, hP, hK, hD0, hZ⟩ := hv
  have hx := B.exec
  have hb := B.bytes
  have hr := B.returns
  have hts := atoms_spec (ws := wsX8_fault) B.pre
  have hown : s.vm.findClass RX8 = some m.cls := findClass_of_methodNamed B.named
  have hlocks := B.notSynchronized
  have CF : CallFix p m c cX8_fault 1 s ([.ref a0] : List Value).toArray wsX8_fault RX8 := ⟨hx, hb, hml, hown, hts⟩
  have C : CX p m c cX8_fault 1 s ([.ref a0] : List Value).toArray wsX8_fault RX8 D Y := ⟨CF, hK, hZ⟩
  have hO : HO D Y (fR L sz) s.heap S s.heap [] := HO.entry hsz hJ hP hD0
  subst hsz
  have hl := lv_entry ([.ref a0]) (n := 1) (Nat.le_of_ble_eq_true rfl)
  rw [lg_entry_eq]
  generalize (lg_sl ([.ref a0]) ++ List.replicate (1 - (lg_sl ([.ref a0])).length) Slot.unset).toArray = ls at hl ⊢
  have hl : lv_has ls 1 [(0, .ref a0)] := hl
  unfold wp_X8_fault at h
  refine lv_aload_n hx hb dX8_fault_0 rfl (lv_at hl 0 rfl) ?_
  obtain ⟨fs4, e3, h⟩ := h
  refine cV_wi (As := []) (rest := []) (n := 0) C hO (fun L => c_X8_findFault l D Y L S s.heap.size a0 _ h) 6 rfl e3 (cwV 0 hts gX8_fault_X8_findFault rfl rfl rfl ⟨rfl, hdS_X8_findFault⟩ ⟨Nat.le_of_ble_eq_true rfl, Nat.le_of_ble_eq_true rfl⟩) rfl hl.1 rfl (Nat.le_of_ble_eq_true rfl) dX8_fault_1 ⟨Nat.le_of_ble_eq_true rfl, Nat.le_of_ble_eq_true rfl⟩ (fun i1 S2 H locs h hO => ?_)
  exact W.iret hx hb hr (fun t ht hW => ⟨⟨i1, S2, rfl, h, hO.q ht⟩, hO.f ht⟩) hO.lc dX8_fault_4
