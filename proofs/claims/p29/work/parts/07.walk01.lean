theorem hdS_X6_then : yX6_then.cls ≠ "java/lang/invoke/MethodHandle" ∧ yX6_then.cls ≠ "java/lang/invoke/VarHandle" ∧ (parseMethodDescriptor yX6_then.desc).map (fun d => d.parameters.length) = some 2 := by decide +kernel
set_option maxHeartbeats 4000000 in
set_option maxRecDepth 100000 in
theorem c_X6_then (l : Launch) (v0 : Int64) (v2 : Int64) (Post : Int64 → Prop) (h : wp_X6_then v0 v2 Post) : Met l yX6_then wsX6_then ({ frames := 1, cells := 0, slots := 0, locals := 22 }) (va_Pc [.long v0, .long v2] NZ) (vp_Sl Post) 0 0 (fun _ => False) := by
  refine Met.ofW (cc := cX6_then) (maxL := 7) (ret := (some .long)) (by decide) rfl ?_
  intro p e s m args below meth c s₁ B hml hv
  obtain ⟨rfl, hZ⟩ := hv
  have hx := B.exec
  have hb := B.bytes
  have hr := B.returns
  have hts := atoms_spec (ws := wsX6_then) B.pre
  have hown : s.vm.findClass RX6 = some m.cls := findClass_of_methodNamed B.named
  have hlocks := B.notSynchronized
  have CF : CallFix p m c cX6_then 7 s ([.long v0, .long v2] : List Value).toArray wsX6_then RX6 := ⟨hx, hb, hml, hown, hts⟩
  have hl := lv_entry ([.long v0, .long v2]) (n := 7) (Nat.le_of_ble_eq_true rfl)
  rw [lg_entry_eq]
  generalize (lg_sl ([.long v0, .long v2]) ++ List.replicate (7 - (lg_sl ([.long v0, .long v2])).length) Slot.unset).toArray = ls at hl ⊢
  have hl : lv_has ls 7 [(0, .long v0), (2, .long v2)] := hl
  unfold wp_X6_then at h
  refine lv_lconst (v := (lN 0)) hx hb dX6_then_0 (by decide) ?_
  refine lv_lstore (lv' := [(4, .long (lN 0)), (0, .long v0), (2, .long v2)]) hx hb dX6_then_1 hl (by decide) rfl (fun ls hl => ?_)
  refine lv_iconst (v := (nI 0)) hx hb dX6_then_3 (by decide) ?_
  refine lv_istore (lv' := [(6, .int (nI 0)), (4, .long (lN 0)), (0, .long v0), (2, .long v2)]) hx hb dX6_then_4 hl (by decide) rfl (fun ls hl => ?_)
  obtain ⟨n8, h⟩ := h
  refine lp_P (nL := 7) (fun q => [(6, .int q.1), (4, .long q.2), (0, .long v0), (2, .long v2)]) h (lv_sub hl [0, 1, 2, 3] rfl) (fun K6 ih6 q ls h hl => ?_)
  obtain ⟨i1, j2⟩ := q
  have h : wpb_X6_then_6 v0 v2 Post K6 i1 j2 := h
  have hl : lv_has ls 7 [(6, .int i1), (4, .long j2), (0, .long v0), (2, .long v2)] := hl
  unfold wpb_X6_then_6 at h
  refine lv_iload hx hb dX6_then_6 (lv_at hl 0 rfl) ?_
  refine lv_bipush (v := (nI 12)) hx hb dX6_then_8 (by decide) ?_
  refine lv_icmp_ge (tgt := 40) hx hb dX6_then_10 (by decide) (fun c3 => ?_) (fun c3 => ?_)
  · have h := h.1 c3
    refine lv_lload hx hb dX6_then_40 (lv_at hl 1 rfl) ?_
    exact W.lret hx hb hr (fun t ht hW => ⟨j2, rfl, h, ht⟩) no_locs dX6_then_42
  · have h := h.2 c3
    refine lv_lload hx hb dX6_then_13 (lv_at hl 1 rfl) ?_
    refine lv_lload_n hx hb dX6_then_15 rfl (lv_at hl 3 rfl) ?_
    refine lv_lload_n hx hb dX6_then_16 rfl (lv_at hl 2 rfl) ?_
    refine lv_iload hx hb dX6_then_17 (lv_at hl 0 rfl) ?_
    refine cS_si (As := [.long v0, .int i1]) (rest := [.long v2, .long j2]) (n := 2) CF hZ (c_X4_at l v0 i1 _ h) (va_cwS 2 hts gX6_then_X4_at rfl rfl rfl hdS_X4_at ⟨Nat.le_of_ble_eq_true rfl, Nat.le_of_ble_eq_true rfl⟩) rfl hl.1 rfl (Nat.le_of_ble_eq_true rfl) dX6_then_19 ⟨(Nat.le_of_ble_eq_true rfl), (Nat.le_of_ble_eq_true rfl)⟩ (fun i4 h => ?_)
    refine cS_si (As := [.long v2, .int i4]) (rest := [.long j2]) (n := 2) CF hZ (c_X4_at l v2 i4 _ h) (va_cwS 2 hts gX6_then_X4_at rfl rfl rfl hdS_X4_at ⟨Nat.le_of_ble_eq_true rfl, Nat.le_of_ble_eq_true rfl⟩) rfl hl.1 rfl (Nat.le_of_ble_eq_true rfl) dX6_then_22 ⟨(Nat.le_of_ble_eq_true rfl), (Nat.le_of_ble_eq_true rfl)⟩ (fun i5 h => ?_)
    refine lv_i2l (v := (i5).toInt64) hx hb dX6_then_25 rfl ?_
    refine lv_iconst (v := (nI 4)) hx hb dX6_then_26 (by decide) ?_
    refine lv_iload hx hb dX6_then_27 (lv_at hl 0 rfl) ?_
    refine lv_imul hx hb dX6_then_29 ?_
    refine lv_lshl (v := (shlL (i5).toInt64 ((nI 4) * i1))) hx hb dX6_then_30 rfl ?_
    refine lv_lor hx hb dX6_then_31 ?_
    refine lv_topl (fun j6 ej6 => ?_)
    have h := h j6 ej6
    refine lv_lstore (lv' := [(4, .long j6), (6, .int i1), (0, .long v0), (2, .long v2)]) hx hb dX6_then_32 hl (by decide) rfl (fun ls hl => ?_)
    obtain ⟨i7, ei7⟩ : ∃ y : Int32, y = i1 + (nI 1) := ⟨_, rfl⟩
    have h := h i7 ei7
    refine lv_iinc (v := i7) (lv' := [(6, .int i7), (4, .long j6), (0, .long v0), (2, .long v2)]) hx hb dX6_then_34 hl (k := 1) rfl (by rw [ei7]; rfl) (by decide) rfl (fun ls hl => ?_)
    refine lv_goto (tgt := 6) hx hb dX6_then_37 (by decide) ?_
    exact ih6 (i7, j6) _ h (lv_sub hl [0, 1, 2, 3] rfl)
theorem hdS_X1_coloursByPlace : yX1_coloursByPlace.cls ≠ "java/lang/invoke/MethodHandle" ∧ yX1_coloursByPlace.cls ≠ "java/lang/invoke/VarHandle" ∧ (parseMethodDescriptor yX1_coloursByPlace.desc).map (fun d => d.parameters.length) = some 0 := by decide +kernel
set_option maxHeartbeats 4000000 in
set_option maxRecDepth 100000 in
theorem c_X1_coloursByPlace (l : Launch) (D : va_G) (Y : Nat → ClassId) (L : List Nat) (S : PS) (sz : Nat) (a0 : Nat) (Post : Int64 → Prop) (h : wp_X1_coloursByPlace S a0 Post) : Met l yX1_coloursByPlace wsX1_coloursByPlace ({ frames := 2, cells := 0, slots := 0, locals := 48 }) (va_Pc [.ref a0] (PrO D Y L S sz)) (vp_Sl Post) 0 0 (fun _ => False) := by
  refine Met.ofW (cc := cX1_coloursByPlace) (maxL := 1) (ret := (some .long)) (by decide) rfl ?_
  intro p e s m args below meth c s₁ B hml hv
  obtain ⟨rfl, hsz, hJ, hP, hK, hD0, hZ⟩ := hv
  have hx := B.exec
  have hb := B.bytes
  have hr := B.returns
  have hts := atoms_spec (ws := wsX1_coloursByPlace) B.pre
  have hown : s.vm.findClass RX1 = some m.cls := findClass_of_methodNamed B.named
  have hlocks := B.notSynchronized
  have CF : CallFix p m c cX1_coloursByPlace 1 s ([.ref a0] : List Value).toArray wsX1_coloursByPlace RX1 := ⟨hx, hb, hml, hown, hts⟩
  have C : CX p m c cX1_coloursByPlace 1 s ([.ref a0] : List Value).toArray wsX1_coloursByPlace RX1 D Y := ⟨CF, hK, hZ⟩
  have hO : HO D Y (fR L sz) s.heap S s.heap [] := HO.entry hsz hJ hP hD0
  subst hsz
  have inX1 : ∀ w ∈ wsX10, w ∈ wsX1_coloursByPlace := fun w h => List.mem_cons_of_mem _ (List.mem_append_right _ h)
  have hl := lv_entry ([.ref a0]) (n := 1) (Nat.le_of_ble_eq_true rfl)
  rw [lg_entry_eq]
  generalize (lg_sl ([.ref a0]) ++ List.replicate (1 - (lg_sl ([.ref a0])).length) Slot.unset).toArray = ls at hl ⊢
  have hl : lv_has ls 1 [(0, .ref a0)] := hl
  unfold wp_X1_coloursByPlace at h
  refine lv_aload_n hx hb dX1_coloursByPlace_0 rfl (lv_at hl 0 rfl) ?_
  obtain ⟨fs1, j2, e3, e3', h⟩ := h
  refine r_get C hO 1 1 rfl inX1 (Nat.le_of_ble_eq_true rfl) e3 e3' (List.mem_of_getElem? (i := 1) (by decide +kernel)) dX1_coloursByPlace_1 ?_
  refine lv_aload_n hx hb dX1_coloursByPlace_4 rfl (lv_at hl 0 rfl) ?_
  obtain ⟨fs4, j5, e6, e6', h⟩ := h
  refine r_get C hO 1 2 rfl inX1 (Nat.le_of_ble_eq_true rfl) e6 e6' (List.mem_of_getElem? (i := 2) (by decide +kernel)) dX1_coloursByPlace_5 ?_
  refine cS_sl (As := [.long j2, .long j5]) (rest := []) (n := 2) CF hZ (c_X6_then l j2 j5 _ h) (va_cwS 2 hts gX1_coloursByPlace_X6_then rfl rfl rfl hdS_X6_then ⟨Nat.le_of_ble_eq_true rfl, Nat.le_of_ble_eq_true rfl⟩) rfl hl.1 rfl (Nat.le_of_ble_eq_true rfl) dX1_coloursByPlace_8 ⟨(Nat.le_of_ble_eq_true rfl), (Nat.le_of_ble_eq_true rfl)⟩ (fun j7 h => ?_)
  exact W.lret hx hb hr (fun t ht hW => ⟨j7, rfl, h, ht⟩) no_locs dX1_coloursByPlace_11
theorem hdS_X4_with : yX4_with.cls ≠ "java/lang/invoke/MethodHandle" ∧ yX4_with.cls ≠ "java/lang/invoke/VarHandle" ∧ (parseMethodDescriptor yX4_with.desc).map (fun d => d.parameters.length) = some 3 := by decide +kernel
set_option maxHeartbeats 4000000 in
set_option maxRecDepth 100000 in
theorem c_X4_with (l : Launch) (v0 : Int64) (v2 : Int32) (v3 : Int32) (Post : Int64 → Prop) (h : wp_X4_with v0 v2 v3 Post) : Met l yX4_with wsX4_with ({ frames := 0, cells := 0, slots := 0, locals := 0 }) (va_Pc [.long v0, .int v2, .int v3] NZ) (vp_Sl Post) 0 0 (fun _ => False) := by
  refine Met.ofW (cc := cX4_with) (maxL := 4) (ret := (some .long)) (by decide) rfl ?_
  intro p e s m args below meth c s₁ B hml hv
  obtain ⟨rfl, hZ⟩ := hv
  have hx := B.exec
  have hb := B.bytes
  have hr := B.returns
  have hts := atoms_spec (ws := wsX4_with) B.pre
  have hown : s.vm.findClass RX4 = some m.cls := findClass_of_methodNamed B.named
  have hlocks := B.notSynchronized
  have CF : CallFix p m c cX4_with 4 s ([.long v0, .int v2, .int v3] : List Value).toArray wsX4_with RX4 := ⟨hx, hb, hml, hown, hts⟩
  have hl := lv_entry ([.long v0, .int v2, .int v3]) (n := 4) (Nat.le_of_ble_eq_true rfl)
  rw [lg_entry_eq]
  generalize (lg_sl ([.long v0, .int v2, .int v3]) ++ List.replicate (4 - (lg_sl ([.long v0, .int v2, .int v3])).length) Slot.unset).toArray = ls at hl ⊢
  have hl : lv_has ls 4 [(0, .long v0), (2, .int v2), (3, .int v3)] := hl
  unfold wp_X4_with at h
  refine lv_lload_n hx hb dX4_with_0 rfl (lv_at hl 0 rfl) ?_
  refine lv_ldc2 hx hb hown (hts _ (List.mem_of_getElem? (i := 1) (by decide +kernel : wsX4_with[1]? = some (Cond.constantLong RX4 9 (15))))) dX4_with_1 ?_
  refine lv_iconst (v := (nI 4)) hx hb dX4_with_4 (by decide) ?_
  refine lv_iload_n hx hb dX4_with_5 rfl (lv_at hl 1 rfl) ?_
  refine lv_imul hx hb dX4_with_6 ?_
  refine lv_lshl (v := (shlL (15 : Int64) ((nI 4) * v2))) hx hb dX4_with_7 rfl ?_
  refine lv_ldc2 hx hb hown (hts _ (List.mem_of_getElem? (i := 2) (by decide +kernel : wsX4_with[2]? = some (Cond.constantLong RX4 11 (-1))))) dX4_with_8 ?_
  refine lv_lxor hx hb dX4_with_11 ?_
  refine lv_land hx hb dX4_with_12 ?_
  refine lv_iload_n hx hb dX4_with_13 rfl (lv_at hl 2 rfl) ?_
  refine lv_i2l (v := (v3).toInt64) hx hb dX4_with_14 rfl ?_
  refine lv_iconst (v := (nI 4)) hx hb dX4_with_15 (by decide) ?_
  refine lv_iload_n hx hb dX4_with_16 rfl (lv_at hl 1 rfl) ?_
  refine lv_imul hx hb dX4_with_17 ?_
  refine lv_lshl (v := (shlL (v3).toInt64 ((nI 4) * v2))) hx hb dX4_with_18 rfl ?_
  refine lv_lor hx hb dX4_with_19 ?_
  exact W.lret hx hb hr (fun t ht hW => ⟨((v0 &&& ((shlL (15 : Int64) ((nI 4) * v2)) ^^^ (-1 : Int64))) ||| (shlL (v3).toInt64 ((nI 4) * v2))), rfl, h, ht⟩) no_locs dX4_with_20
theorem hdS_X6_round : yX6_round.cls ≠ "java/lang/invoke/MethodHandle" ∧ yX6_round.cls ≠ "java/lang/invoke/VarHandle" ∧ (parseMethodDescriptor yX6_round.desc).map (fun d => d.parameters.length) = some 1 := by decide +kernel
set_option maxHeartbeats 4000000 in
set_option maxRecDepth 100000 in
theorem c_X6_round (l : Launch) (v0 : Int32) (Post : Int64 → Prop) (h : wp_X6_round v0 Post) : Met l yX6_round wsX6_round ({ frames := 1, cells := 0, slots := 0, locals := 23 }) (va_Pc [.int v0] NZ) (vp_Sl Post) 0 0 (fun _ => False) := by
  refine Met.ofW (cc := cX6_round) (maxL := 6) (ret := (some .long)) (by decide) rfl ?_
  intro p e s m args below meth c s₁ B hml hv
  obtain ⟨rfl, hZ⟩ := hv
  have hx := B.exec
  have hb := B.bytes
  have hr := B.returns
  have hts := atoms_spec (ws := wsX6_round) B.pre
  have hown : s.vm.findClass RX6 = some m.cls := findClass_of_methodNamed B.named
  have hlocks := B.notSynchronized
  have CF : CallFix p m c cX6_round 6 s ([.int v0] : List Value).toArray wsX6_round RX6 := ⟨hx, hb, hml, hown, hts⟩
  have hl := lv_entry ([.int v0]) (n := 6) (Nat.le_of_ble_eq_true rfl)
  rw [lg_entry_eq]
  generalize (lg_sl ([.int v0]) ++ List.replicate (6 - (lg_sl ([.int v0])).length) Slot.unset).toArray = ls at hl ⊢
  have hl : lv_has ls 6 [(0, .int v0)] := hl
  unfold wp_X6_round at h
  refine lv_ldc2 hx hb hown (hts _ (List.mem_of_getElem? (i := 1) (by decide +kernel : wsX6_round[1]? = some (Cond.constantLong RX6 15 (205163983024656))))) dX6_round_0 ?_
  refine lv_lstore_n (lv' := [(1, .long (205163983024656 : Int64)), (0, .int v0)]) hx hb dX6_round_3 rfl hl (by decide) rfl (fun ls hl => ?_)
  refine lv_iconst (v := (-1 : Int32)) hx hb dX6_round_4 (by decide) ?_
  refine lv_istore_n (lv' := [(3, .int (-1 : Int32)), (1, .long (205163983024656 : Int64)), (0, .int v0)]) hx hb dX6_round_5 rfl hl (by decide) rfl (fun ls hl => ?_)
  refine lv_iconst (v := (-1 : Int32)) hx hb dX6_round_6 (by decide) ?_
  refine lv_istore (lv' := [(4, .int (-1 : Int32)), (3, .int (-1 : Int32)), (1, .long (205163983024656 : Int64)), (0, .int v0)]) hx hb dX6_round_7 hl (by decide) rfl (fun ls hl => ?_)
  refine lv_iconst (v := (nI 0)) hx hb dX6_round_9 (by decide) ?_
  refine lv_istore (lv' := [(5, .int (nI 0)), (4, .int (-1 : Int32)), (3, .int (-1 : Int32)), (1, .long (205163983024656 : Int64)), (0, .int v0)]) hx hb dX6_round_10 hl (by decide) rfl (fun ls hl => ?_)
  obtain ⟨n15, h⟩ := h
  refine lp_P (nL := 6) (fun q => [(5, .int q.1), (4, .int q.2.1), (3, .int q.2.2.1), (1, .long q.2.2.2), (0, .int v0)]) h (lv_sub hl [0, 1, 2, 3, 4] rfl) (fun K12 ih12 q ls h hl => ?_)
  obtain ⟨i1, i2, i3, j4⟩ := q
  have h : wpb_X6_round_12 v0 Post K12 i1 i2 i3 j4 := h
  have hl : lv_has ls 6 [(5, .int i1), (4, .int i2), (3, .int i3), (1, .long j4), (0, .int v0)] := hl
  unfold wpb_X6_round_12 at h
  refine lv_iload hx hb dX6_round_12 (lv_at hl 0 rfl) ?_
  refine lv_bipush (v := (nI 12)) hx hb dX6_round_14 (by decide) ?_
  refine lv_icmp_ge (tgt := 60) hx hb dX6_round_16 (by decide) (fun c5 => ?_) (fun c5 => ?_)
  · have h := h.1 c5
    refine lv_iload_n hx hb dX6_round_60 rfl (lv_at hl 2 rfl) ?_
    refine lv_if_ge (tgt := 68) hx hb dX6_round_61 (by decide) (fun c6 => ?_) (fun c6 => ?_)
    · have h := h.1 c6
      refine lv_lload_n hx hb dX6_round_68 rfl (lv_at hl 3 rfl) ?_
      refine lv_iload hx hb dX6_round_69 (lv_at hl 1 rfl) ?_
      refine lv_iload_n hx hb dX6_round_71 rfl (lv_at hl 2 rfl) ?_
      refine cS_sl (As := [.long j4, .int i2, .int i3]) (rest := []) (n := 3) CF hZ (c_X4_with l j4 i2 i3 _ h) (va_cwS 3 hts gX6_round_X4_with rfl rfl rfl hdS_X4_with ⟨Nat.le_of_ble_eq_true rfl, Nat.le_of_ble_eq_true rfl⟩) rfl hl.1 rfl (Nat.le_of_ble_eq_true rfl) dX6_round_72 ⟨(Nat.le_of_ble_eq_true rfl), (Nat.le_of_ble_eq_true rfl)⟩ (fun j7 h => ?_)
      exact W.lret hx hb hr (fun t ht hW => ⟨j7, rfl, h, ht⟩) no_locs dX6_round_75
    · have h := h.2 c6
      refine lv_lload_n hx hb dX6_round_64 rfl (lv_at hl 3 rfl) ?_
      refine lv_goto (tgt := 75) hx hb dX6_round_65 (by decide) ?_
      exact W.lret hx hb hr (fun t ht hW => ⟨j4, rfl, h, ht⟩) no_locs dX6_round_75
  · have h := h.2 c5
    refine lv_iload_n hx hb dX6_round_19 rfl (lv_at hl 4 rfl) ?_
    refine lv_iload hx hb dX6_round_20 (lv_at hl 0 rfl) ?_
    refine cN_si (As := [.int v0, .int i1]) (rest := []) (n := 2) CF hZ (c_X7_hasBit l v0 i1 _ h) ⟨va_cnB 2 hts gX6_round_X7_hasBit_n17 rfl rfl rfl (hZ.nest 9 rfl) (hts _ (List.mem_of_getElem? (i := 3) (by decide +kernel : wsX6_round[3]? = some (Cond.initialized RX7)))) hdS_X7_hasBit ⟨Nat.le_of_ble_eq_true rfl, Nat.le_of_ble_eq_true rfl⟩, (hts _ (List.mem_of_getElem? (i := 2) (by decide +kernel : wsX6_round[2]? = some (Cond.static yX7_hasBit)))), trivial⟩ rfl hl.1 rfl (Nat.le_of_ble_eq_true rfl) dX6_round_22 ⟨(Nat.le_of_ble_eq_true rfl), (Nat.le_of_ble_eq_true rfl)⟩ (fun i8 h => ?_)
    refine lv_if_ne (tgt := 31) hx hb dX6_round_25 (by decide) (fun c9 => ?_) (fun c9 => ?_)
    · have h := h.2 c9
      refine lv_iload_n hx hb dX6_round_31 rfl (lv_at hl 2 rfl) ?_
      refine lv_if_ge (tgt := 41) hx hb dX6_round_32 (by decide) (fun c10 => ?_) (fun c10 => ?_)
      · have h := h.1 c10
        refine lv_lload_n hx hb dX6_round_41 rfl (lv_at hl 3 rfl) ?_
        refine lv_iload hx hb dX6_round_42 (lv_at hl 1 rfl) ?_
        refine lv_iload hx hb dX6_round_44 (lv_at hl 0 rfl) ?_
        refine cS_sl (As := [.long j4, .int i2, .int i1]) (rest := []) (n := 3) CF hZ (c_X4_with l j4 i2 i1 _ h) (va_cwS 3 hts gX6_round_X4_with rfl rfl rfl hdS_X4_with ⟨Nat.le_of_ble_eq_true rfl, Nat.le_of_ble_eq_true rfl⟩) rfl hl.1 rfl (Nat.le_of_ble_eq_true rfl) dX6_round_46 ⟨(Nat.le_of_ble_eq_true rfl), (Nat.le_of_ble_eq_true rfl)⟩ (fun j11 h => ?_)
        refine lv_lstore_n (lv' := [(1, .long j11), (5, .int i1), (4, .int i2), (3, .int i3), (0, .int v0)]) hx hb dX6_round_49 rfl hl (by decide) rfl (fun ls hl => ?_)
        refine lv_iload hx hb dX6_round_50 (lv_at hl 1 rfl) ?_
        refine lv_istore (lv' := [(4, .int i1), (1, .long j11), (5, .int i1), (3, .int i3), (0, .int v0)]) hx hb dX6_round_52 hl (by decide) rfl (fun ls hl => ?_)
        obtain ⟨i12, ei12⟩ : ∃ y : Int32, y = i1 + (nI 1) := ⟨_, rfl⟩
        have h := h i12 ei12
        refine lv_iinc (v := i12) (lv' := [(5, .int i12), (4, .int i1), (1, .long j11), (3, .int i3), (0, .int v0)]) hx hb dX6_round_54 hl (k := 2) rfl (by rw [ei12]; rfl) (by decide) rfl (fun ls hl => ?_)
        refine lv_goto (tgt := 12) hx hb dX6_round_57 (by decide) ?_
        exact ih12 (i12, i1, i3, j11) _ h (lv_sub hl [0, 1, 3, 2, 4] rfl)
      · have h := h.2 c10
        refine lv_iload hx hb dX6_round_35 (lv_at hl 0 rfl) ?_
        refine lv_istore_n (lv' := [(3, .int i1), (5, .int i1), (4, .int i2), (1, .long j4), (0, .int v0)]) hx hb dX6_round_37 rfl hl (by decide) rfl (fun ls hl => ?_)
        refine lv_goto (tgt := 50) hx hb dX6_round_38 (by decide) ?_
        refine lv_iload hx hb dX6_round_50 (lv_at hl 1 rfl) ?_
        refine lv_istore (lv' := [(4, .int i1), (3, .int i1), (5, .int i1), (1, .long j4), (0, .int v0)]) hx hb dX6_round_52 hl (by decide) rfl (fun ls hl => ?_)
        obtain ⟨i13, ei13⟩ : ∃ y : Int32, y = i1 + (nI 1) := ⟨_, rfl⟩
        have h := h i13 ei13
        refine lv_iinc (v := i13) (lv' := [(5, .int i13), (4, .int i1), (3, .int i1), (1, .long j4), (0, .int v0)]) hx hb dX6_round_54 hl (k := 2) rfl (by rw [ei13]; rfl) (by decide) rfl (fun ls hl => ?_)
        refine lv_goto (tgt := 12) hx hb dX6_round_57 (by decide) ?_
        exact ih12 (i13, i1, i1, j4) _ h (lv_sub hl [0, 1, 2, 3, 4] rfl)
    · have h := h.1 c9
      refine lv_goto (tgt := 54) hx hb dX6_round_28 (by decide) ?_
      obtain ⟨i14, ei14⟩ : ∃ y : Int32, y = i1 + (nI 1) := ⟨_, rfl⟩
      have h := h i14 ei14
      refine lv_iinc (v := i14) (lv' := [(5, .int i14), (4, .int i2), (3, .int i3), (1, .long j4), (0, .int v0)]) hx hb dX6_round_54 hl (k := 0) rfl (by rw [ei14]; rfl) (by decide) rfl (fun ls hl => ?_)
      refine lv_goto (tgt := 12) hx hb dX6_round_57 (by decide) ?_
      exact ih12 (i14, i2, i3, j4) _ h (lv_sub hl [0, 1, 2, 3, 4] rfl)
theorem hdS_X4_moved : yX4_moved.cls ≠ "java/lang/invoke/MethodHandle" ∧ yX4_moved.cls ≠ "java/lang/invoke/VarHandle" ∧ (parseMethodDescriptor yX4_moved.desc).map (fun d => d.parameters.length) = some 2 := by decide +kernel
set_option maxHeartbeats 4000000 in
set_option maxRecDepth 100000 in
theorem c_X4_moved (l : Launch) (v0 : Int64) (v2 : Int64) (Post : Int64 → Prop) (h : wp_X4_moved v0 v2 Post) : Met l yX4_moved wsX4_moved ({ frames := 1, cells := 0, slots := 0, locals := 22 }) (va_Pc [.long v0, .long v2] NZ) (vp_Sl Post) 0 0 (fun _ => False) := by
  refine Met.ofW (cc := cX4_moved) (maxL := 7) (ret := (some .long)) (by decide) rfl ?_
  intro p e s m args below meth c s₁ B hml hv
  obtain ⟨rfl, hZ⟩ := hv
  have hx := B.exec
  have hb := B.bytes
  have hr := B.returns
  have hts := atoms_spec (ws := wsX4_moved) B.pre
  have hown : s.vm.findClass RX4 = some m.cls := findClass_of_methodNamed B.named
  have hlocks := B.notSynchronized
  have CF : CallFix p m c cX4_moved 7 s ([.long v0, .long v2] : List Value).toArray wsX4_moved RX4 := ⟨hx, hb, hml, hown, hts⟩
  have hl := lv_entry ([.long v0, .long v2]) (n := 7) (Nat.le_of_ble_eq_true rfl)
  rw [lg_entry_eq]
  generalize (lg_sl ([.long v0, .long v2]) ++ List.replicate (7 - (lg_sl ([.long v0, .long v2])).length) Slot.unset).toArray = ls at hl ⊢
  have hl : lv_has ls 7 [(0, .long v0), (2, .long v2)] := hl
  unfold wp_X4_moved at h
  refine lv_lconst (v := (lN 0)) hx hb dX4_moved_0 (by decide) ?_
  refine lv_lstore (lv' := [(4, .long (lN 0)), (0, .long v0), (2, .long v2)]) hx hb dX4_moved_1 hl (by decide) rfl (fun ls hl => ?_)
  refine lv_iconst (v := (nI 0)) hx hb dX4_moved_3 (by decide) ?_
  refine lv_istore (lv' := [(6, .int (nI 0)), (4, .long (lN 0)), (0, .long v0), (2, .long v2)]) hx hb dX4_moved_4 hl (by decide) rfl (fun ls hl => ?_)
  obtain ⟨n8, h⟩ := h
  refine lp_P (nL := 7) (fun q => [(6, .int q.1), (4, .long q.2), (0, .long v0), (2, .long v2)]) h (lv_sub hl [0, 1, 2, 3] rfl) (fun K6 ih6 q ls h hl => ?_)
  obtain ⟨i1, j2⟩ := q
  have h : wpb_X4_moved_6 v0 v2 Post K6 i1 j2 := h
  have hl : lv_has ls 7 [(6, .int i1), (4, .long j2), (0, .long v0), (2, .long v2)] := hl
  unfold wpb_X4_moved_6 at h
  refine lv_iload hx hb dX4_moved_6 (lv_at hl 0 rfl) ?_
  refine lv_bipush (v := (nI 12)) hx hb dX4_moved_8 (by decide) ?_
  refine lv_icmp_ge (tgt := 40) hx hb dX4_moved_10 (by decide) (fun c3 => ?_) (fun c3 => ?_)
  · have h := h.1 c3
    refine lv_lload hx hb dX4_moved_40 (lv_at hl 1 rfl) ?_
    exact W.lret hx hb hr (fun t ht hW => ⟨j2, rfl, h, ht⟩) no_locs dX4_moved_42
  · have h := h.2 c3
    refine lv_lload hx hb dX4_moved_13 (lv_at hl 1 rfl) ?_
    refine lv_lload_n hx hb dX4_moved_15 rfl (lv_at hl 2 rfl) ?_
    refine lv_iload hx hb dX4_moved_16 (lv_at hl 0 rfl) ?_
    refine cS_si (As := [.long v0, .int i1]) (rest := [.long j2]) (n := 2) CF hZ (c_X4_at l v0 i1 _ h) (va_cwS 2 hts gX4_moved_X4_at rfl rfl rfl hdS_X4_at ⟨Nat.le_of_ble_eq_true rfl, Nat.le_of_ble_eq_true rfl⟩) rfl hl.1 rfl (Nat.le_of_ble_eq_true rfl) dX4_moved_18 ⟨(Nat.le_of_ble_eq_true rfl), (Nat.le_of_ble_eq_true rfl)⟩ (fun i4 h => ?_)
    refine lv_i2l (v := (i4).toInt64) hx hb dX4_moved_21 rfl ?_
    refine lv_iconst (v := (nI 4)) hx hb dX4_moved_22 (by decide) ?_
    refine lv_lload_n hx hb dX4_moved_23 rfl (lv_at hl 3 rfl) ?_
    refine lv_iload hx hb dX4_moved_24 (lv_at hl 0 rfl) ?_
    refine cS_si (As := [.long v2, .int i1]) (rest := [.int (nI 4), .long (i4).toInt64, .long j2]) (n := 2) CF hZ (c_X4_at l v2 i1 _ h) (va_cwS 2 hts gX4_moved_X4_at rfl rfl rfl hdS_X4_at ⟨Nat.le_of_ble_eq_true rfl, Nat.le_of_ble_eq_true rfl⟩) rfl hl.1 rfl (Nat.le_of_ble_eq_true rfl) dX4_moved_26 ⟨(Nat.le_of_ble_eq_true rfl), (Nat.le_of_ble_eq_true rfl)⟩ (fun i5 h => ?_)
    refine lv_imul hx hb dX4_moved_29 ?_
    refine lv_lshl (v := (shlL (i4).toInt64 ((nI 4) * i5))) hx hb dX4_moved_30 rfl ?_
    refine lv_lor hx hb dX4_moved_31 ?_
    refine lv_topl (fun j6 ej6 => ?_)
    have h := h j6 ej6
    refine lv_lstore (lv' := [(4, .long j6), (6, .int i1), (0, .long v0), (2, .long v2)]) hx hb dX4_moved_32 hl (by decide) rfl (fun ls hl => ?_)
    obtain ⟨i7, ei7⟩ : ∃ y : Int32, y = i1 + (nI 1) := ⟨_, rfl⟩
    have h := h i7 ei7
    refine lv_iinc (v := i7) (lv' := [(6, .int i7), (4, .long j6), (0, .long v0), (2, .long v2)]) hx hb dX4_moved_34 hl (k := 1) rfl (by rw [ei7]; rfl) (by decide) rfl (fun ls hl => ?_)
    refine lv_goto (tgt := 6) hx hb dX4_moved_37 (by decide) ?_
    exact ih6 (i7, j6) _ h (lv_sub hl [0, 1, 2, 3] rfl)
theorem hdS_X6_back : yX6_back.cls ≠ "java/lang/invoke/MethodHandle" ∧ yX6_back.cls ≠ "java/lang/invoke/VarHandle" ∧ (parseMethodDescriptor yX6_back.desc).map (fun d => d.parameters.length) = some 1 := by decide +kernel
set_option maxHeartbeats 4000000 in
set_option maxRecDepth 100000 in
theorem c_X6_back (l : Launch) (v0 : Int64) (Post : Int64 → Prop) (h : wp_X6_back v0 Post) : Met l yX6_back wsX6_back ({ frames := 2, cells := 0, slots := 0, locals := 48 }) (va_Pc [.long v0] NZ) (vp_Sl Post) 0 0 (fun _ => False) := by
  refine Met.ofW (cc := cX6_back) (maxL := 2) (ret := (some .long)) (by decide) rfl ?_
  intro p e s m args below meth c s₁ B hml hv
  obtain ⟨rfl, hZ⟩ := hv
  have hx := B.exec
  have hb := B.bytes
  have hr := B.returns
  have hts := atoms_spec (ws := wsX6_back) B.pre
  have hown : s.vm.findClass RX6 = some m.cls := findClass_of_methodNamed B.named
  have hlocks := B.notSynchronized
  have CF : CallFix p m c cX6_back 2 s ([.long v0] : List Value).toArray wsX6_back RX6 := ⟨hx, hb, hml, hown, hts⟩
  have hl := lv_entry ([.long v0]) (n := 2) (Nat.le_of_ble_eq_true rfl)
  rw [lg_entry_eq]
  generalize (lg_sl ([.long v0]) ++ List.replicate (2 - (lg_sl ([.long v0])).length) Slot.unset).toArray = ls at hl ⊢
  have hl : lv_has ls 2 [(0, .long v0)] := hl
  unfold wp_X6_back at h
  refine lv_ldc2 hx hb hown (hts _ (List.mem_of_getElem? (i := 1) (by decide +kernel : wsX6_back[1]? = some (Cond.constantLong RX6 15 (205163983024656))))) dX6_back_0 ?_
  refine lv_lload_n hx hb dX6_back_3 rfl (lv_at hl 0 rfl) ?_
  refine cS_sl (As := [.long (205163983024656 : Int64), .long v0]) (rest := []) (n := 2) CF hZ (c_X4_moved l (205163983024656 : Int64) v0 _ h) (va_cwS 2 hts gX6_back_X4_moved rfl rfl rfl hdS_X4_moved ⟨Nat.le_of_ble_eq_true rfl, Nat.le_of_ble_eq_true rfl⟩) rfl hl.1 rfl (Nat.le_of_ble_eq_true rfl) dX6_back_4 ⟨(Nat.le_of_ble_eq_true rfl), (Nat.le_of_ble_eq_true rfl)⟩ (fun j1 h => ?_)
  exact W.lret hx hb hr (fun t ht hW => ⟨j1, rfl, h, ht⟩) no_locs dX6_back_7
theorem hdS_X1_wayOfPress : yX1_wayOfPress.cls ≠ "java/lang/invoke/MethodHandle" ∧ yX1_wayOfPress.cls ≠ "java/lang/invoke/VarHandle" ∧ (parseMethodDescriptor yX1_wayOfPress.desc).map (fun d => d.parameters.length) = some 1 := by decide +kernel
set_option maxHeartbeats 4000000 in
set_option maxRecDepth 100000 in
theorem c_X1_wayOfPress (l : Launch) (D : va_G) (Y : Nat → ClassId) (L : List Nat) (S : PS) (sz : Nat) (a0 : Nat) (v1 : Int32) (Post : Int64 → Prop) (h : wp_X1_wayOfPress S a0 v1 Post) : Met l yX1_wayOfPress wsX1_wayOfPress ({ frames := 3, cells := 0, slots := 0, locals := 69 }) (va_Pc [.ref a0, .int v1] (PrO D Y L S sz)) (vp_Sl Post) 0 0 (fun _ => False) := by
  refine Met.ofW (cc := cX1_wayOfPress) (maxL := 4) (ret := (some .long)) (by decide) rfl ?_
  intro p e s m args below meth c s₁ B hml hv
  obtain ⟨rfl, hsz, hJ, hP, hK, hD0, hZ⟩ := hv
  have hx := B.exec
  have hb := B.bytes
  have hr := B.returns
  have hts := atoms_spec (ws := wsX1_wayOfPress) B.pre
  have hown : s.vm.findClass RX1 = some m.cls := findClass_of_methodNamed B.named
  have hlocks := B.notSynchronized
  have CF : CallFix p m c cX1_wayOfPress 4 s ([.ref a0, .int v1] : List Value).toArray wsX1_wayOfPress RX1 := ⟨hx, hb, hml, hown, hts⟩
  have C : CX p m c cX1_wayOfPress 4 s ([.ref a0, .int v1] : List Value).toArray wsX1_wayOfPress RX1 D Y := ⟨CF, hK, hZ⟩
  have hO : HO D Y (fR L sz) s.heap S s.heap [] := HO.entry hsz hJ hP hD0
  subst hsz
  have hl := lv_entry ([.ref a0, .int v1]) (n := 4) (Nat.le_of_ble_eq_true rfl)
  rw [lg_entry_eq]
  generalize (lg_sl ([.ref a0, .int v1]) ++ List.replicate (4 - (lg_sl ([.ref a0, .int v1])).length) Slot.unset).toArray = ls at hl ⊢
  have hl : lv_has ls 4 [(0, .ref a0), (1, .int v1)] := hl
  unfold wp_X1_wayOfPress at h
  refine lv_aload_n hx hb dX1_wayOfPress_0 rfl (lv_at hl 0 rfl) ?_
  refine lv_iload_n hx hb dX1_wayOfPress_1 rfl (lv_at hl 1 rfl) ?_
  refine lv_bipush (v := (nI 6)) hx hb dX1_wayOfPress_2 (by decide) ?_
  refine lv_irem hx hb dX1_wayOfPress_4 (by decide) ?_
  obtain ⟨fs3, e2, h⟩ := h
  refine cV_ri (As := [.int (v1 - v1 / (nI 6) * (nI 6))]) (rest := []) (n := 1) C hO (fun L => c_X1_raisedBy l D Y L S s.heap.size a0 ((v1 - v1 / (nI 6) * (nI 6))) _ h) 1 rfl e2 (cwV 1 hts gX1_wayOfPress_X1_raisedBy rfl rfl rfl ⟨rfl, hdS_X1_raisedBy⟩ ⟨Nat.le_of_ble_eq_true rfl, Nat.le_of_ble_eq_true rfl⟩) rfl hl.1 rfl (Nat.le_of_ble_eq_true rfl) dX1_wayOfPress_5 ⟨(Nat.le_of_ble_eq_true rfl), (Nat.le_of_ble_eq_true rfl)⟩ (fun i1 h => ?_)
  refine cS_sl (As := [.int i1]) (rest := []) (n := 1) CF hZ (c_X6_round l i1 _ h) (va_cwS 1 hts gX1_wayOfPress_X6_round rfl rfl rfl hdS_X6_round ⟨Nat.le_of_ble_eq_true rfl, Nat.le_of_ble_eq_true rfl⟩) rfl hl.1 rfl (Nat.le_of_ble_eq_true rfl) dX1_wayOfPress_8 ⟨(Nat.le_of_ble_eq_true rfl), (Nat.le_of_ble_eq_true rfl)⟩ (fun j4 h => ?_)
  refine lv_lstore_n (lv' := [(2, .long j4), (0, .ref a0), (1, .int v1)]) hx hb dX1_wayOfPress_11 rfl hl (by decide) rfl (fun ls hl => ?_)
  refine lv_iload_n hx hb dX1_wayOfPress_12 rfl (lv_at hl 2 rfl) ?_
  refine lv_bipush (v := (nI 6)) hx hb dX1_wayOfPress_13 (by decide) ?_
  refine lv_icmp_ge (tgt := 22) hx hb dX1_wayOfPress_15 (by decide) (fun c5 => ?_) (fun c5 => ?_)
  · have h := h.1 c5
    refine lv_lload_n hx hb dX1_wayOfPress_22 rfl (lv_at hl 0 rfl) ?_
    refine cS_sl (As := [.long j4]) (rest := []) (n := 1) CF hZ (c_X6_back l j4 _ h) (va_cwS 1 hts gX1_wayOfPress_X6_back rfl rfl rfl hdS_X6_back ⟨Nat.le_of_ble_eq_true rfl, Nat.le_of_ble_eq_true rfl⟩) rfl hl.1 rfl (Nat.le_of_ble_eq_true rfl) dX1_wayOfPress_23 ⟨(Nat.le_of_ble_eq_true rfl), (Nat.le_of_ble_eq_true rfl)⟩ (fun j6 h => ?_)
    exact W.lret hx hb hr (fun t ht hW => ⟨j6, rfl, h, ht⟩) no_locs dX1_wayOfPress_26
  · have h := h.2 c5
    refine lv_lload_n hx hb dX1_wayOfPress_18 rfl (lv_at hl 0 rfl) ?_
    refine lv_goto (tgt := 26) hx hb dX1_wayOfPress_19 (by decide) ?_
    exact W.lret hx hb hr (fun t ht hW => ⟨j4, rfl, h, ht⟩) no_locs dX1_wayOfPress_26
theorem hdS_X1_wayOf : yX1_wayOf.cls ≠ "java/lang/invoke/MethodHandle" ∧ yX1_wayOf.cls ≠ "java/lang/invoke/VarHandle" ∧ (parseMethodDescriptor yX1_wayOf.desc).map (fun d => d.parameters.length) = some 1 := by decide +kernel
set_option maxHeartbeats 4000000 in
set_option maxRecDepth 100000 in
theorem c_X1_wayOf (l : Launch) (D : va_G) (Y : Nat → ClassId) (L : List Nat) (S : PS) (sz : Nat) (a0 : Nat) (v1 : Int32) (Post : Int64 → Prop) (h : wp_X1_wayOf S a0 v1 Post) : Met l yX1_wayOf wsX1_wayOf ({ frames := 4, cells := 0, slots := 0, locals := 92 }) (va_Pc [.ref a0, .int v1] (PrO D Y L S sz)) (vp_Sl Post) 0 0 (fun _ => False) := by
  refine Met.ofW (cc := cX1_wayOf) (maxL := 6) (ret := (some .long)) (by decide) rfl ?_
  intro p e s m args below meth c s₁ B hml hv
  obtain ⟨rfl, hsz, hJ, hP, hK, hD0, hZ⟩ := hv
  have hx := B.exec
  have hb := B.bytes
  have hr := B.returns
  have hts := atoms_spec (ws := wsX1_wayOf) B.pre
  have hown : s.vm.findClass RX1 = some m.cls := findClass_of_methodNamed B.named
  have hlocks := B.notSynchronized
  have CF : CallFix p m c cX1_wayOf 6 s ([.ref a0, .int v1] : List Value).toArray wsX1_wayOf RX1 := ⟨hx, hb, hml, hown, hts⟩
  have C : CX p m c cX1_wayOf 6 s ([.ref a0, .int v1] : List Value).toArray wsX1_wayOf RX1 D Y := ⟨CF, hK, hZ⟩
  have hO : HO D Y (fR L sz) s.heap S s.heap [] := HO.entry hsz hJ hP hD0
  subst hsz
  have inX0 : ∀ w ∈ wsX00, w ∈ wsX1_wayOf := fun w h => List.mem_cons_of_mem _ (List.mem_append_left _ (List.mem_append_right _ h))
  have hl := lv_entry ([.ref a0, .int v1]) (n := 6) (Nat.le_of_ble_eq_true rfl)
  rw [lg_entry_eq]
  generalize (lg_sl ([.ref a0, .int v1]) ++ List.replicate (6 - (lg_sl ([.ref a0, .int v1])).length) Slot.unset).toArray = ls at hl ⊢
  have hl : lv_has ls 6 [(0, .ref a0), (1, .int v1)] := hl
  unfold wp_X1_wayOf at h
  refine lv_aload_n hx hb dX1_wayOf_0 rfl (lv_at hl 0 rfl) ?_
  refine lv_iload_n hx hb dX1_wayOf_1 rfl (lv_at hl 1 rfl) ?_
  obtain ⟨fs2, e1, h⟩ := h
  refine cV_rq (As := [.int v1]) (rest := []) (n := 1) C hO (fun L => c_X1_draftAt l D Y L S s.heap.size a0 v1 _ h) 1 rfl e1 (cwV 1 hts gX1_wayOf_X1_draftAt rfl rfl rfl ⟨rfl, hdS_X1_draftAt⟩ ⟨Nat.le_of_ble_eq_true rfl, Nat.le_of_ble_eq_true rfl⟩) rfl hl.1 rfl (Nat.le_of_ble_eq_true rfl) dX1_wayOf_2 ⟨(Nat.le_of_ble_eq_true rfl), (Nat.le_of_ble_eq_true rfl)⟩ (fun rq h => ?_)
  rcases rq with _ | a3
  · have h := h.1 rfl
    show W _ _ _ _ _ _ _ _ _ _ _ _ _ _ _ (F0 _ _ _ (.null :: _))
    refine lv_astore_nN (lv' := [(2, .null), (0, .ref a0), (1, .int v1)]) hx hb dX1_wayOf_5 rfl hl (by decide) rfl (fun ls hl => ?_)
    refine lv_aload_nN hx hb dX1_wayOf_6 rfl (lv_at hl 0 rfl) ?_
    refine lv_ifnonnullN hx hb dX1_wayOf_7 ?_
    refine lv_ldc2 hx hb hown (hts _ (List.mem_of_getElem? (i := 1) (by decide +kernel : wsX1_wayOf[1]? = some (Cond.constantLong RX1 19 (205163983024656))))) dX1_wayOf_10 ?_
    exact W.lret hx hb hr (fun t ht hW => ⟨(205163983024656 : Int64), rfl, h, ht⟩) no_locs dX1_wayOf_13
  · have h := h.2 a3 rfl
    show W _ _ _ _ _ _ _ _ _ _ _ _ _ _ _ (F0 _ _ _ (.ref a3 :: _))
    refine lv_astore_n (lv' := [(2, .ref a3), (0, .ref a0), (1, .int v1)]) hx hb dX1_wayOf_5 rfl hl (by decide) rfl (fun ls hl => ?_)
    refine lv_aload_n hx hb dX1_wayOf_6 rfl (lv_at hl 0 rfl) ?_
    refine lv_ifnonnull (tgt := 14) hx hb dX1_wayOf_7 (by decide) ?_
    refine lv_ldc2 hx hb hown (hts _ (List.mem_of_getElem? (i := 1) (by decide +kernel : wsX1_wayOf[1]? = some (Cond.constantLong RX1 19 (205163983024656))))) dX1_wayOf_14 ?_
    refine lv_lstore_n (lv' := [(3, .long (205163983024656 : Int64)), (2, .ref a3), (0, .ref a0), (1, .int v1)]) hx hb dX1_wayOf_17 rfl hl (by decide) rfl (fun ls hl => ?_)
    refine lv_iconst (v := (nI 0)) hx hb dX1_wayOf_18 (by decide) ?_
    refine lv_istore (lv' := [(5, .int (nI 0)), (3, .long (205163983024656 : Int64)), (2, .ref a3), (0, .ref a0), (1, .int v1)]) hx hb dX1_wayOf_19 hl (by decide) rfl (fun ls hl => ?_)
    obtain ⟨n19, h⟩ := h
    refine lp_P (nL := 6) (fun q => [(5, .int q.1), (3, .long q.2), (2, .ref a3), (0, .ref a0)]) h (lv_sub hl [0, 1, 2, 3] rfl) (fun K21 ih21 q ls h hl => ?_)
    obtain ⟨i4, j5⟩ := q
    have h : wpb_X1_wayOf_21 S a0 a3 Post K21 i4 j5 := h
    have hl : lv_has ls 6 [(5, .int i4), (3, .long j5), (2, .ref a3), (0, .ref a0)] := hl
    unfold wpb_X1_wayOf_21 at h
    refine lv_iload hx hb dX1_wayOf_21 (lv_at hl 0 rfl) ?_
    refine lv_aload_n hx hb dX1_wayOf_23 rfl (lv_at hl 2 rfl) ?_
    obtain ⟨fs6, i7, e8, e8', h⟩ := h
    refine r_get C hO 0 1 rfl inX0 (Nat.le_of_ble_eq_true rfl) e8 e8' (List.mem_of_getElem? (i := 2) (by decide +kernel)) dX1_wayOf_24 ?_
    refine lv_icmp_ge (tgt := 58) hx hb dX1_wayOf_27 (by decide) (fun c9 => ?_) (fun c9 => ?_)
    · have h := h.1 c9
      refine lv_lload_n hx hb dX1_wayOf_58 rfl (lv_at hl 1 rfl) ?_
      exact W.lret hx hb hr (fun t ht hW => ⟨j5, rfl, h, ht⟩) no_locs dX1_wayOf_59
    · have h := h.2 c9
      refine lv_iload hx hb dX1_wayOf_30 (lv_at hl 0 rfl) ?_
      refine lv_bipush (v := (nI 24)) hx hb dX1_wayOf_32 (by decide) ?_
      refine lv_icmp_ge (tgt := 58) hx hb dX1_wayOf_34 (by decide) (fun c10 => ?_) (fun c10 => ?_)
      · have h := h.1 c10
        refine lv_lload_n hx hb dX1_wayOf_58 rfl (lv_at hl 1 rfl) ?_
        exact W.lret hx hb hr (fun t ht hW => ⟨j5, rfl, h, ht⟩) no_locs dX1_wayOf_59
      · have h := h.2 c10
        refine lv_lload_n hx hb dX1_wayOf_37 rfl (lv_at hl 1 rfl) ?_
        refine lv_aload_n hx hb dX1_wayOf_38 rfl (lv_at hl 3 rfl) ?_
        refine lv_aload_n hx hb dX1_wayOf_39 rfl (lv_at hl 2 rfl) ?_
        refine lv_iload hx hb dX1_wayOf_40 (lv_at hl 0 rfl) ?_
        obtain ⟨fs13, e12, h⟩ := h
        refine cV_ri (As := [.int i4]) (rest := [.ref a0, .long j5]) (n := 1) C hO (fun L => c_X0_pressAt l D Y L S s.heap.size a3 i4 _ h) 0 rfl e12 (cwV 1 hts gX1_wayOf_X0_pressAt rfl rfl rfl ⟨rfl, hdS_X0_pressAt⟩ ⟨Nat.le_of_ble_eq_true rfl, Nat.le_of_ble_eq_true rfl⟩) rfl hl.1 rfl (Nat.le_of_ble_eq_true rfl) dX1_wayOf_42 ⟨(Nat.le_of_ble_eq_true rfl), (Nat.le_of_ble_eq_true rfl)⟩ (fun i11 h => ?_)
        obtain ⟨fs16, e15, h⟩ := h
        refine cV_rl (As := [.int i11]) (rest := [.long j5]) (n := 1) C hO (fun L => c_X1_wayOfPress l D Y L S s.heap.size a0 i11 _ h) 1 rfl e15 (cwV 1 hts gX1_wayOf_X1_wayOfPress rfl rfl rfl ⟨rfl, hdS_X1_wayOfPress⟩ ⟨Nat.le_of_ble_eq_true rfl, Nat.le_of_ble_eq_true rfl⟩) rfl hl.1 rfl (Nat.le_of_ble_eq_true rfl) dX1_wayOf_45 ⟨(Nat.le_of_ble_eq_true rfl), (Nat.le_of_ble_eq_true rfl)⟩ (fun j14 h => ?_)
        refine cS_sl (As := [.long j5, .long j14]) (rest := []) (n := 2) CF hZ (c_X6_then l j5 j14 _ h) (va_cwS 2 hts gX1_wayOf_X6_then rfl rfl rfl hdS_X6_then ⟨Nat.le_of_ble_eq_true rfl, Nat.le_of_ble_eq_true rfl⟩) rfl hl.1 rfl (Nat.le_of_ble_eq_true rfl) dX1_wayOf_48 ⟨(Nat.le_of_ble_eq_true rfl), (Nat.le_of_ble_eq_true rfl)⟩ (fun j17 h => ?_)
        refine lv_lstore_n (lv' := [(3, .long j17), (5, .int i4), (2, .ref a3), (0, .ref a0)]) hx hb dX1_wayOf_51 rfl hl (by decide) rfl (fun ls hl => ?_)
        obtain ⟨i18, ei18⟩ : ∃ y : Int32, y = i4 + (nI 1) := ⟨_, rfl⟩
        have h := h i18 ei18
        refine lv_iinc (v := i18) (lv' := [(5, .int i18), (3, .long j17), (2, .ref a3), (0, .ref a0)]) hx hb dX1_wayOf_52 hl (k := 1) rfl (by rw [ei18]; rfl) (by decide) rfl (fun ls hl => ?_)
        refine lv_goto (tgt := 21) hx hb dX1_wayOf_55 (by decide) ?_
        exact ih21 (i18, j17) _ h (lv_sub hl [0, 1, 2, 3] rfl)
theorem hdS_X2_init : yX2_init.cls ≠ "java/lang/invoke/MethodHandle" ∧ yX2_init.cls ≠ "java/lang/invoke/VarHandle" ∧ (parseMethodDescriptor yX2_init.desc).map (fun d => d.parameters.length) = some 0 := by decide +kernel
set_option maxHeartbeats 4000000 in
set_option maxRecDepth 100000 in
theorem c_X2_init (l : Launch) (D : va_G) (Y : Nat → ClassId) (L : List Nat) (S : PS) (sz : Nat) (a0 : Nat) (Post : PS → Prop) (h : wp_X2_init S a0 Post) : Met l yX2_init wsX2_init ({ frames := 1, cells := 1, slots := 40, locals := 12 }) (va_Pc [.ref a0] (PrO D Y L S sz)) (va_Qv Post (QtO D Y (fR L sz)) (fR L sz)) 1 40 (fR L sz) := by
  refine Met.ofW (cc := cX2_init) (maxL := 1) (ret := none) (by decide) rfl ?_
  intro p e s m args below meth c s₁ B hml hv
  obtain ⟨rfl, hsz, hJ, hP, hK, hD0, hZ⟩ := hv
  have hx := B.exec
  have hb := B.bytes
  have hr := B.returns
  have hts := atoms_spec (ws := wsX2_init) B.pre
  have hown : s.vm.findClass RX2 = some m.cls := findClass_of_methodNamed B.named
  have hlocks := B.notSynchronized
  have hin : meth.name = "<init>" := (name_of_methodNamed B.named B.method).1
  have CF : CallFix p m c cX2_init 1 s ([.ref a0] : List Value).toArray wsX2_init RX2 := ⟨hx, hb, hml, hown, hts⟩
  have C : CX p m c cX2_init 1 s ([.ref a0] : List Value).toArray wsX2_init RX2 D Y := ⟨CF, hK, hZ⟩
  have hO : HO D Y (fR L sz) s.heap S s.heap [] := HO.entry hsz hJ hP hD0
  subst hsz
  have inX2 : ∀ w ∈ wsX20, w ∈ wsX2_init := fun w h => List.mem_cons_of_mem _ (List.mem_append_right _ h)
  have hl := lv_entry ([.ref a0]) (n := 1) (Nat.le_of_ble_eq_true rfl)
  rw [lg_entry_eq]
  generalize (lg_sl ([.ref a0]) ++ List.replicate (1 - (lg_sl ([.ref a0])).length) Slot.unset).toArray = ls at hl ⊢
  have hl : lv_has ls 1 [(0, .ref a0)] := hl
  unfold wp_X2_init at h
  refine lv_aload_n hx hb dX2_init_0 rfl (lv_at hl 0 rfl) ?_
  refine W.objInit hx hb hown (hts _ (List.mem_of_getElem? (i := 1) (by decide +kernel : wsX2_init[1]? = some (Cond.methodLink RX2 3 objectInit)))) (hts _ (List.mem_of_getElem? (i := 2) (by decide +kernel : wsX2_init[2]? = some (Cond.instanceMethod objectInit)))) (hts _ (List.mem_of_getElem? (i := 3) (by decide +kernel : wsX2_init[3]? = some (Cond.code objectInit ⟨#[0xb1]⟩ 1 none)))) rfl (by rw [hml]; exact hl.1) rfl dX2_init_1 (Nat.le_of_ble_eq_true rfl) (Nat.le_of_ble_eq_true rfl) ?_
  refine W.eq (g2 := F0 m 4 ls []) rfl ?_
  refine lv_aload_n hx hb dX2_init_4 rfl (lv_at hl 0 rfl) ?_
  refine lv_bipush (v := (nI 40)) hx hb dX2_init_5 (by decide) ?_
  refine r_newa (k := 0) (ty := .char) (N' := 40) C hO (by intro C h; cases h) rfl rfl (List.mem_of_getElem? (i := 4) (by decide +kernel)) (40, .inl (fun _ => 0)) (fun _ => rfl) (by decide) (by decide) (Nat.le_of_ble_eq_true rfl) (Nat.le_of_ble_eq_true rfl) (Nat.le_of_ble_eq_true rfl) dX2_init_7 (fun a1 H hqa1 hO => ?_)
  obtain ⟨S2, eS2⟩ : ∃ Sx, Sx = va_up S a1 (aC 40 (fun _ => 0)) := ⟨_, rfl⟩
  have hO := (show HO D Y (fR L s.heap.size) s.heap (va_up S a1 (aC 40 (fun _ => 0))) H _ from hO)
  rw [← eS2] at hO
  have h := h a1 hqa1 S2 eS2
  obtain ⟨fs3, e4, e4', h⟩ := h
  refine r_putF C hO 2 0 hin rfl inX2 tyX2_ok nmX2 (Nat.le_of_ble_eq_true rfl) rfl rfl rfl rfl e4 e4' (List.mem_of_getElem? (i := 5) (by decide +kernel)) dX2_init_9 (fun H locs hO => ?_)
  obtain ⟨S5, eS5⟩ : ∃ Sx, Sx = va_up S2 a0 (.inl (2, fs3.set 0 (.ref a1))) := ⟨_, rfl⟩
  rw [← eS5] at hO
  have h := h S5 eS5
  refine lv_aload_n hx hb dX2_init_12 rfl (lv_at hl 0 rfl) ?_
  refine lv_iconst (v := (nI 0)) hx hb dX2_init_13 (by decide) ?_
  obtain ⟨fs6, e7, e7', h⟩ := h
  refine r_put C hO 2 1 rfl inX2 tyX2_ok nmX2 (Nat.le_of_ble_eq_true rfl) rfl rfl rfl e7 e7' (List.mem_of_getElem? (i := 6) (by decide +kernel)) dX2_init_14 (fun H locs hO => ?_)
  obtain ⟨S8, eS8⟩ : ∃ Sx, Sx = va_up S5 a0 (.inl (2, fs6.set 1 (.int (nI 0)))) := ⟨_, rfl⟩
  rw [← eS8] at hO
  have h := h S8 eS8
  exact W.vret hx hb hr (fun t ht hW => ⟨⟨S8, rfl, h, hO.q ht⟩, hO.f ht⟩) hO.lc dX2_init_17
theorem hdS_X2_signsIn : yX2_signsIn.cls ≠ "java/lang/invoke/MethodHandle" ∧ yX2_signsIn.cls ≠ "java/lang/invoke/VarHandle" ∧ (parseMethodDescriptor yX2_signsIn.desc).map (fun d => d.parameters.length) = some 1 := by decide +kernel
set_option maxHeartbeats 4000000 in
set_option maxRecDepth 100000 in
theorem c_X2_signsIn (l : Launch) (v0 : Int64) (Post : Int32 → Prop) (h : wp_X2_signsIn v0 Post) : Met l yX2_signsIn wsX2_signsIn ({ frames := 0, cells := 0, slots := 0, locals := 0 }) (va_Pc [.long v0] NZ) (vp_Si Post) 0 0 (fun _ => False) := by
  refine Met.ofW (cc := cX2_signsIn) (maxL := 7) (ret := (some .int)) (by decide) rfl ?_
  intro p e s m args below meth c s₁ B hml hv
  obtain ⟨rfl, hZ⟩ := hv
  have hx := B.exec
  have hb := B.bytes
  have hr := B.returns
  have hts := atoms_spec (ws := wsX2_signsIn) B.pre
  have hown : s.vm.findClass RX2 = some m.cls := findClass_of_methodNamed B.named
  have hlocks := B.notSynchronized
  have CF : CallFix p m c cX2_signsIn 7 s ([.long v0] : List Value).toArray wsX2_signsIn RX2 := ⟨hx, hb, hml, hown, hts⟩
  have hl := lv_entry ([.long v0]) (n := 7) (Nat.le_of_ble_eq_true rfl)
  rw [lg_entry_eq]
  generalize (lg_sl ([.long v0]) ++ List.replicate (7 - (lg_sl ([.long v0])).length) Slot.unset).toArray = ls at hl ⊢
  have hl : lv_has ls 7 [(0, .long v0)] := hl
  unfold wp_X2_signsIn at h
  refine lv_iconst (v := (nI 0)) hx hb dX2_signsIn_0 (by decide) ?_
  refine lv_istore_n (lv' := [(2, .int (nI 0)), (0, .long v0)]) hx hb dX2_signsIn_1 rfl hl (by decide) rfl (fun ls hl => ?_)
  refine lv_lload_n hx hb dX2_signsIn_2 rfl (lv_at hl 1 rfl) ?_
  refine lv_lstore_n (lv' := [(3, .long v0), (2, .int (nI 0)), (0, .long v0)]) hx hb dX2_signsIn_3 rfl hl (by decide) rfl (fun ls hl => ?_)
  obtain ⟨n12, h⟩ := h
  refine lp_P (nL := 7) (fun q => [(3, .long q.1), (2, .int q.2)]) h (lv_sub hl [0, 1] rfl) (fun K4 ih4 q ls h hl => ?_)
  obtain ⟨j1, i2⟩ := q
  have h : wpb_X2_signsIn_4 Post K4 j1 i2 := h
  have hl : lv_has ls 7 [(3, .long j1), (2, .int i2)] := hl
  unfold wpb_X2_signsIn_4 at h
  refine lv_iload_n hx hb dX2_signsIn_4 rfl (lv_at hl 1 rfl) ?_
  refine lv_bipush (v := (nI 8)) hx hb dX2_signsIn_5 (by decide) ?_
  refine lv_icmp_ge (tgt := 58) hx hb dX2_signsIn_7 (by decide) (fun c3 => ?_) (fun c3 => ?_)
  · have h := h.1 c3
    refine lv_lload_n hx hb dX2_signsIn_58 rfl (lv_at hl 0 rfl) ?_
    refine lv_lconst (v := (lN 0)) hx hb dX2_signsIn_59 (by decide) ?_
    refine W.lcmp hx hb dX2_signsIn_60 ?_
    refine lv_if_ne (tgt := 68) hx hb dX2_signsIn_61 (by decide) (fun c4 => ?_) (fun c4 => ?_)
    · have h := h.2 c4
      refine lv_iconst (v := (nI 0)) hx hb dX2_signsIn_68 (by decide) ?_
      exact W.iret hx hb hr (fun t ht hW => ⟨(nI 0), rfl, h, ht⟩) no_locs dX2_signsIn_69
    · have h := h.1 c4
      refine lv_iload_n hx hb dX2_signsIn_64 rfl (lv_at hl 1 rfl) ?_
      refine lv_goto (tgt := 69) hx hb dX2_signsIn_65 (by decide) ?_
      exact W.iret hx hb hr (fun t ht hW => ⟨i2, rfl, h, ht⟩) no_locs dX2_signsIn_69
  · have h := h.2 c3
    refine lv_lload_n hx hb dX2_signsIn_10 rfl (lv_at hl 0 rfl) ?_
    refine lv_ldc2 hx hb hown (hts _ (List.mem_of_getElem? (i := 1) (by decide +kernel : wsX2_signsIn[1]? = some (Cond.constantLong RX2 19 (255))))) dX2_signsIn_11 ?_
    refine lv_land hx hb dX2_signsIn_14 ?_
    refine lv_lconst (v := (lN 0)) hx hb dX2_signsIn_15 (by decide) ?_
    refine W.lcmp hx hb dX2_signsIn_16 ?_
    refine lv_if_eq (tgt := 58) hx hb dX2_signsIn_17 (by decide) (fun c5 => ?_) (fun c5 => ?_)
    · have h := h.1 c5
      refine lv_lload_n hx hb dX2_signsIn_58 rfl (lv_at hl 0 rfl) ?_
      refine lv_lconst (v := (lN 0)) hx hb dX2_signsIn_59 (by decide) ?_
      refine W.lcmp hx hb dX2_signsIn_60 ?_
      refine lv_if_ne (tgt := 68) hx hb dX2_signsIn_61 (by decide) (fun c6 => ?_) (fun c6 => ?_)
      · have h := h.2 c6
        refine lv_iconst (v := (nI 0)) hx hb dX2_signsIn_68 (by decide) ?_
        exact W.iret hx hb hr (fun t ht hW => ⟨(nI 0), rfl, h, ht⟩) no_locs dX2_signsIn_69
      · have h := h.1 c6
        refine lv_iload_n hx hb dX2_signsIn_64 rfl (lv_at hl 1 rfl) ?_
        refine lv_goto (tgt := 69) hx hb dX2_signsIn_65 (by decide) ?_
        exact W.iret hx hb hr (fun t ht hW => ⟨i2, rfl, h, ht⟩) no_locs dX2_signsIn_69
    · have h := h.2 c5
      refine lv_lload_n hx hb dX2_signsIn_20 rfl (lv_at hl 0 rfl) ?_
      refine lv_ldc2 hx hb hown (hts _ (List.mem_of_getElem? (i := 1) (by decide +kernel : wsX2_signsIn[1]? = some (Cond.constantLong RX2 19 (255))))) dX2_signsIn_21 ?_
      refine lv_land hx hb dX2_signsIn_24 ?_
      refine lv_topl (fun j7 ej7 => ?_)
      have h := h j7 ej7
      refine lv_lstore (lv' := [(5, .long j7), (3, .long j1), (2, .int i2)]) hx hb dX2_signsIn_25 hl (by decide) rfl (fun ls hl => ?_)
      refine lv_lload hx hb dX2_signsIn_27 (lv_at hl 0 rfl) ?_
      refine lv_ldc2 hx hb hown (hts _ (List.mem_of_getElem? (i := 2) (by decide +kernel : wsX2_signsIn[2]? = some (Cond.constantLong RX2 21 (33))))) dX2_signsIn_29 ?_
      refine W.lcmp hx hb dX2_signsIn_32 ?_
      refine lv_if_lt (tgt := 45) hx hb dX2_signsIn_33 (by decide) (fun c8 => ?_) (fun c8 => ?_)
      · have h := h.1 c8
        refine lv_iconst (v := (nI 0)) hx hb dX2_signsIn_45 (by decide) ?_
        exact W.iret hx hb hr (fun t ht hW => ⟨(nI 0), rfl, h, ht⟩) no_locs dX2_signsIn_46
      · have h := h.2 c8
        refine lv_lload hx hb dX2_signsIn_36 (lv_at hl 0 rfl) ?_
        refine lv_ldc2 hx hb hown (hts _ (List.mem_of_getElem? (i := 3) (by decide +kernel : wsX2_signsIn[3]? = some (Cond.constantLong RX2 23 (126))))) dX2_signsIn_38 ?_
        refine W.lcmp hx hb dX2_signsIn_41 ?_
        refine lv_if_le (tgt := 47) hx hb dX2_signsIn_42 (by decide) (fun c9 => ?_) (fun c9 => ?_)
        · have h := h.1 c9
          refine lv_lload_n hx hb dX2_signsIn_47 rfl (lv_at hl 1 rfl) ?_
          refine lv_bipush (v := (nI 8)) hx hb dX2_signsIn_48 (by decide) ?_
          refine lv_lushr (v := (uShrL j1 (nI 8))) hx hb dX2_signsIn_50 rfl ?_
          refine lv_topl (fun j10 ej10 => ?_)
          have h := h j10 ej10
          refine lv_lstore_n (lv' := [(3, .long j10), (5, .long j7), (2, .int i2)]) hx hb dX2_signsIn_51 rfl hl (by decide) rfl (fun ls hl => ?_)
          obtain ⟨i11, ei11⟩ : ∃ y : Int32, y = i2 + (nI 1) := ⟨_, rfl⟩
          have h := h i11 ei11
          refine lv_iinc (v := i11) (lv' := [(2, .int i11), (3, .long j10), (5, .long j7)]) hx hb dX2_signsIn_52 hl (k := 2) rfl (by rw [ei11]; rfl) (by decide) rfl (fun ls hl => ?_)
          refine lv_goto (tgt := 4) hx hb dX2_signsIn_55 (by decide) ?_
          exact ih4 (j10, i11) _ h (lv_sub hl [1, 0] rfl)
        · have h := h.2 c9
          refine lv_iconst (v := (nI 0)) hx hb dX2_signsIn_45 (by decide) ?_
          exact W.iret hx hb hr (fun t ht hW => ⟨(nI 0), rfl, h, ht⟩) no_locs dX2_signsIn_46
theorem hdS_X2_append : yX2_append.cls ≠ "java/lang/invoke/MethodHandle" ∧ yX2_append.cls ≠ "java/lang/invoke/VarHandle" ∧ (parseMethodDescriptor yX2_append.desc).map (fun d => d.parameters.length) = some 2 := by decide +kernel
set_option maxHeartbeats 4000000 in
set_option maxRecDepth 100000 in
theorem c_X2_append (l : Launch) (D : va_G) (Y : Nat → ClassId) (L : List Nat) (S : PS) (sz : Nat) (a0 : Nat) (v1 : Int64) (v3 : Int32) (Post : PS → Prop) (h : wp_X2_append S a0 v1 v3 Post) : Met l yX2_append wsX2_append ({ frames := 1, cells := 0, slots := 0, locals := 21 }) (va_Pc [.ref a0, .long v1, .int v3] (PrO D Y L S sz)) (va_Qv Post (QtO D Y (fR L sz)) (fR L sz)) 0 0 (fR L sz) := by
  refine Met.ofW (cc := cX2_append) (maxL := 5) (ret := none) (by decide) rfl ?_
  intro p e s m args below meth c s₁ B hml hv
  obtain ⟨rfl, hsz, hJ, hP, hK, hD0, hZ⟩ := hv
  have hx := B.exec
  have hb := B.bytes
  have hr := B.returns
  have hts := atoms_spec (ws := wsX2_append) B.pre
  have hown : s.vm.findClass RX2 = some m.cls := findClass_of_methodNamed B.named
  have hlocks := B.notSynchronized
  have CF : CallFix p m c cX2_append 5 s ([.ref a0, .long v1, .int v3] : List Value).toArray wsX2_append RX2 := ⟨hx, hb, hml, hown, hts⟩
  have C : CX p m c cX2_append 5 s ([.ref a0, .long v1, .int v3] : List Value).toArray wsX2_append RX2 D Y := ⟨CF, hK, hZ⟩
  have hO : HO D Y (fR L sz) s.heap S s.heap [] := HO.entry hsz hJ hP hD0
  subst hsz
  have inX2 : ∀ w ∈ wsX20, w ∈ wsX2_append := fun w h => List.mem_cons_of_mem _ (List.mem_append_right _ h)
  have hl := lv_entry ([.ref a0, .long v1, .int v3]) (n := 5) (Nat.le_of_ble_eq_true rfl)
  rw [lg_entry_eq]
  generalize (lg_sl ([.ref a0, .long v1, .int v3]) ++ List.replicate (5 - (lg_sl ([.ref a0, .long v1, .int v3])).length) Slot.unset).toArray = ls at hl ⊢
  have hl : lv_has ls 5 [(0, .ref a0), (1, .long v1), (3, .int v3)] := hl
  unfold wp_X2_append at h
  refine lv_iload_n hx hb dX2_append_0 rfl (lv_at hl 2 rfl) ?_
  refine lv_iconst (v := (nI 1)) hx hb dX2_append_1 (by decide) ?_
  refine lv_isub hx hb dX2_append_2 ?_
  refine lv_topi (fun i1 ei1 => ?_)
  have h := h i1 ei1
  refine lv_istore (lv' := [(4, .int i1), (0, .ref a0), (1, .long v1), (3, .int v3)]) hx hb dX2_append_3 hl (by decide) rfl (fun ls hl => ?_)
  obtain ⟨n27, h⟩ := h
  refine lp_W (nL := 5) (fun q => [(4, .int q.1), (0, .ref a0), (1, .long v1)]) (fun q => q.2) h (lv_sub hl [0, 1, 2] rfl) hO (fun K5 ih5 q ls H locs h hl hO => ?_)
  obtain ⟨i2, S3⟩ := q
  have h : wpb_X2_append_5 a0 v1 Post K5 i2 S3 := h
  have hl : lv_has ls 5 [(4, .int i2), (0, .ref a0), (1, .long v1)] := hl
  have hO : HO D Y (fR L s.heap.size) s.heap S3 H locs := hO
  unfold wpb_X2_append_5 at h
  refine lv_iload hx hb dX2_append_5 (lv_at hl 0 rfl) ?_
  refine lv_if_lt (tgt := 61) hx hb dX2_append_7 (by decide) (fun c4 => ?_) (fun c4 => ?_)
  · have h := h.1 c4
    exact W.vret hx hb hr (fun t ht hW => ⟨⟨S3, rfl, h, hO.q ht⟩, hO.f ht⟩) hO.lc dX2_append_61
  · have h := h.2 c4
    refine lv_aload_n hx hb dX2_append_10 rfl (lv_at hl 1 rfl) ?_
    obtain ⟨fs5, i6, e7, e7', h⟩ := h
    refine r_get C hO 2 1 rfl inX2 (Nat.le_of_ble_eq_true rfl) e7 e7' (List.mem_of_getElem? (i := 1) (by decide +kernel)) dX2_append_11 ?_
    refine lv_bipush (v := (nI 40)) hx hb dX2_append_14 (by decide) ?_
    refine cN_si (As := [.int i6, .int (nI 40)]) (rest := []) (n := 2) CF hZ (c_X7_isBelow l i6 (nI 40) _ h) ⟨va_cnB 2 hts gX2_append_X7_isBelow_n25 rfl rfl rfl (hZ.nest 12 rfl) (hts _ (List.mem_of_getElem? (i := 5) (by decide +kernel : wsX2_append[5]? = some (Cond.initialized RX7)))) hdS_X7_isBelow ⟨Nat.le_of_ble_eq_true rfl, Nat.le_of_ble_eq_true rfl⟩, (hts _ (List.mem_of_getElem? (i := 4) (by decide +kernel : wsX2_append[4]? = some (Cond.static yX7_isBelow)))), trivial⟩ rfl hl.1 rfl (Nat.le_of_ble_eq_true rfl) dX2_append_16 ⟨(Nat.le_of_ble_eq_true rfl), (Nat.le_of_ble_eq_true rfl)⟩ (fun i8 h => ?_)
    refine lv_if_ne (tgt := 23) hx hb dX2_append_19 (by decide) (fun c9 => ?_) (fun c9 => ?_)
    · have h := h.2 c9
      refine lv_aload_n hx hb dX2_append_23 rfl (lv_at hl 1 rfl) ?_
      obtain ⟨fs10, a11, e12, e12', h⟩ := h
      refine r_get C hO 2 0 rfl inX2 (Nat.le_of_ble_eq_true rfl) e12 e12' (List.mem_of_getElem? (i := 2) (by decide +kernel)) dX2_append_24 ?_
      refine lv_aload_n hx hb dX2_append_27 rfl (lv_at hl 1 rfl) ?_
      obtain ⟨fs13, i14, e15, e15', h⟩ := h
      refine r_get C hO 2 1 rfl inX2 (Nat.le_of_ble_eq_true rfl) e15 e15' (List.mem_of_getElem? (i := 1) (by decide +kernel)) dX2_append_28 ?_
      refine lv_lload_n hx hb dX2_append_31 rfl (lv_at hl 2 rfl) ?_
      refine lv_bipush (v := (nI 8)) hx hb dX2_append_32 (by decide) ?_
      refine lv_iload hx hb dX2_append_34 (lv_at hl 0 rfl) ?_
      refine lv_imul hx hb dX2_append_36 ?_
      refine lv_lushr (v := (uShrL v1 ((nI 8) * i2))) hx hb dX2_append_37 rfl ?_
      refine lv_ldc2 hx hb hown (hts _ (List.mem_of_getElem? (i := 3) (by decide +kernel : wsX2_append[3]? = some (Cond.constantLong RX2 19 (255))))) dX2_append_38 ?_
      refine lv_land hx hb dX2_append_41 ?_
      refine lv_l2i (v := (((uShrL v1 ((nI 8) * i2)) &&& (255 : Int64))).toInt32) hx hb dX2_append_42 rfl ?_
      refine lv_i2c (v := (i2c (((uShrL v1 ((nI 8) * i2)) &&& (255 : Int64))).toInt32)) hx hb dX2_append_43 rfl ?_
      obtain ⟨n16, f17, e18, e18', h⟩ := h
      refine r_cast C hO e18 e18' dX2_append_44 (fun H locs hO => ?_)
      obtain ⟨S19, eS19⟩ : ∃ Sx, Sx = va_up S3 a11 (aC n16 (upd f17 (i14).toNatClampNeg (vp_nar .char (i2c (((uShrL v1 ((nI 8) * i2)) &&& (255 : Int64))).toInt32)))) := ⟨_, rfl⟩
      rw [← eS19] at hO
      have h := h S19 eS19
      refine lv_aload_n hx hb dX2_append_45 rfl (lv_at hl 1 rfl) ?_
      refine lv_dup hx hb dX2_append_46 rfl ?_
      obtain ⟨fs20, i21, e22, e22', h⟩ := h
      refine r_get C hO 2 1 rfl inX2 (Nat.le_of_ble_eq_true rfl) e22 e22' (List.mem_of_getElem? (i := 1) (by decide +kernel)) dX2_append_47 ?_
      refine lv_iconst (v := (nI 1)) hx hb dX2_append_50 (by decide) ?_
      refine lv_iadd hx hb dX2_append_51 ?_
      obtain ⟨fs23, e24, e24', h⟩ := h
      refine r_put C hO 2 1 rfl inX2 tyX2_ok nmX2 (Nat.le_of_ble_eq_true rfl) rfl rfl rfl e24 e24' (List.mem_of_getElem? (i := 1) (by decide +kernel)) dX2_append_52 (fun H locs hO => ?_)
      obtain ⟨S25, eS25⟩ : ∃ Sx, Sx = va_up S19 a0 (.inl (2, fs23.set 1 (.int (i21 + (nI 1))))) := ⟨_, rfl⟩
      rw [← eS25] at hO
      have h := h S25 eS25
      obtain ⟨i26, ei26⟩ : ∃ y : Int32, y = i2 + (-1 : Int32) := ⟨_, rfl⟩
      have h := h i26 ei26
      refine lv_iinc (v := i26) (lv' := [(4, .int i26), (0, .ref a0), (1, .long v1)]) hx hb dX2_append_55 hl (k := 0) rfl (by rw [ei26]; rfl) (by decide) rfl (fun ls hl => ?_)
      refine lv_goto (tgt := 5) hx hb dX2_append_58 (by decide) ?_
      exact ih5 (i26, S25) _ _ _ h (lv_sub hl [0, 1, 2] rfl) hO
    · have h := h.1 c9
      exact W.vret hx hb hr (fun t ht hW => ⟨⟨S3, rfl, h, hO.q ht⟩, hO.f ht⟩) hO.lc dX2_append_22
theorem hdS_X2_pressOf : yX2_pressOf.cls ≠ "java/lang/invoke/MethodHandle" ∧ yX2_pressOf.cls ≠ "java/lang/invoke/VarHandle" ∧ (parseMethodDescriptor yX2_pressOf.desc).map (fun d => d.parameters.length) = some 1 := by decide +kernel
set_option maxHeartbeats 4000000 in
set_option maxRecDepth 100000 in
theorem c_X2_pressOf (l : Launch) (v0 : Int32) (Post : Int32 → Prop) (h : wp_X2_pressOf v0 Post) : Met l yX2_pressOf wsX2_pressOf ({ frames := 0, cells := 0, slots := 0, locals := 0 }) (va_Pc [.int v0] NZ) (vp_Si Post) 0 0 (fun _ => False) := by
  refine Met.ofW (cc := cX2_pressOf) (maxL := 1) (ret := (some .int)) (by decide) rfl ?_
  intro p e s m args below meth c s₁ B hml hv
  obtain ⟨rfl, hZ⟩ := hv
  have hx := B.exec
  have hb := B.bytes
  have hr := B.returns
  have hts := atoms_spec (ws := wsX2_pressOf) B.pre
  have hown : s.vm.findClass RX2 = some m.cls := findClass_of_methodNamed B.named
  have hlocks := B.notSynchronized
  have CF : CallFix p m c cX2_pressOf 1 s ([.int v0] : List Value).toArray wsX2_pressOf RX2 := ⟨hx, hb, hml, hown, hts⟩
  have hl := lv_entry ([.int v0]) (n := 1) (Nat.le_of_ble_eq_true rfl)
  rw [lg_entry_eq]
  generalize (lg_sl ([.int v0]) ++ List.replicate (1 - (lg_sl ([.int v0])).length) Slot.unset).toArray = ls at hl ⊢
  have hl : lv_has ls 1 [(0, .int v0)] := hl
  unfold wp_X2_pressOf at h
  refine lv_iload_n hx hb dX2_pressOf_0 rfl (lv_at hl 0 rfl) ?_
  refine lv_bipush (v := (nI 97)) hx hb dX2_pressOf_1 (by decide) ?_
  refine lv_icmp_lt (tgt := 17) hx hb dX2_pressOf_3 (by decide) (fun c1 => ?_) (fun c1 => ?_)
  · have h := h.1 c1
    refine lv_iload_n hx hb dX2_pressOf_17 rfl (lv_at hl 0 rfl) ?_
    refine lv_bipush (v := (nI 65)) hx hb dX2_pressOf_18 (by decide) ?_
    refine lv_icmp_lt (tgt := 37) hx hb dX2_pressOf_20 (by decide) (fun c2 => ?_) (fun c2 => ?_)
    · have h := h.1 c2
      refine lv_iconst (v := (-1 : Int32)) hx hb dX2_pressOf_37 (by decide) ?_
      exact W.iret hx hb hr (fun t ht hW => ⟨(-1 : Int32), rfl, h, ht⟩) no_locs dX2_pressOf_38
    · have h := h.2 c2
      refine lv_iload_n hx hb dX2_pressOf_23 rfl (lv_at hl 0 rfl) ?_
      refine lv_bipush (v := (nI 70)) hx hb dX2_pressOf_24 (by decide) ?_
      refine lv_icmp_gt (tgt := 37) hx hb dX2_pressOf_26 (by decide) (fun c3 => ?_) (fun c3 => ?_)
      · have h := h.1 c3
        refine lv_iconst (v := (-1 : Int32)) hx hb dX2_pressOf_37 (by decide) ?_
        exact W.iret hx hb hr (fun t ht hW => ⟨(-1 : Int32), rfl, h, ht⟩) no_locs dX2_pressOf_38
      · have h := h.2 c3
        refine lv_iload_n hx hb dX2_pressOf_29 rfl (lv_at hl 0 rfl) ?_
        refine lv_bipush (v := (nI 65)) hx hb dX2_pressOf_30 (by decide) ?_
        refine lv_isub hx hb dX2_pressOf_32 ?_
        refine lv_bipush (v := (nI 6)) hx hb dX2_pressOf_33 (by decide) ?_
        refine lv_iadd hx hb dX2_pressOf_35 ?_
        exact W.iret hx hb hr (fun t ht hW => ⟨((v0 - (nI 65)) + (nI 6)), rfl, h, ht⟩) no_locs dX2_pressOf_36
  · have h := h.2 c1
    refine lv_iload_n hx hb dX2_pressOf_6 rfl (lv_at hl 0 rfl) ?_
    refine lv_bipush (v := (nI 102)) hx hb dX2_pressOf_7 (by decide) ?_
    refine lv_icmp_gt (tgt := 17) hx hb dX2_pressOf_9 (by decide) (fun c4 => ?_) (fun c4 => ?_)
    · have h := h.1 c4
      refine lv_iload_n hx hb dX2_pressOf_17 rfl (lv_at hl 0 rfl) ?_
      refine lv_bipush (v := (nI 65)) hx hb dX2_pressOf_18 (by decide) ?_
      refine lv_icmp_lt (tgt := 37) hx hb dX2_pressOf_20 (by decide) (fun c5 => ?_) (fun c5 => ?_)
      · have h := h.1 c5
        refine lv_iconst (v := (-1 : Int32)) hx hb dX2_pressOf_37 (by decide) ?_
        exact W.iret hx hb hr (fun t ht hW => ⟨(-1 : Int32), rfl, h, ht⟩) no_locs dX2_pressOf_38
      · have h := h.2 c5
        refine lv_iload_n hx hb dX2_pressOf_23 rfl (lv_at hl 0 rfl) ?_
        refine lv_bipush (v := (nI 70)) hx hb dX2_pressOf_24 (by decide) ?_
        refine lv_icmp_gt (tgt := 37) hx hb dX2_pressOf_26 (by decide) (fun c6 => ?_) (fun c6 => ?_)
        · have h := h.1 c6
          refine lv_iconst (v := (-1 : Int32)) hx hb dX2_pressOf_37 (by decide) ?_
          exact W.iret hx hb hr (fun t ht hW => ⟨(-1 : Int32), rfl, h, ht⟩) no_locs dX2_pressOf_38
        · have h := h.2 c6
          refine lv_iload_n hx hb dX2_pressOf_29 rfl (lv_at hl 0 rfl) ?_
          refine lv_bipush (v := (nI 65)) hx hb dX2_pressOf_30 (by decide) ?_
          refine lv_isub hx hb dX2_pressOf_32 ?_
          refine lv_bipush (v := (nI 6)) hx hb dX2_pressOf_33 (by decide) ?_
          refine lv_iadd hx hb dX2_pressOf_35 ?_
          exact W.iret hx hb hr (fun t ht hW => ⟨((v0 - (nI 65)) + (nI 6)), rfl, h, ht⟩) no_locs dX2_pressOf_36
    · have h := h.2 c4
      refine lv_iload_n hx hb dX2_pressOf_12 rfl (lv_at hl 0 rfl) ?_
      refine lv_bipush (v := (nI 97)) hx hb dX2_pressOf_13 (by decide) ?_
      refine lv_isub hx hb dX2_pressOf_15 ?_
      exact W.iret hx hb hr (fun t ht hW => ⟨(v0 - (nI 97)), rfl, h, ht⟩) no_locs dX2_pressOf_16
theorem hdS_X2_timesOf : yX2_timesOf.cls ≠ "java/lang/invoke/MethodHandle" ∧ yX2_timesOf.cls ≠ "java/lang/invoke/VarHandle" ∧ (parseMethodDescriptor yX2_timesOf.desc).map (fun d => d.parameters.length) = some 1 := by decide +kernel
set_option maxHeartbeats 4000000 in
set_option maxRecDepth 100000 in
theorem c_X2_timesOf (l : Launch) (v0 : Int32) (Post : Int32 → Prop) (h : wp_X2_timesOf v0 Post) : Met l yX2_timesOf wsX2_timesOf ({ frames := 0, cells := 0, slots := 0, locals := 0 }) (va_Pc [.int v0] NZ) (vp_Si Post) 0 0 (fun _ => False) := by
  refine Met.ofW (cc := cX2_timesOf) (maxL := 1) (ret := (some .int)) (by decide) rfl ?_
  intro p e s m args below meth c s₁ B hml hv
  obtain ⟨rfl, hZ⟩ := hv
  have hx := B.exec
  have hb := B.bytes
  have hr := B.returns
  have hts := atoms_spec (ws := wsX2_timesOf) B.pre
  have hown : s.vm.findClass RX2 = some m.cls := findClass_of_methodNamed B.named
  have hlocks := B.notSynchronized
  have CF : CallFix p m c cX2_timesOf 1 s ([.int v0] : List Value).toArray wsX2_timesOf RX2 := ⟨hx, hb, hml, hown, hts⟩
  have hl := lv_entry ([.int v0]) (n := 1) (Nat.le_of_ble_eq_true rfl)
  rw [lg_entry_eq]
  generalize (lg_sl ([.int v0]) ++ List.replicate (1 - (lg_sl ([.int v0])).length) Slot.unset).toArray = ls at hl ⊢
  have hl : lv_has ls 1 [(0, .int v0)] := hl
  unfold wp_X2_timesOf at h
  refine lv_iload_n hx hb dX2_timesOf_0 rfl (lv_at hl 0 rfl) ?_
  refine lv_bipush (v := (nI 50)) hx hb dX2_timesOf_1 (by decide) ?_
  refine lv_icmp_lt (tgt := 19) hx hb dX2_timesOf_3 (by decide) (fun c1 => ?_) (fun c1 => ?_)
  · have h := h.1 c1
    refine lv_iconst (v := (nI 0)) hx hb dX2_timesOf_19 (by decide) ?_
    exact W.iret hx hb hr (fun t ht hW => ⟨(nI 0), rfl, h, ht⟩) no_locs dX2_timesOf_20
  · have h := h.2 c1
    refine lv_iload_n hx hb dX2_timesOf_6 rfl (lv_at hl 0 rfl) ?_
    refine lv_bipush (v := (nI 57)) hx hb dX2_timesOf_7 (by decide) ?_
    refine lv_icmp_gt (tgt := 19) hx hb dX2_timesOf_9 (by decide) (fun c2 => ?_) (fun c2 => ?_)
    · have h := h.1 c2
      refine lv_iconst (v := (nI 0)) hx hb dX2_timesOf_19 (by decide) ?_
      exact W.iret hx hb hr (fun t ht hW => ⟨(nI 0), rfl, h, ht⟩) no_locs dX2_timesOf_20
    · have h := h.2 c2
      refine lv_iload_n hx hb dX2_timesOf_12 rfl (lv_at hl 0 rfl) ?_
      refine lv_bipush (v := (nI 48)) hx hb dX2_timesOf_13 (by decide) ?_
      refine lv_isub hx hb dX2_timesOf_15 ?_
      refine lv_goto (tgt := 20) hx hb dX2_timesOf_16 (by decide) ?_
      exact W.iret hx hb hr (fun t ht hW => ⟨(v0 - (nI 48)), rfl, h, ht⟩) no_locs dX2_timesOf_20
theorem hdS_X2_layOut : yX2_layOut.cls ≠ "java/lang/invoke/MethodHandle" ∧ yX2_layOut.cls ≠ "java/lang/invoke/VarHandle" ∧ (parseMethodDescriptor yX2_layOut.desc).map (fun d => d.parameters.length) = some 1 := by decide +kernel
set_option maxHeartbeats 4000000 in
set_option maxRecDepth 100000 in
theorem c_X2_layOut (l : Launch) (D : va_G) (Y : Nat → ClassId) (L : List Nat) (S : PS) (sz : Nat) (a0 : Nat) (v1 : Nat) (Post : Int32 → PS → Prop) (h : wp_X2_layOut S a0 v1 Post) : Met l yX2_layOut wsX2_layOut ({ frames := 2, cells := 0, slots := 0, locals := 42 }) (va_Pc [.ref a0, .ref v1] (PrO D Y L S sz)) (va_Qi Post (QtO D Y (fR L sz)) (fR L sz)) 0 0 (fR L sz) := by
  refine Met.ofW (cc := cX2_layOut) (maxL := 9) (ret := (some .int)) (by decide) rfl ?_
  intro p e s m args below meth c s₁ B hml hv
  obtain ⟨rfl, hsz, hJ, hP, hK, hD0, hZ⟩ := hv
  have hx := B.exec
  have hb := B.bytes
  have hr := B.returns
  have hts := atoms_spec (ws := wsX2_layOut) B.pre
  have hown : s.vm.findClass RX2 = some m.cls := findClass_of_methodNamed B.named
  have hlocks := B.notSynchronized
  have CF : CallFix p m c cX2_layOut 9 s ([.ref a0, .ref v1] : List Value).toArray wsX2_layOut RX2 := ⟨hx, hb, hml, hown, hts⟩
  have C : CX p m c cX2_layOut 9 s ([.ref a0, .ref v1] : List Value).toArray wsX2_layOut RX2 D Y := ⟨CF, hK, hZ⟩
  have hO : HO D Y (fR L sz) s.heap S s.heap [] := HO.entry hsz hJ hP hD0
  subst hsz
  have inX0 : ∀ w ∈ wsX00, w ∈ wsX2_layOut := fun w h => List.mem_cons_of_mem _ (List.mem_append_left _ (List.mem_append_right _ h))
  have inX2 : ∀ w ∈ wsX20, w ∈ wsX2_layOut := fun w h => List.mem_cons_of_mem _ (List.mem_append_right _ h)
  have hl := lv_entry ([.ref a0, .ref v1]) (n := 9) (Nat.le_of_ble_eq_true rfl)
  rw [lg_entry_eq]
  generalize (lg_sl ([.ref a0, .ref v1]) ++ List.replicate (9 - (lg_sl ([.ref a0, .ref v1])).length) Slot.unset).toArray = ls at hl ⊢
  have hl : lv_has ls 9 [(0, .ref a0), (1, .ref v1)] := hl
  unfold wp_X2_layOut at h
  refine lv_aload_n hx hb dX2_layOut_0 rfl (lv_at hl 1 rfl) ?_
  refine lv_iconst (v := (nI 0)) hx hb dX2_layOut_1 (by decide) ?_
  obtain ⟨fs1, e2, e2', h⟩ := h
  refine r_put C hO 0 1 rfl inX0 tyX0_ok nmX0 (Nat.le_of_ble_eq_true rfl) rfl rfl rfl e2 e2' (List.mem_of_getElem? (i := 1) (by decide +kernel)) dX2_layOut_2 (fun H locs hO => ?_)
  obtain ⟨S3, eS3⟩ : ∃ Sx, Sx = va_up S v1 (.inl (0, fs1.set 1 (.int (nI 0)))) := ⟨_, rfl⟩
  rw [← eS3] at hO
  have h := h S3 eS3
  refine lv_iconst (v := (-1 : Int32)) hx hb dX2_layOut_5 (by decide) ?_
  refine lv_istore_n (lv' := [(2, .int (-1 : Int32)), (0, .ref a0), (1, .ref v1)]) hx hb dX2_layOut_6 rfl hl (by decide) rfl (fun ls hl => ?_)
  refine lv_iconst (v := (nI 0)) hx hb dX2_layOut_7 (by decide) ?_
  refine lv_istore_n (lv' := [(3, .int (nI 0)), (2, .int (-1 : Int32)), (0, .ref a0), (1, .ref v1)]) hx hb dX2_layOut_8 rfl hl (by decide) rfl (fun ls hl => ?_)
  obtain ⟨n55, h⟩ := h
  refine lp_W (nL := 9) (fun q => [(3, .int q.1), (2, .int q.2.1), (0, .ref a0), (1, .ref v1)]) (fun q => q.2.2) h (lv_sub hl [0, 1, 2, 3] rfl) hO (fun K9 ih9 q ls H locs h hl hO => ?_)
  obtain ⟨i4, i5, S6⟩ := q
  have h : wpb_X2_layOut_9 a0 v1 Post K9 i4 i5 S6 := h
  have hl : lv_has ls 9 [(3, .int i4), (2, .int i5), (0, .ref a0), (1, .ref v1)] := hl
  have hO : HO D Y (fR L s.heap.size) s.heap S6 H locs := hO
  unfold wpb_X2_layOut_9 at h
  refine lv_iload_n hx hb dX2_layOut_9 rfl (lv_at hl 0 rfl) ?_
  refine lv_aload_n hx hb dX2_layOut_10 rfl (lv_at hl 2 rfl) ?_
  obtain ⟨fs7, i8, e9, e9', h⟩ := h
  refine r_get C hO 2 1 rfl inX2 (Nat.le_of_ble_eq_true rfl) e9 e9' (List.mem_of_getElem? (i := 2) (by decide +kernel)) dX2_layOut_11 ?_
  refine lv_icmp_ge (tgt := 137) hx hb dX2_layOut_14 (by decide) (fun c10 => ?_) (fun c10 => ?_)
  · have h := h.1 c10
    refine lv_aload_n hx hb dX2_layOut_137 rfl (lv_at hl 2 rfl) ?_
    obtain ⟨fs11, i12, e13, e13', h⟩ := h
    refine r_get C hO 2 1 rfl inX2 (Nat.le_of_ble_eq_true rfl) e13 e13' (List.mem_of_getElem? (i := 2) (by decide +kernel)) dX2_layOut_138 ?_
    refine lv_if_ne (tgt := 148) hx hb dX2_layOut_141 (by decide) (fun c14 => ?_) (fun c14 => ?_)
    · have h := h.2 c14
      refine lv_bipush (v := (-6 : Int32)) hx hb dX2_layOut_148 (by decide) ?_
      exact W.iret hx hb hr (fun t ht hW => ⟨⟨(-6 : Int32), S6, rfl, h, hO.q ht⟩, hO.f ht⟩) hO.lc dX2_layOut_150
    · have h := h.1 c14
      refine lv_iconst (v := (nI 0)) hx hb dX2_layOut_144 (by decide) ?_
      refine lv_goto (tgt := 150) hx hb dX2_layOut_145 (by decide) ?_
      exact W.iret hx hb hr (fun t ht hW => ⟨⟨(nI 0), S6, rfl, h, hO.q ht⟩, hO.f ht⟩) hO.lc dX2_layOut_150
  · have h := h.2 c10
    refine lv_iload_n hx hb dX2_layOut_17 rfl (lv_at hl 0 rfl) ?_
    refine lv_bipush (v := (nI 40)) hx hb dX2_layOut_18 (by decide) ?_
    refine lv_icmp_ge (tgt := 137) hx hb dX2_layOut_20 (by decide) (fun c15 => ?_) (fun c15 => ?_)
    · have h := h.1 c15
      refine lv_aload_n hx hb dX2_layOut_137 rfl (lv_at hl 2 rfl) ?_
      obtain ⟨fs16, i17, e18, e18', h⟩ := h
      refine r_get C hO 2 1 rfl inX2 (Nat.le_of_ble_eq_true rfl) e18 e18' (List.mem_of_getElem? (i := 2) (by decide +kernel)) dX2_layOut_138 ?_
      refine lv_if_ne (tgt := 148) hx hb dX2_layOut_141 (by decide) (fun c19 => ?_) (fun c19 => ?_)
      · have h := h.2 c19
        refine lv_bipush (v := (-6 : Int32)) hx hb dX2_layOut_148 (by decide) ?_
        exact W.iret hx hb hr (fun t ht hW => ⟨⟨(-6 : Int32), S6, rfl, h, hO.q ht⟩, hO.f ht⟩) hO.lc dX2_layOut_150
      · have h := h.1 c19
        refine lv_iconst (v := (nI 0)) hx hb dX2_layOut_144 (by decide) ?_
        refine lv_goto (tgt := 150) hx hb dX2_layOut_145 (by decide) ?_
        exact W.iret hx hb hr (fun t ht hW => ⟨⟨(nI 0), S6, rfl, h, hO.q ht⟩, hO.f ht⟩) hO.lc dX2_layOut_150
    · have h := h.2 c15
      refine lv_aload_n hx hb dX2_layOut_23 rfl (lv_at hl 2 rfl) ?_
      obtain ⟨fs20, a21, e22, e22', h⟩ := h
      refine r_get C hO 2 0 rfl inX2 (Nat.le_of_ble_eq_true rfl) e22 e22' (List.mem_of_getElem? (i := 3) (by decide +kernel)) dX2_layOut_24 ?_
      refine lv_iload_n hx hb dX2_layOut_27 rfl (lv_at hl 0 rfl) ?_
      obtain ⟨n23, f24, i26, e25, e25', exi26, h⟩ := h
      refine r_cald C hO e25 e25' dX2_layOut_28 ?_
      rw [exi26]
      refine cS_si (As := [.int i26]) (rest := []) (n := 1) CF hZ (c_X2_pressOf l i26 _ h) (va_cwS 1 hts gX2_layOut_X2_pressOf rfl rfl rfl hdS_X2_pressOf ⟨Nat.le_of_ble_eq_true rfl, Nat.le_of_ble_eq_true rfl⟩) rfl hl.1 rfl (Nat.le_of_ble_eq_true rfl) dX2_layOut_29 ⟨(Nat.le_of_ble_eq_true rfl), (Nat.le_of_ble_eq_true rfl)⟩ (fun i27 h => ?_)
      refine lv_istore (lv' := [(4, .int i27), (3, .int i4), (2, .int i5), (0, .ref a0), (1, .ref v1)]) hx hb dX2_layOut_32 hl (by decide) rfl (fun ls hl => ?_)
      refine lv_iload hx hb dX2_layOut_34 (lv_at hl 0 rfl) ?_
      refine cut_P (nL := 9) (fun (q : Int32 × Int32) => wpk_X2_layOut_81 v1 i4 S6 i27 Post K9 q.1 q.2) (fun q => [(4, .int i27), (3, .int i4), (0, .ref a0), (1, .ref v1), (6, .int q.1), (7, .int q.2)]) 81 ?_ (fun kc81 => ?_)
      · intro q ls h hl
        obtain ⟨i28, i29⟩ := q
        have h : wpk_X2_layOut_81 v1 i4 S6 i27 Post K9 i28 i29 := h
        have hl : lv_has ls 9 [(4, .int i27), (3, .int i4), (0, .ref a0), (1, .ref v1), (6, .int i28), (7, .int i29)] := hl
        unfold wpk_X2_layOut_81 at h
        refine lv_iload hx hb dX2_layOut_81 (lv_at hl 4 rfl) ?_
        refine lv_if_lt (tgt := 104) hx hb dX2_layOut_83 (by decide) (fun c30 => ?_) (fun c30 => ?_)
        · have h := h.1 c30
          refine lv_iload_n hx hb dX2_layOut_104 rfl (lv_at hl 1 rfl) ?_
          exact W.iret hx hb hr (fun t ht hW => ⟨⟨i4, S6, rfl, h, hO.q ht⟩, hO.f ht⟩) hO.lc dX2_layOut_105
        · have h := h.2 c30
          refine lv_iload hx hb dX2_layOut_86 (lv_at hl 5 rfl) ?_
          refine lv_iconst (v := (nI 1)) hx hb dX2_layOut_88 (by decide) ?_
          refine lv_icmp_lt (tgt := 104) hx hb dX2_layOut_89 (by decide) (fun c31 => ?_) (fun c31 => ?_)
          · have h := h.1 c31
            refine lv_iload_n hx hb dX2_layOut_104 rfl (lv_at hl 1 rfl) ?_
            exact W.iret hx hb hr (fun t ht hW => ⟨⟨i4, S6, rfl, h, hO.q ht⟩, hO.f ht⟩) hO.lc dX2_layOut_105
          · have h := h.2 c31
            refine lv_aload_n hx hb dX2_layOut_92 rfl (lv_at hl 3 rfl) ?_
            obtain ⟨fs32, i33, e34, e34', h⟩ := h
            refine r_get C hO 0 1 rfl inX0 (Nat.le_of_ble_eq_true rfl) e34 e34' (List.mem_of_getElem? (i := 1) (by decide +kernel)) dX2_layOut_93 ?_
            refine lv_iload hx hb dX2_layOut_96 (lv_at hl 5 rfl) ?_
            refine lv_iadd hx hb dX2_layOut_98 ?_
            refine lv_bipush (v := (nI 24)) hx hb dX2_layOut_99 (by decide) ?_
            refine lv_icmp_le (tgt := 106) hx hb dX2_layOut_101 (by decide) (fun c35 => ?_) (fun c35 => ?_)
            · have h := h.1 c35
              refine lv_iconst (v := (nI 0)) hx hb dX2_layOut_106 (by decide) ?_
              refine lv_istore (lv' := [(8, .int (nI 0)), (4, .int i27), (3, .int i4), (0, .ref a0), (1, .ref v1), (6, .int i28), (7, .int i29)]) hx hb dX2_layOut_107 hl (by decide) rfl (fun ls hl => ?_)
              obtain ⟨n44, h⟩ := h
              refine lp_W (nL := 9) (fun q => [(8, .int q.1), (4, .int i27), (3, .int i4), (0, .ref a0), (1, .ref v1), (6, .int i28), (7, .int i29)]) (fun q => q.2) h (lv_sub hl [0, 1, 2, 3, 4, 5, 6] rfl) hO (fun K109 ih109 q ls H locs h hl hO => ?_)
              obtain ⟨i36, S37⟩ := q
              have h : wpb_X2_layOut_109 v1 i4 i27 i28 i29 K9 K109 i36 S37 := h
              have hl : lv_has ls 9 [(8, .int i36), (4, .int i27), (3, .int i4), (0, .ref a0), (1, .ref v1), (6, .int i28), (7, .int i29)] := hl
              have hO : HO D Y (fR L s.heap.size) s.heap S37 H locs := hO
              unfold wpb_X2_layOut_109 at h
              refine lv_iload hx hb dX2_layOut_109 (lv_at hl 0 rfl) ?_
              refine lv_iload hx hb dX2_layOut_111 (lv_at hl 6 rfl) ?_
              refine lv_icmp_ge (tgt := 128) hx hb dX2_layOut_113 (by decide) (fun c38 => ?_) (fun c38 => ?_)
              · have h := h.1 c38
                refine lv_iload hx hb dX2_layOut_128 (lv_at hl 1 rfl) ?_
                refine lv_istore_n (lv' := [(2, .int i27), (8, .int i36), (4, .int i27), (3, .int i4), (0, .ref a0), (1, .ref v1), (6, .int i28), (7, .int i29)]) hx hb dX2_layOut_130 rfl hl (by decide) rfl (fun ls hl => ?_)
                obtain ⟨i39, ei39⟩ : ∃ y : Int32, y = i4 + (nI 1) := ⟨_, rfl⟩
                have h := h i39 ei39
                refine lv_iinc (v := i39) (lv' := [(3, .int i39), (2, .int i27), (8, .int i36), (4, .int i27), (0, .ref a0), (1, .ref v1), (6, .int i28), (7, .int i29)]) hx hb dX2_layOut_131 hl (k := 3) rfl (by rw [ei39]; rfl) (by decide) rfl (fun ls hl => ?_)
                refine lv_goto (tgt := 9) hx hb dX2_layOut_134 (by decide) ?_
                exact ih9 (i39, i27, S37) _ _ _ h (lv_sub hl [0, 1, 4, 5] rfl) hO
              · have h := h.2 c38
                refine lv_aload_n hx hb dX2_layOut_116 rfl (lv_at hl 4 rfl) ?_
                refine lv_iload hx hb dX2_layOut_117 (lv_at hl 5 rfl) ?_
                obtain ⟨fs42, e41, h⟩ := h
                refine cV_wv (As := [.int i28]) (rest := []) (n := 1) C hO (fun L => c_X0_add l D Y L S37 H.size v1 i28 _ h) 0 rfl e41 (cwV 1 hts gX2_layOut_X0_add rfl rfl rfl ⟨rfl, hdS_X0_add⟩ ⟨Nat.le_of_ble_eq_true rfl, Nat.le_of_ble_eq_true rfl⟩) rfl hl.1 rfl (Nat.le_of_ble_eq_true rfl) dX2_layOut_119 ⟨(Nat.le_of_ble_eq_true rfl), (Nat.le_of_ble_eq_true rfl)⟩ (fun S40 H locs h hO => ?_)
                obtain ⟨i43, ei43⟩ : ∃ y : Int32, y = i36 + (nI 1) := ⟨_, rfl⟩
                have h := h i43 ei43
                refine lv_iinc (v := i43) (lv' := [(8, .int i43), (4, .int i27), (3, .int i4), (0, .ref a0), (1, .ref v1), (6, .int i28), (7, .int i29)]) hx hb dX2_layOut_122 hl (k := 0) rfl (by rw [ei43]; rfl) (by decide) rfl (fun ls hl => ?_)
                refine lv_goto (tgt := 109) hx hb dX2_layOut_125 (by decide) ?_
                exact ih109 (i43, S40) _ _ _ h (lv_sub hl [0, 1, 2, 3, 4, 5, 6] rfl) hO
            · have h := h.2 c35
              refine lv_iload_n hx hb dX2_layOut_104 rfl (lv_at hl 1 rfl) ?_
              exact W.iret hx hb hr (fun t ht hW => ⟨⟨i4, S6, rfl, h, hO.q ht⟩, hO.f ht⟩) hO.lc dX2_layOut_105
      refine lv_if_lt (tgt := 43) hx hb dX2_layOut_36 (by decide) (fun c45 => ?_) (fun c45 => ?_)
      · have h := h.1 c45
        refine lv_iconst (v := (nI 0)) hx hb dX2_layOut_43 (by decide) ?_
        refine lv_istore (lv' := [(5, .int (nI 0)), (4, .int i27), (3, .int i4), (2, .int i5), (0, .ref a0), (1, .ref v1)]) hx hb dX2_layOut_44 hl (by decide) rfl (fun ls hl => ?_)
        refine lv_iload hx hb dX2_layOut_46 (lv_at hl 0 rfl) ?_
        refine lv_if_eq (tgt := 56) hx hb dX2_layOut_48 (by decide) (fun _ => ?_) (fun c9 => absurd c9 (by decide))
        refine lv_iload_n hx hb dX2_layOut_56 rfl (lv_at hl 3 rfl) ?_
        refine lv_istore (lv' := [(6, .int i5), (5, .int (nI 0)), (4, .int i27), (3, .int i4), (2, .int i5), (0, .ref a0), (1, .ref v1)]) hx hb dX2_layOut_57 hl (by decide) rfl (fun ls hl => ?_)
        refine lv_iload hx hb dX2_layOut_59 (lv_at hl 1 rfl) ?_
        refine lv_if_eq (tgt := 68) hx hb dX2_layOut_61 (by decide) (fun _ => ?_) (fun c9 => absurd c9 (by decide))
        refine lv_aload_n hx hb dX2_layOut_68 rfl (lv_at hl 5 rfl) ?_
        obtain ⟨fs46, a47, e48, e48', h⟩ := h
        refine r_get C hO 2 0 rfl inX2 (Nat.le_of_ble_eq_true rfl) e48 e48' (List.mem_of_getElem? (i := 3) (by decide +kernel)) dX2_layOut_69 ?_
        refine lv_iload_n hx hb dX2_layOut_72 rfl (lv_at hl 3 rfl) ?_
        obtain ⟨n49, f50, i52, e51, e51', exi52, h⟩ := h
        refine r_cald C hO e51 e51' dX2_layOut_73 ?_
        rw [exi52]
        refine cS_si (As := [.int i52]) (rest := []) (n := 1) CF hZ (c_X2_timesOf l i52 _ h) (va_cwS 1 hts gX2_layOut_X2_timesOf rfl rfl rfl hdS_X2_timesOf ⟨Nat.le_of_ble_eq_true rfl, Nat.le_of_ble_eq_true rfl⟩) rfl hl.1 rfl (Nat.le_of_ble_eq_true rfl) dX2_layOut_74 ⟨(Nat.le_of_ble_eq_true rfl), (Nat.le_of_ble_eq_true rfl)⟩ (fun i53 h => ?_)
        refine lv_iconst (v := (nI 1)) hx hb dX2_layOut_77 (by decide) ?_
        refine lv_isub hx hb dX2_layOut_78 ?_
        refine lv_topi (fun i54 ei54 => ?_)
        have h := h i54 ei54
        refine lv_istore (lv' := [(7, .int i54), (6, .int i5), (5, .int (nI 0)), (4, .int i27), (3, .int i4), (2, .int i5), (0, .ref a0), (1, .ref v1)]) hx hb dX2_layOut_79 hl (by decide) rfl (fun ls hl => ?_)
        exact kc81 (i5, i54) _ h (lv_sub hl [3, 4, 6, 7, 1, 0] rfl)
      · have h := h.2 c45
        refine lv_iconst (v := (nI 1)) hx hb dX2_layOut_39 (by decide) ?_
        refine lv_goto (tgt := 44) hx hb dX2_layOut_40 (by decide) ?_
        refine lv_istore (lv' := [(5, .int (nI 1)), (4, .int i27), (3, .int i4), (2, .int i5), (0, .ref a0), (1, .ref v1)]) hx hb dX2_layOut_44 hl (by decide) rfl (fun ls hl => ?_)
        refine lv_iload hx hb dX2_layOut_46 (lv_at hl 0 rfl) ?_
        refine lv_if_eq (tgt := 56) hx hb dX2_layOut_48 (by decide) (fun c9 => absurd c9 (by decide)) (fun _ => ?_)
        refine lv_iload hx hb dX2_layOut_51 (lv_at hl 1 rfl) ?_
        refine lv_goto (tgt := 57) hx hb dX2_layOut_53 (by decide) ?_
        refine lv_istore (lv' := [(6, .int i27), (5, .int (nI 1)), (4, .int i27), (3, .int i4), (2, .int i5), (0, .ref a0), (1, .ref v1)]) hx hb dX2_layOut_57 hl (by decide) rfl (fun ls hl => ?_)
        refine lv_iload hx hb dX2_layOut_59 (lv_at hl 1 rfl) ?_
        refine lv_if_eq (tgt := 68) hx hb dX2_layOut_61 (by decide) (fun c9 => absurd c9 (by decide)) (fun _ => ?_)
        refine lv_iconst (v := (nI 1)) hx hb dX2_layOut_64 (by decide) ?_
        refine lv_goto (tgt := 79) hx hb dX2_layOut_65 (by decide) ?_
        refine lv_istore (lv' := [(7, .int (nI 1)), (6, .int i27), (5, .int (nI 1)), (4, .int i27), (3, .int i4), (2, .int i5), (0, .ref a0), (1, .ref v1)]) hx hb dX2_layOut_79 hl (by decide) rfl (fun ls hl => ?_)
        exact kc81 (i27, (nI 1)) _ h (lv_sub hl [3, 4, 6, 7, 1, 0] rfl)
theorem hdS_X3_init : yX3_init.cls ≠ "java/lang/invoke/MethodHandle" ∧ yX3_init.cls ≠ "java/lang/invoke/VarHandle" ∧ (parseMethodDescriptor yX3_init.desc).map (fun d => d.parameters.length) = some 0 := by decide +kernel
set_option maxHeartbeats 4000000 in
set_option maxRecDepth 100000 in
theorem c_X3_init (l : Launch) (D : va_G) (Y : Nat → ClassId) (L : List Nat) (S : PS) (sz : Nat) (a0 : Nat) (Post : PS → Prop) (h : wp_X3_init S a0 Post) : Met l yX3_init wsX3_init ({ frames := 1, cells := 1, slots := 6, locals := 12 }) (va_Pc [.ref a0] (PrO D Y L S sz)) (va_Qv Post (QtO D Y (fR L sz)) (fR L sz)) 1 6 (fR L sz) := by
  refine Met.ofW (cc := cX3_init) (maxL := 1) (ret := none) (by decide) rfl ?_
  intro p e s m args below meth c s₁ B hml hv
  obtain ⟨rfl, hsz, hJ, hP, hK, hD0, hZ⟩ := hv
  have hx := B.exec
  have hb := B.bytes
  have hr := B.returns
  have hts := atoms_spec (ws := wsX3_init) B.pre
  have hown : s.vm.findClass RX3 = some m.cls := findClass_of_methodNamed B.named
  have hlocks := B.notSynchronized
  have hin : meth.name = "<init>" := (name_of_methodNamed B.named B.method).1
  have CF : CallFix p m c cX3_init 1 s ([.ref a0] : List Value).toArray wsX3_init RX3 := ⟨hx, hb, hml, hown, hts⟩
  have C : CX p m c cX3_init 1 s ([.ref a0] : List Value).toArray wsX3_init RX3 D Y := ⟨CF, hK, hZ⟩
  have hO : HO D Y (fR L sz) s.heap S s.heap [] := HO.entry hsz hJ hP hD0
  subst hsz
  have inX3 : ∀ w ∈ wsX30, w ∈ wsX3_init := fun w h => List.mem_cons_of_mem _ (List.mem_append_right _ h)
  have hl := lv_entry ([.ref a0]) (n := 1) (Nat.le_of_ble_eq_true rfl)
  rw [lg_entry_eq]
  generalize (lg_sl ([.ref a0]) ++ List.replicate (1 - (lg_sl ([.ref a0])).length) Slot.unset).toArray = ls at hl ⊢
  have hl : lv_has ls 1 [(0, .ref a0)] := hl
  unfold wp_X3_init at h
  refine lv_aload_n hx hb dX3_init_0 rfl (lv_at hl 0 rfl) ?_
  refine W.objInit hx hb hown (hts _ (List.mem_of_getElem? (i := 1) (by decide +kernel : wsX3_init[1]? = some (Cond.methodLink RX3 3 objectInit)))) (hts _ (List.mem_of_getElem? (i := 2) (by decide +kernel : wsX3_init[2]? = some (Cond.instanceMethod objectInit)))) (hts _ (List.mem_of_getElem? (i := 3) (by decide +kernel : wsX3_init[3]? = some (Cond.code objectInit ⟨#[0xb1]⟩ 1 none)))) rfl (by rw [hml]; exact hl.1) rfl dX3_init_1 (Nat.le_of_ble_eq_true rfl) (Nat.le_of_ble_eq_true rfl) ?_
  refine W.eq (g2 := F0 m 4 ls []) rfl ?_
  refine lv_aload_n hx hb dX3_init_4 rfl (lv_at hl 0 rfl) ?_
  refine lv_bipush (v := (nI 6)) hx hb dX3_init_5 (by decide) ?_
  refine r_anew (k := 4) (Cn := RX1) (N' := 6) C hO rfl hZ.2.2 (List.mem_of_getElem? (i := 4) (by decide +kernel)) (by decide) (by decide) (Nat.le_of_ble_eq_true rfl) (Nat.le_of_ble_eq_true rfl) (Nat.le_of_ble_eq_true rfl) dX3_init_7 (fun a1 H hqa1 hO => ?_)
  obtain ⟨S2, eS2⟩ : ∃ Sx, Sx = va_up S a1 (aL 6 (fun _ => none)) := ⟨_, rfl⟩
  have hO := (show HO D Y (fR L s.heap.size) s.heap (va_up S a1 (aL 6 (fun _ => none))) H _ from hO)
  rw [← eS2] at hO
  have h := h a1 hqa1 S2 eS2
  obtain ⟨fs3, e4, e4', h⟩ := h
  refine r_putF C hO 3 0 hin rfl inX3 tyX3_ok nmX3 (Nat.le_of_ble_eq_true rfl) rfl rfl rfl rfl e4 e4' (List.mem_of_getElem? (i := 5) (by decide +kernel)) dX3_init_10 (fun H locs hO => ?_)
  obtain ⟨S5, eS5⟩ : ∃ Sx, Sx = va_up S2 a0 (.inl (3, fs3.set 0 (.ref a1))) := ⟨_, rfl⟩
  rw [← eS5] at hO
  have h := h S5 eS5
  refine lv_aload_n hx hb dX3_init_13 rfl (lv_at hl 0 rfl) ?_
  refine lv_iconst (v := (nI 0)) hx hb dX3_init_14 (by decide) ?_
  obtain ⟨fs6, e7, e7', h⟩ := h
  refine r_put C hO 3 1 rfl inX3 tyX3_ok nmX3 (Nat.le_of_ble_eq_true rfl) rfl rfl rfl e7 e7' (List.mem_of_getElem? (i := 6) (by decide +kernel)) dX3_init_15 (fun H locs hO => ?_)
  obtain ⟨S8, eS8⟩ : ∃ Sx, Sx = va_up S5 a0 (.inl (3, fs6.set 1 (.int (nI 0)))) := ⟨_, rfl⟩
  rw [← eS8] at hO
  have h := h S8 eS8
  exact W.vret hx hb hr (fun t ht hW => ⟨⟨S8, rfl, h, hO.q ht⟩, hO.f ht⟩) hO.lc dX3_init_18
theorem hdS_X3_dropOldest : yX3_dropOldest.cls ≠ "java/lang/invoke/MethodHandle" ∧ yX3_dropOldest.cls ≠ "java/lang/invoke/VarHandle" ∧ (parseMethodDescriptor yX3_dropOldest.desc).map (fun d => d.parameters.length) = some 0 := by decide +kernel
set_option maxHeartbeats 4000000 in
set_option maxRecDepth 100000 in
theorem c_X3_dropOldest (l : Launch) (D : va_G) (Y : Nat → ClassId) (L : List Nat) (S : PS) (sz : Nat) (a0 : Nat) (Post : PS → Prop) (h : wp_X3_dropOldest S a0 Post) : Met l yX3_dropOldest wsX3_dropOldest ({ frames := 0, cells := 0, slots := 0, locals := 0 }) (va_Pc [.ref a0] (PrO D Y L S sz)) (va_Qv Post (QtO D Y (fR L sz)) (fR L sz)) 0 0 (fR L sz) := by
  refine Met.ofW (cc := cX3_dropOldest) (maxL := 3) (ret := none) (by decide) rfl ?_
  intro p e s m args below meth c s₁ B hml hv
  obtain ⟨rfl, hsz, hJ, hP, hK, hD0, hZ⟩ := hv
  have hx := B.exec
  have hb := B.bytes
  have hr := B.returns
  have hts := atoms_spec (ws := wsX3_dropOldest) B.pre
  have hown : s.vm.findClass RX3 = some m.cls := findClass_of_methodNamed B.named
  have hlocks := B.notSynchronized
  have CF : CallFix p m c cX3_dropOldest 3 s ([.ref a0] : List Value).toArray wsX3_dropOldest RX3 := ⟨hx, hb, hml, hown, hts⟩
  have C : CX p m c cX3_dropOldest 3 s ([.ref a0] : List Value).toArray wsX3_dropOldest RX3 D Y := ⟨CF, hK, hZ⟩
  have hO : HO D Y (fR L sz) s.heap S s.heap [] := HO.entry hsz hJ hP hD0
  subst hsz
  have inX3 : ∀ w ∈ wsX30, w ∈ wsX3_dropOldest := fun w h => List.mem_cons_of_mem _ (List.mem_append_right _ h)
  have hl := lv_entry ([.ref a0]) (n := 3) (Nat.le_of_ble_eq_true rfl)
  rw [lg_entry_eq]
  generalize (lg_sl ([.ref a0]) ++ List.replicate (3 - (lg_sl ([.ref a0])).length) Slot.unset).toArray = ls at hl ⊢
  have hl : lv_has ls 3 [(0, .ref a0)] := hl
  unfold wp_X3_dropOldest at h
  refine lv_aload_n hx hb dX3_dropOldest_0 rfl (lv_at hl 0 rfl) ?_
  obtain ⟨fs1, a2, e3, e3', h⟩ := h
  refine r_get C hO 3 0 rfl inX3 (Nat.le_of_ble_eq_true rfl) e3 e3' (List.mem_of_getElem? (i := 1) (by decide +kernel)) dX3_dropOldest_1 ?_
  refine lv_iconst (v := (nI 0)) hx hb dX3_dropOldest_4 (by decide) ?_
  obtain ⟨n4, f5, a7, e6, e6', hrq, h⟩ := h
  refine r_aaldL C hO e6 e6' (congrArg va_rf hrq) dX3_dropOldest_5 ?_
  show W _ _ _ _ _ _ _ _ _ _ _ _ _ _ _ (F0 _ _ _ (.ref a7 :: _))
  refine lv_astore_n (lv' := [(1, .ref a7), (0, .ref a0)]) hx hb dX3_dropOldest_6 rfl hl (by decide) rfl (fun ls hl => ?_)
  refine lv_iconst (v := (nI 1)) hx hb dX3_dropOldest_7 (by decide) ?_
  refine lv_istore_n (lv' := [(2, .int (nI 1)), (1, .ref a7), (0, .ref a0)]) hx hb dX3_dropOldest_8 rfl hl (by decide) rfl (fun ls hl => ?_)
  obtain ⟨n38, h⟩ := h
  refine lp_W (nL := 3) (fun q => [(2, .int q.1), (1, .ref a7), (0, .ref a0)]) (fun q => q.2) h (lv_sub hl [0, 1, 2] rfl) hO (fun K9 ih9 q ls H locs h hl hO => ?_)
  obtain ⟨i8, S9⟩ := q
  have h : wpb_X3_dropOldest_9 a0 a7 Post K9 i8 S9 := h
  have hl : lv_has ls 3 [(2, .int i8), (1, .ref a7), (0, .ref a0)] := hl
  have hO : HO D Y (fR L s.heap.size) s.heap S9 H locs := hO
  unfold wpb_X3_dropOldest_9 at h
  refine lv_iload_n hx hb dX3_dropOldest_9 rfl (lv_at hl 0 rfl) ?_
  refine lv_bipush (v := (nI 6)) hx hb dX3_dropOldest_10 (by decide) ?_
  refine lv_icmp_ge (tgt := 35) hx hb dX3_dropOldest_12 (by decide) (fun c10 => ?_) (fun c10 => ?_)
  · have h := h.1 c10
    refine lv_aload_n hx hb dX3_dropOldest_35 rfl (lv_at hl 2 rfl) ?_
    obtain ⟨fs11, a12, e13, e13', h⟩ := h
    refine r_get C hO 3 0 rfl inX3 (Nat.le_of_ble_eq_true rfl) e13 e13' (List.mem_of_getElem? (i := 1) (by decide +kernel)) dX3_dropOldest_36 ?_
    refine lv_iconst (v := (nI 5)) hx hb dX3_dropOldest_39 (by decide) ?_
    refine lv_aload_n hx hb dX3_dropOldest_40 rfl (lv_at hl 1 rfl) ?_
    obtain ⟨n14, f15, vs16, e17, e17', e17v, h⟩ := h
    refine r_aastL C hO e17 e17' e17v dX3_dropOldest_41 (fun H locs hO => ?_)
    obtain ⟨S18, eS18⟩ : ∃ Sx, Sx = va_up S9 a12 (aL n14 (va_up f15 ((nI 5)).toNatClampNeg (some a7))) := ⟨_, rfl⟩
    rw [← eS18] at hO
    have h := h S18 eS18
    refine lv_aload_n hx hb dX3_dropOldest_42 rfl (lv_at hl 2 rfl) ?_
    refine lv_iconst (v := (nI 5)) hx hb dX3_dropOldest_43 (by decide) ?_
    obtain ⟨fs19, e20, e20', h⟩ := h
    refine r_put C hO 3 1 rfl inX3 tyX3_ok nmX3 (Nat.le_of_ble_eq_true rfl) rfl rfl rfl e20 e20' (List.mem_of_getElem? (i := 2) (by decide +kernel)) dX3_dropOldest_44 (fun H locs hO => ?_)
    obtain ⟨S21, eS21⟩ : ∃ Sx, Sx = va_up S18 a0 (.inl (3, fs19.set 1 (.int (nI 5)))) := ⟨_, rfl⟩
    rw [← eS21] at hO
    have h := h S21 eS21
    exact W.vret hx hb hr (fun t ht hW => ⟨⟨S21, rfl, h, hO.q ht⟩, hO.f ht⟩) hO.lc dX3_dropOldest_47
  · have h := h.2 c10
    refine lv_aload_n hx hb dX3_dropOldest_15 rfl (lv_at hl 2 rfl) ?_
    obtain ⟨fs22, a23, e24, e24', h⟩ := h
    refine r_get C hO 3 0 rfl inX3 (Nat.le_of_ble_eq_true rfl) e24 e24' (List.mem_of_getElem? (i := 1) (by decide +kernel)) dX3_dropOldest_16 ?_
    refine lv_iload_n hx hb dX3_dropOldest_19 rfl (lv_at hl 0 rfl) ?_
    refine lv_iconst (v := (nI 1)) hx hb dX3_dropOldest_20 (by decide) ?_
    refine lv_isub hx hb dX3_dropOldest_21 ?_
    refine lv_aload_n hx hb dX3_dropOldest_22 rfl (lv_at hl 2 rfl) ?_
    obtain ⟨fs25, a26, e27, e27', h⟩ := h
    refine r_get C hO 3 0 rfl inX3 (Nat.le_of_ble_eq_true rfl) e27 e27' (List.mem_of_getElem? (i := 1) (by decide +kernel)) dX3_dropOldest_23 ?_
    refine lv_iload_n hx hb dX3_dropOldest_26 rfl (lv_at hl 0 rfl) ?_
    obtain ⟨n28, f29, a31, e30, e30', hrq, h⟩ := h
    refine r_aaldL C hO e30 e30' (congrArg va_rf hrq) dX3_dropOldest_27 ?_
    show W _ _ _ _ _ _ _ _ _ _ _ _ _ _ _ (F0 _ _ _ (.ref a31 :: _))
    obtain ⟨n32, f33, vs34, e35, e35', e35v, h⟩ := h
    refine r_aastL C hO e35 e35' e35v dX3_dropOldest_28 (fun H locs hO => ?_)
    obtain ⟨S36, eS36⟩ : ∃ Sx, Sx = va_up S9 a23 (aL n32 (va_up f33 ((i8 - (nI 1))).toNatClampNeg (some a31))) := ⟨_, rfl⟩
    rw [← eS36] at hO
    have h := h S36 eS36
    obtain ⟨i37, ei37⟩ : ∃ y : Int32, y = i8 + (nI 1) := ⟨_, rfl⟩
    have h := h i37 ei37
    refine lv_iinc (v := i37) (lv' := [(2, .int i37), (1, .ref a7), (0, .ref a0)]) hx hb dX3_dropOldest_29 hl (k := 0) rfl (by rw [ei37]; rfl) (by decide) rfl (fun ls hl => ?_)
    refine lv_goto (tgt := 9) hx hb dX3_dropOldest_32 (by decide) ?_
    exact ih9 (i37, S36) _ _ _ h (lv_sub hl [0, 1, 2] rfl) hO
