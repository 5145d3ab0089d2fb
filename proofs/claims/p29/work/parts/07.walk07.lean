theorem hdS_L_isDraft : yL_isDraft.cls ≠ "java/lang/invoke/MethodHandle" ∧ yL_isDraft.cls ≠ "java/lang/invoke/VarHandle" ∧ (parseMethodDescriptor yL_isDraft.desc).map (fun d => d.parameters.length) = some 9 := by decide +kernel
set_option maxHeartbeats 4000000 in
set_option maxRecDepth 100000 in
theorem c_L_isDraft (l : Launch) (D : va_G) (Y : Nat → ClassId) (L : List Nat) (S : PS) (sz : Nat) (v0 : Nat) (v1 : Int32) (v2 : Int32) (v3 : Nat) (v4 : Nat) (v5 : Nat) (v6 : Nat) (v7 : Nat) (v8 : Nat) (Post : Int32 → PS → Prop) (h : wp_L_isDraft S v0 v1 v2 v3 v4 v5 v6 v7 v8 Post) : Met l yL_isDraft wsL_isDraft ({ frames := 6, cells := 64, slots := 768, locals := 143 }) (va_Pc [.ref v0, .int v1, .int v2, .ref v3, .ref v4, .ref v5, .ref v6, .ref v7, .ref v8] (PrO D Y L S sz)) (va_Qi Post (QtO D Y (fR L sz)) (fR L sz)) 64 768 (fR L sz) := by
  refine Met.ofW (cc := cL_isDraft) (maxL := 24) (ret := (some .boolean)) (by decide) rfl ?_
  intro p e s m args below meth c s₁ B hml hv
  obtain ⟨rfl, hsz, hJ, hP, hK, hD0, hZ⟩ := hv
  have hx := B.exec
  have hb := B.bytes
  have hr := B.returns
  have hts := atoms_spec (ws := wsL_isDraft) B.pre
  have hown : s.vm.findClass RL = some m.cls := findClass_of_methodNamed B.named
  have hlocks := B.notSynchronized
  have CF : CallFix p m c cL_isDraft 24 s ([.ref v0, .int v1, .int v2, .ref v3, .ref v4, .ref v5, .ref v6, .ref v7, .ref v8] : List Value).toArray wsL_isDraft RL := ⟨hx, hb, hml, hown, hts⟩
  have C : CX p m c cL_isDraft 24 s ([.ref v0, .int v1, .int v2, .ref v3, .ref v4, .ref v5, .ref v6, .ref v7, .ref v8] : List Value).toArray wsL_isDraft RL D Y := ⟨CF, hK, hZ⟩
  have hO : HO D Y (fR L sz) s.heap S s.heap [] := HO.entry hsz hJ hP hD0
  subst hsz
  have hl := lv_entry ([.ref v0, .int v1, .int v2, .ref v3, .ref v4, .ref v5, .ref v6, .ref v7, .ref v8]) (n := 24) (Nat.le_of_ble_eq_true rfl)
  rw [lg_entry_eq]
  generalize (lg_sl ([.ref v0, .int v1, .int v2, .ref v3, .ref v4, .ref v5, .ref v6, .ref v7, .ref v8]) ++ List.replicate (24 - (lg_sl ([.ref v0, .int v1, .int v2, .ref v3, .ref v4, .ref v5, .ref v6, .ref v7, .ref v8])).length) Slot.unset).toArray = ls at hl ⊢
  have hl : lv_has ls 24 [(0, .ref v0), (1, .int v1), (2, .int v2), (3, .ref v3), (4, .ref v4), (5, .ref v5), (6, .ref v6), (7, .ref v7), (8, .ref v8)] := hl
  unfold wp_L_isDraft at h
  refine lv_bipush (v := (nI 12)) hx hb dL_isDraft_0 (by decide) ?_
  refine r_newa (k := 1) (ty := .int) (N' := 12) C hO (by intro C h; cases h) rfl rfl (List.mem_of_getElem? (i := 1) (by decide +kernel)) (12, .inl (fun _ => 0)) (fun _ => rfl) (by decide) (by decide) (Nat.le_of_ble_eq_true rfl) (Nat.le_of_ble_eq_true rfl) (Nat.le_of_ble_eq_true rfl) dL_isDraft_2 (fun a1 H hqa1 hO => ?_)
  obtain ⟨S2, eS2⟩ : ∃ Sx, Sx = va_up S a1 (aI 12 (fun _ => 0)) := ⟨_, rfl⟩
  have hO := (show HO D Y (fR L s.heap.size) s.heap (va_up S a1 (aI 12 (fun _ => 0))) H _ from hO)
  rw [← eS2] at hO
  have h := h a1 hqa1 S2 eS2
  refine lv_astore (lv' := [(9, .ref a1), (0, .ref v0), (1, .int v1), (2, .int v2), (3, .ref v3), (4, .ref v4), (5, .ref v5), (6, .ref v6), (7, .ref v7), (8, .ref v8)]) hx hb dL_isDraft_4 hl (by decide) rfl (fun ls hl => ?_)
  refine lv_bipush (v := (nI 12)) hx hb dL_isDraft_6 (by decide) ?_
  refine r_newa (k := 1) (ty := .int) (N' := 12) C hO (by intro C h; cases h) rfl rfl (List.mem_of_getElem? (i := 1) (by decide +kernel)) (12, .inl (fun _ => 0)) (fun _ => rfl) (by decide) (by decide) (Nat.le_of_ble_eq_true rfl) (Nat.le_of_ble_eq_true rfl) (Nat.le_of_ble_eq_true rfl) dL_isDraft_8 (fun a3 H hqa3 hO => ?_)
  obtain ⟨S4, eS4⟩ : ∃ Sx, Sx = va_up S2 a3 (aI 12 (fun _ => 0)) := ⟨_, rfl⟩
  have hO := (show HO D Y (fR L s.heap.size) s.heap (va_up S2 a3 (aI 12 (fun _ => 0))) H _ from hO)
  rw [← eS4] at hO
  have h := h a3 hqa3 S4 eS4
  refine lv_astore (lv' := [(10, .ref a3), (9, .ref a1), (0, .ref v0), (1, .int v1), (2, .int v2), (3, .ref v3), (4, .ref v4), (5, .ref v5), (6, .ref v6), (7, .ref v7), (8, .ref v8)]) hx hb dL_isDraft_10 hl (by decide) rfl (fun ls hl => ?_)
  refine lv_iload_n hx hb dL_isDraft_12 rfl (lv_at hl 3 rfl) ?_
  refine lv_aload_n hx hb dL_isDraft_13 rfl (lv_at hl 5 rfl) ?_
  refine lv_aload hx hb dL_isDraft_14 (lv_at hl 6 rfl) ?_
  refine lv_aload hx hb dL_isDraft_16 (lv_at hl 9 rfl) ?_
  refine lv_aload hx hb dL_isDraft_18 (lv_at hl 10 rfl) ?_
  refine lv_aload hx hb dL_isDraft_20 (lv_at hl 1 rfl) ?_
  refine cS_wv (As := [.int v1, .ref v3, .ref v4, .ref v7, .ref v8, .ref a1]) (rest := []) (n := 6) C hO (fun L => c_L_lay l D Y L S4 H.size v1 v3 v4 v7 v8 a1 _ h) (va_cwS 6 hts gL_isDraft_L_lay rfl rfl rfl hdS_L_lay ⟨Nat.le_of_ble_eq_true rfl, Nat.le_of_ble_eq_true rfl⟩) rfl hl.1 rfl (Nat.le_of_ble_eq_true rfl) dL_isDraft_22 ⟨(Nat.le_of_ble_eq_true rfl), (Nat.le_of_ble_eq_true rfl)⟩ (fun S5 H locs h hO => ?_)
  refine lv_iconst (v := (nI 0)) hx hb dL_isDraft_25 (by decide) ?_
  refine lv_istore (lv' := [(11, .int (nI 0)), (10, .ref a3), (9, .ref a1), (0, .ref v0), (1, .int v1), (2, .int v2), (3, .ref v3), (4, .ref v4), (5, .ref v5), (6, .ref v6), (7, .ref v7), (8, .ref v8)]) hx hb dL_isDraft_26 hl (by decide) rfl (fun ls hl => ?_)
  refine lv_iconst (v := (nI 0)) hx hb dL_isDraft_28 (by decide) ?_
  refine lv_istore (lv' := [(12, .int (nI 0)), (11, .int (nI 0)), (10, .ref a3), (9, .ref a1), (0, .ref v0), (1, .int v1), (2, .int v2), (3, .ref v3), (4, .ref v4), (5, .ref v5), (6, .ref v6), (7, .ref v7), (8, .ref v8)]) hx hb dL_isDraft_29 hl (by decide) rfl (fun ls hl => ?_)
  refine lv_iconst (v := (nI 0)) hx hb dL_isDraft_31 (by decide) ?_
  refine lv_istore (lv' := [(13, .int (nI 0)), (12, .int (nI 0)), (11, .int (nI 0)), (10, .ref a3), (9, .ref a1), (0, .ref v0), (1, .int v1), (2, .int v2), (3, .ref v3), (4, .ref v4), (5, .ref v5), (6, .ref v6), (7, .ref v7), (8, .ref v8)]) hx hb dL_isDraft_32 hl (by decide) rfl (fun ls hl => ?_)
  obtain ⟨n222, h⟩ := h
  refine lp_W (nL := 24) (fun q => [(13, .int q.1), (12, .int q.2.1), (11, .int q.2.2.1), (10, .ref a3), (9, .ref a1), (0, .ref v0), (1, .int v1), (2, .int v2), (5, .ref v5), (6, .ref v6), (7, .ref v7), (8, .ref v8)]) (fun q => q.2.2.2) h (lv_sub hl [0, 1, 2, 3, 4, 5, 6, 7, 10, 11, 12, 13] rfl) hO (fun K34 ih34 q ls H locs h hl hO => ?_)
  obtain ⟨i6, i7, i8, S9⟩ := q
  have h : wpb_L_isDraft_34 v0 v1 v2 v5 v6 v7 v8 a1 a3 Post K34 i6 i7 i8 S9 := h
  have hl : lv_has ls 24 [(13, .int i6), (12, .int i7), (11, .int i8), (10, .ref a3), (9, .ref a1), (0, .ref v0), (1, .int v1), (2, .int v2), (5, .ref v5), (6, .ref v6), (7, .ref v7), (8, .ref v8)] := hl
  have hO : HO D Y (fR L s.heap.size) s.heap S9 H locs := hO
  unfold wpb_L_isDraft_34 at h
  refine lv_iload hx hb dL_isDraft_34 (lv_at hl 0 rfl) ?_
  refine lv_bipush (v := (nI 12)) hx hb dL_isDraft_36 (by decide) ?_
  refine lv_icmp_ge (tgt := 119) hx hb dL_isDraft_38 (by decide) (fun c10 => ?_) (fun c10 => ?_)
  · have h := h.1 c10
    refine lv_iconst (v := (nI 0)) hx hb dL_isDraft_119 (by decide) ?_
    refine lv_istore (lv' := [(13, .int (nI 0)), (12, .int i7), (11, .int i8), (10, .ref a3), (9, .ref a1), (0, .ref v0), (1, .int v1), (2, .int v2), (5, .ref v5), (6, .ref v6), (7, .ref v7), (8, .ref v8)]) hx hb dL_isDraft_120 hl (by decide) rfl (fun ls hl => ?_)
    refine lv_iconst (v := (nI 0)) hx hb dL_isDraft_122 (by decide) ?_
    refine lv_istore (lv' := [(14, .int (nI 0)), (13, .int (nI 0)), (12, .int i7), (11, .int i8), (10, .ref a3), (9, .ref a1), (0, .ref v0), (1, .int v1), (2, .int v2), (5, .ref v5), (6, .ref v6), (7, .ref v7), (8, .ref v8)]) hx hb dL_isDraft_123 hl (by decide) rfl (fun ls hl => ?_)
    refine lv_iconst (v := (nI 0)) hx hb dL_isDraft_125 (by decide) ?_
    refine lv_istore (lv' := [(15, .int (nI 0)), (14, .int (nI 0)), (13, .int (nI 0)), (12, .int i7), (11, .int i8), (10, .ref a3), (9, .ref a1), (0, .ref v0), (1, .int v1), (2, .int v2), (5, .ref v5), (6, .ref v6), (7, .ref v7), (8, .ref v8)]) hx hb dL_isDraft_126 hl (by decide) rfl (fun ls hl => ?_)
    obtain ⟨n187, h⟩ := h
    refine lp_P (nL := 24) (fun q => [(15, .int q.1), (14, .int q.2.1), (13, .int q.2.2), (12, .int i7), (11, .int i8), (10, .ref a3), (9, .ref a1), (0, .ref v0), (1, .int v1), (2, .int v2), (5, .ref v5), (6, .ref v6), (7, .ref v7), (8, .ref v8)]) h (lv_sub hl [0, 1, 2, 3, 4, 5, 6, 7, 8, 9, 10, 11, 12, 13] rfl) (fun K128 ih128 q ls h hl => ?_)
    obtain ⟨i11, i12, i13⟩ := q
    have h : wpb_L_isDraft_128 v0 v1 v2 v5 v6 v7 v8 a1 a3 i7 i8 S9 Post K128 i11 i12 i13 := h
    have hl : lv_has ls 24 [(15, .int i11), (14, .int i12), (13, .int i13), (12, .int i7), (11, .int i8), (10, .ref a3), (9, .ref a1), (0, .ref v0), (1, .int v1), (2, .int v2), (5, .ref v5), (6, .ref v6), (7, .ref v7), (8, .ref v8)] := hl
    unfold wpb_L_isDraft_128 at h
    refine lv_iload hx hb dL_isDraft_128 (lv_at hl 0 rfl) ?_
    refine lv_bipush (v := (nI 12)) hx hb dL_isDraft_130 (by decide) ?_
    refine lv_icmp_ge (tgt := 236) hx hb dL_isDraft_132 (by decide) (fun c14 => ?_) (fun c14 => ?_)
    · have h := h.1 c14
      refine lv_iconst (v := (nI 0)) hx hb dL_isDraft_236 (by decide) ?_
      refine lv_istore (lv' := [(15, .int (nI 0)), (14, .int i12), (13, .int i13), (12, .int i7), (11, .int i8), (10, .ref a3), (9, .ref a1), (0, .ref v0), (1, .int v1), (2, .int v2), (5, .ref v5), (6, .ref v6), (7, .ref v7), (8, .ref v8)]) hx hb dL_isDraft_237 hl (by decide) rfl (fun ls hl => ?_)
      refine lv_iconst (v := (nI 0)) hx hb dL_isDraft_239 (by decide) ?_
      refine lv_istore (lv' := [(16, .int (nI 0)), (15, .int (nI 0)), (14, .int i12), (13, .int i13), (12, .int i7), (11, .int i8), (10, .ref a3), (9, .ref a1), (0, .ref v0), (1, .int v1), (2, .int v2), (5, .ref v5), (6, .ref v6), (7, .ref v7), (8, .ref v8)]) hx hb dL_isDraft_240 hl (by decide) rfl (fun ls hl => ?_)
      refine lv_aload hx hb dL_isDraft_242 (lv_at hl 6 rfl) ?_
      refine cS_ri (As := [.ref a3]) (rest := []) (n := 1) C hO (fun L => c_L_home l D Y L S9 H.size a3 _ h) (va_cwS 1 hts gL_isDraft_L_home rfl rfl rfl hdS_L_home ⟨Nat.le_of_ble_eq_true rfl, Nat.le_of_ble_eq_true rfl⟩) rfl hl.1 rfl (Nat.le_of_ble_eq_true rfl) dL_isDraft_244 ⟨(Nat.le_of_ble_eq_true rfl), (Nat.le_of_ble_eq_true rfl)⟩ (fun i15 h => ?_)
      refine lv_bipush (v := (nI 12)) hx hb dL_isDraft_247 (by decide) ?_
      refine cut_P (nL := 24) (fun (q : Int32) => wpk_L_isDraft_260 v0 v1 v2 v5 v6 v7 v8 a1 a3 i7 i8 S9 i12 i13 Post q) (fun q => [(16, .int (nI 0)), (15, .int (nI 0)), (14, .int i12), (13, .int i13), (12, .int i7), (11, .int i8), (10, .ref a3), (9, .ref a1), (0, .ref v0), (1, .int v1), (2, .int v2), (5, .ref v5), (6, .ref v6), (7, .ref v7), (8, .ref v8), (17, .int q)]) 260 ?_ (fun kc260 => ?_)
      · intro q ls h hl
        obtain ⟨i16, rfl⟩ : ∃ z, z = q := ⟨q, rfl⟩
        have h : wpk_L_isDraft_260 v0 v1 v2 v5 v6 v7 v8 a1 a3 i7 i8 S9 i12 i13 Post i16 := h
        have hl : lv_has ls 24 [(16, .int (nI 0)), (15, .int (nI 0)), (14, .int i12), (13, .int i13), (12, .int i7), (11, .int i8), (10, .ref a3), (9, .ref a1), (0, .ref v0), (1, .int v1), (2, .int v2), (5, .ref v5), (6, .ref v6), (7, .ref v7), (8, .ref v8), (17, .int i16)] := hl
        unfold wpk_L_isDraft_260 at h
        refine lv_iconst (v := (nI 0)) hx hb dL_isDraft_260 (by decide) ?_
        refine lv_istore (lv' := [(18, .int (nI 0)), (16, .int (nI 0)), (15, .int (nI 0)), (14, .int i12), (13, .int i13), (12, .int i7), (11, .int i8), (10, .ref a3), (9, .ref a1), (0, .ref v0), (1, .int v1), (2, .int v2), (5, .ref v5), (6, .ref v6), (7, .ref v7), (8, .ref v8), (17, .int i16)]) hx hb dL_isDraft_261 hl (by decide) rfl (fun ls hl => ?_)
        refine cut_WA D Y (fR L s.heap.size) s.heap (nL := 24) (64) (768) (fun (q : Int32 × Int32 × Int32 × PS) => wpk_L_isDraft_428 v0 v1 v2 v7 v8 a1 i7 i8 i12 i13 Post q.1 q.2.1 q.2.2.1 q.2.2.2) (fun q => [(16, .int q.1), (15, .int q.2.1), (14, .int i12), (13, .int i13), (12, .int i7), (11, .int i8), (9, .ref a1), (0, .ref v0), (1, .int v1), (2, .int v2), (7, .ref v7), (8, .ref v8), (17, .int q.2.2.1)]) (fun q => q.2.2.2) 428 ?_ (fun kc428 => ?_)
        · intro q ls H locs h hl hO
          obtain ⟨i17, i18, i19, S20⟩ := q
          have h : wpk_L_isDraft_428 v0 v1 v2 v7 v8 a1 i7 i8 i12 i13 Post i17 i18 i19 S20 := h
          have hl : lv_has ls 24 [(16, .int i17), (15, .int i18), (14, .int i12), (13, .int i13), (12, .int i7), (11, .int i8), (9, .ref a1), (0, .ref v0), (1, .int v1), (2, .int v2), (7, .ref v7), (8, .ref v8), (17, .int i19)] := hl
          have hO : HO D Y (fR L s.heap.size) s.heap S20 H locs := hO
          unfold wpk_L_isDraft_428 at h
          refine lv_iload_n hx hb dL_isDraft_428 rfl (lv_at hl 9 rfl) ?_
          refine lv_bipush (v := (nI 12)) hx hb dL_isDraft_429 (by decide) ?_
          refine cS_si (As := [.int v2, .int (nI 12)]) (rest := []) (n := 2) CF hZ (c_L_low l v2 (nI 12) _ h) (va_cwS 2 hts gL_isDraft_L_low rfl rfl rfl hdS_L_low ⟨Nat.le_of_ble_eq_true rfl, Nat.le_of_ble_eq_true rfl⟩) rfl hl.1 rfl (Nat.le_of_ble_eq_true rfl) dL_isDraft_431 ⟨(Nat.le_of_ble_eq_true rfl), (Nat.le_of_ble_eq_true rfl)⟩ (fun i21 h => ?_)
          refine lv_istore (lv' := [(19, .int i21), (16, .int i17), (15, .int i18), (14, .int i12), (13, .int i13), (12, .int i7), (11, .int i8), (9, .ref a1), (0, .ref v0), (1, .int v1), (2, .int v2), (7, .ref v7), (8, .ref v8), (17, .int i19)]) hx hb dL_isDraft_434 hl (by decide) rfl (fun ls hl => ?_)
          refine lv_iload_n hx hb dL_isDraft_436 rfl (lv_at hl 10 rfl) ?_
          refine lv_iconst (v := (nI 4)) hx hb dL_isDraft_437 (by decide) ?_
          refine lv_ishr hx hb dL_isDraft_438 ?_
          refine lv_ldc hx hb hown (hts _ (List.mem_of_getElem? (i := 2) (by decide +kernel : wsL_isDraft[2]? = some (Cond.constant RL 113 (1000001))))) dL_isDraft_439 ?_
          refine cS_si (As := [.int (v2 >>> ((nI 4) &&& 31)), .int (1000001 : Int32)]) (rest := []) (n := 2) CF hZ (c_L_low l ((v2 >>> ((nI 4) &&& 31))) (1000001 : Int32) _ h) (va_cwS 2 hts gL_isDraft_L_low rfl rfl rfl hdS_L_low ⟨Nat.le_of_ble_eq_true rfl, Nat.le_of_ble_eq_true rfl⟩) rfl hl.1 rfl (Nat.le_of_ble_eq_true rfl) dL_isDraft_441 ⟨(Nat.le_of_ble_eq_true rfl), (Nat.le_of_ble_eq_true rfl)⟩ (fun i22 h => ?_)
          refine lv_istore (lv' := [(20, .int i22), (19, .int i21), (16, .int i17), (15, .int i18), (14, .int i12), (13, .int i13), (12, .int i7), (11, .int i8), (9, .ref a1), (0, .ref v0), (1, .int v1), (2, .int v2), (7, .ref v7), (8, .ref v8), (17, .int i19)]) hx hb dL_isDraft_444 hl (by decide) rfl (fun ls hl => ?_)
          refine lv_iload hx hb dL_isDraft_446 (lv_at hl 1 rfl) ?_
          refine lv_istore (lv' := [(21, .int i21), (20, .int i22), (19, .int i21), (16, .int i17), (15, .int i18), (14, .int i12), (13, .int i13), (12, .int i7), (11, .int i8), (9, .ref a1), (0, .ref v0), (1, .int v1), (2, .int v2), (7, .ref v7), (8, .ref v8), (17, .int i19)]) hx hb dL_isDraft_448 hl (by decide) rfl (fun ls hl => ?_)
          refine lv_iconst (v := (nI 0)) hx hb dL_isDraft_450 (by decide) ?_
          refine lv_istore (lv' := [(22, .int (nI 0)), (21, .int i21), (20, .int i22), (19, .int i21), (16, .int i17), (15, .int i18), (14, .int i12), (13, .int i13), (12, .int i7), (11, .int i8), (9, .ref a1), (0, .ref v0), (1, .int v1), (2, .int v2), (7, .ref v7), (8, .ref v8), (17, .int i19)]) hx hb dL_isDraft_451 hl (by decide) rfl (fun ls hl => ?_)
          obtain ⟨n102, h⟩ := h
          refine lp_P (nL := 24) (fun q => [(22, .int q.1), (21, .int q.2), (20, .int i22), (19, .int i21), (16, .int i17), (15, .int i18), (14, .int i12), (13, .int i13), (12, .int i7), (11, .int i8), (9, .ref a1), (0, .ref v0), (1, .int v1), (7, .ref v7), (8, .ref v8), (17, .int i19)]) h (lv_sub hl [0, 1, 2, 3, 4, 5, 6, 7, 8, 9, 10, 11, 12, 14, 15, 16] rfl) (fun K453 ih453 q ls h hl => ?_)
          obtain ⟨i23, i24⟩ := q
          have h : wpb_L_isDraft_453 v0 v1 v7 v8 a1 i7 i8 i12 i13 i17 i18 i19 S20 i21 i22 Post K453 i23 i24 := h
          have hl : lv_has ls 24 [(22, .int i23), (21, .int i24), (20, .int i22), (19, .int i21), (16, .int i17), (15, .int i18), (14, .int i12), (13, .int i13), (12, .int i7), (11, .int i8), (9, .ref a1), (0, .ref v0), (1, .int v1), (7, .ref v7), (8, .ref v8), (17, .int i19)] := hl
          unfold wpb_L_isDraft_453 at h
          refine lv_iload hx hb dL_isDraft_453 (lv_at hl 0 rfl) ?_
          refine lv_iload hx hb dL_isDraft_455 (lv_at hl 2 rfl) ?_
          refine lv_iload hx hb dL_isDraft_457 (lv_at hl 5 rfl) ?_
          obtain ⟨g25, h⟩ := h
          refine lv_irem hx hb dL_isDraft_459 g25 ?_
          refine lv_icmp_ge (tgt := 476) hx hb dL_isDraft_460 (by decide) (fun c26 => ?_) (fun c26 => ?_)
          · have h := h.1 c26
            refine lv_aload_n hx hb dL_isDraft_476 rfl (lv_at hl 11 rfl) ?_
            refine lv_iload_n hx hb dL_isDraft_477 rfl (lv_at hl 12 rfl) ?_
            refine lv_iconst (v := (nI 0)) hx hb dL_isDraft_478 (by decide) ?_
            obtain ⟨fs29, e28, h⟩ := h
            refine cV_ri (As := [.int v1, .int (nI 0)]) (rest := []) (n := 2) C hO (fun L => c_X7_draft l D Y L S20 H.size v0 v1 (nI 0) _ h) 5 rfl e28 (cwV 2 hts gL_isDraft_X7_draft rfl rfl rfl ⟨rfl, hdS_X7_draft⟩ ⟨Nat.le_of_ble_eq_true rfl, Nat.le_of_ble_eq_true rfl⟩) rfl hl.1 rfl (Nat.le_of_ble_eq_true rfl) dL_isDraft_479 ⟨(Nat.le_of_ble_eq_true rfl), (Nat.le_of_ble_eq_true rfl)⟩ (fun i27 h => ?_)
            refine lv_aload hx hb dL_isDraft_482 (lv_at hl 13 rfl) ?_
            refine lv_iload_n hx hb dL_isDraft_484 rfl (lv_at hl 12 rfl) ?_
            obtain ⟨n30, f31, i33, e32, e32', exi33, h⟩ := h
            refine r_iald C hO e32 e32' dL_isDraft_485 ?_
            rw [exi33]
            refine cut_P (nL := 24) (fun (q : Int32) => wpk_L_isDraft_587 v0 v1 v7 v8 S20 Post q) (fun q => [(22, .int q), (0, .ref v0), (1, .int v1), (7, .ref v7), (8, .ref v8)]) 587 ?_ (fun kc587 => ?_)
            · intro q ls h hl
              obtain ⟨i34, rfl⟩ : ∃ z, z = q := ⟨q, rfl⟩
              have h : wpk_L_isDraft_587 v0 v1 v7 v8 S20 Post i34 := h
              have hl : lv_has ls 24 [(22, .int i34), (0, .ref v0), (1, .int v1), (7, .ref v7), (8, .ref v8)] := hl
              unfold wpk_L_isDraft_587 at h
              refine lv_iconst (v := (nI 0)) hx hb dL_isDraft_587 (by decide) ?_
              refine lv_istore (lv' := [(23, .int (nI 0)), (22, .int i34), (0, .ref v0), (1, .int v1), (7, .ref v7), (8, .ref v8)]) hx hb dL_isDraft_588 hl (by decide) rfl (fun ls hl => ?_)
              obtain ⟨n63, h⟩ := h
              refine lp_P (nL := 24) (fun q => [(23, .int q.1), (22, .int q.2), (0, .ref v0), (1, .int v1), (7, .ref v7), (8, .ref v8)]) h (lv_sub hl [0, 1, 2, 3, 4, 5] rfl) (fun K590 ih590 q ls h hl => ?_)
              obtain ⟨i35, i36⟩ := q
              have h : wpb_L_isDraft_590 v0 v1 v7 v8 S20 Post K590 i35 i36 := h
              have hl : lv_has ls 24 [(23, .int i35), (22, .int i36), (0, .ref v0), (1, .int v1), (7, .ref v7), (8, .ref v8)] := hl
              unfold wpb_L_isDraft_590 at h
              refine lv_iload hx hb dL_isDraft_590 (lv_at hl 0 rfl) ?_
              refine lv_aload hx hb dL_isDraft_592 (lv_at hl 4 rfl) ?_
              refine lv_iload_n hx hb dL_isDraft_594 rfl (lv_at hl 3 rfl) ?_
              obtain ⟨n37, f38, i40, e39, e39', exi40, h⟩ := h
              refine r_iald C hO e39 e39' dL_isDraft_595 ?_
              rw [exi40]
              refine lv_icmp_ge (tgt := 635) hx hb dL_isDraft_596 (by decide) (fun c41 => ?_) (fun c41 => ?_)
              · have h := h.1 c41
                refine lv_iload hx hb dL_isDraft_635 (lv_at hl 1 rfl) ?_
                refine lv_if_eq (tgt := 667) hx hb dL_isDraft_637 (by decide) (fun c42 => ?_) (fun c42 => ?_)
                · have h := h.1 c42
                  refine lv_iconst (v := (nI 0)) hx hb dL_isDraft_667 (by decide) ?_
                  exact W.zret hx hb hr (by decide) (fun t ht hW => ⟨⟨(nI 0), S20, rfl, h, hO.q ht⟩, hO.f ht⟩) hO.lc dL_isDraft_668
                · have h := h.2 c42
                  refine lv_aload_n hx hb dL_isDraft_640 rfl (lv_at hl 2 rfl) ?_
                  refine lv_iload_n hx hb dL_isDraft_641 rfl (lv_at hl 3 rfl) ?_
                  refine lv_aload hx hb dL_isDraft_642 (lv_at hl 4 rfl) ?_
                  refine lv_iload_n hx hb dL_isDraft_644 rfl (lv_at hl 3 rfl) ?_
                  obtain ⟨n43, f44, i46, e45, e45', exi46, h⟩ := h
                  refine r_iald C hO e45 e45' dL_isDraft_645 ?_
                  rw [exi46]
                  obtain ⟨fs49, e48, h⟩ := h
                  refine cV_ri (As := [.int v1, .int i46]) (rest := []) (n := 2) C hO (fun L => c_X7_press l D Y L S20 H.size v0 v1 i46 _ h) 5 rfl e48 (cwV 2 hts gL_isDraft_X7_press rfl rfl rfl ⟨rfl, hdS_X7_press⟩ ⟨Nat.le_of_ble_eq_true rfl, Nat.le_of_ble_eq_true rfl⟩) rfl hl.1 rfl (Nat.le_of_ble_eq_true rfl) dL_isDraft_646 ⟨(Nat.le_of_ble_eq_true rfl), (Nat.le_of_ble_eq_true rfl)⟩ (fun i47 h => ?_)
                  refine lv_iconst (v := (-1 : Int32)) hx hb dL_isDraft_649 (by decide) ?_
                  refine lv_icmp_ne (tgt := 667) hx hb dL_isDraft_650 (by decide) (fun c50 => ?_) (fun c50 => ?_)
                  · have h := h.2 c50
                    refine lv_iconst (v := (nI 0)) hx hb dL_isDraft_667 (by decide) ?_
                    exact W.zret hx hb hr (by decide) (fun t ht hW => ⟨⟨(nI 0), S20, rfl, h, hO.q ht⟩, hO.f ht⟩) hO.lc dL_isDraft_668
                  · have h := h.1 c50
                    refine lv_aload_n hx hb dL_isDraft_653 rfl (lv_at hl 2 rfl) ?_
                    refine lv_iload_n hx hb dL_isDraft_654 rfl (lv_at hl 3 rfl) ?_
                    refine lv_iconst (v := (-1 : Int32)) hx hb dL_isDraft_655 (by decide) ?_
                    obtain ⟨fs53, e52, h⟩ := h
                    refine cV_ri (As := [.int v1, .int (-1 : Int32)]) (rest := []) (n := 2) C hO (fun L => c_X7_press l D Y L S20 H.size v0 v1 (-1 : Int32) _ h) 5 rfl e52 (cwV 2 hts gL_isDraft_X7_press rfl rfl rfl ⟨rfl, hdS_X7_press⟩ ⟨Nat.le_of_ble_eq_true rfl, Nat.le_of_ble_eq_true rfl⟩) rfl hl.1 rfl (Nat.le_of_ble_eq_true rfl) dL_isDraft_656 ⟨(Nat.le_of_ble_eq_true rfl), (Nat.le_of_ble_eq_true rfl)⟩ (fun i51 h => ?_)
                    refine lv_iconst (v := (-1 : Int32)) hx hb dL_isDraft_659 (by decide) ?_
                    refine lv_icmp_ne (tgt := 667) hx hb dL_isDraft_660 (by decide) (fun c54 => ?_) (fun c54 => ?_)
                    · have h := h.2 c54
                      refine lv_iconst (v := (nI 0)) hx hb dL_isDraft_667 (by decide) ?_
                      exact W.zret hx hb hr (by decide) (fun t ht hW => ⟨⟨(nI 0), S20, rfl, h, hO.q ht⟩, hO.f ht⟩) hO.lc dL_isDraft_668
                    · have h := h.1 c54
                      refine lv_iconst (v := (nI 1)) hx hb dL_isDraft_663 (by decide) ?_
                      refine lv_goto (tgt := 668) hx hb dL_isDraft_664 (by decide) ?_
                      exact W.zret hx hb hr (by decide) (fun t ht hW => ⟨⟨(nI 1), S20, rfl, h, hO.q ht⟩, hO.f ht⟩) hO.lc dL_isDraft_668
              · have h := h.2 c41
                refine lv_iload hx hb dL_isDraft_599 (lv_at hl 1 rfl) ?_
                refine cut_P (nL := 24) (fun (q : Int32) => wpk_L_isDraft_629 i35 K590 q) (fun q => [(23, .int i35), (22, .int q), (0, .ref v0), (1, .int v1), (7, .ref v7), (8, .ref v8)]) 629 ?_ (fun kc629 => ?_)
                · intro q ls h hl
                  obtain ⟨i55, rfl⟩ : ∃ z, z = q := ⟨q, rfl⟩
                  have h : wpk_L_isDraft_629 i35 K590 i55 := h
                  have hl : lv_has ls 24 [(23, .int i35), (22, .int i55), (0, .ref v0), (1, .int v1), (7, .ref v7), (8, .ref v8)] := hl
                  unfold wpk_L_isDraft_629 at h
                  obtain ⟨i56, ei56⟩ : ∃ y : Int32, y = i35 + (nI 1) := ⟨_, rfl⟩
                  have h := h i56 ei56
                  refine lv_iinc (v := i56) (lv' := [(23, .int i56), (22, .int i55), (0, .ref v0), (1, .int v1), (7, .ref v7), (8, .ref v8)]) hx hb dL_isDraft_629 hl (k := 0) rfl (by rw [ei56]; rfl) (by decide) rfl (fun ls hl => ?_)
                  refine lv_goto (tgt := 590) hx hb dL_isDraft_632 (by decide) ?_
                  exact ih590 (i56, i55) _ h (lv_sub hl [0, 1, 2, 3, 4, 5] rfl)
                refine lv_if_eq (tgt := 626) hx hb dL_isDraft_601 (by decide) (fun c57 => ?_) (fun c57 => ?_)
                · have h := h.1 c57
                  refine lv_iconst (v := (nI 0)) hx hb dL_isDraft_626 (by decide) ?_
                  refine lv_istore (lv' := [(22, .int (nI 0)), (23, .int i35), (0, .ref v0), (1, .int v1), (7, .ref v7), (8, .ref v8)]) hx hb dL_isDraft_627 hl (by decide) rfl (fun ls hl => ?_)
                  exact kc629 (nI 0) _ h (lv_sub hl [1, 0, 2, 3, 4, 5] rfl)
                · have h := h.2 c57
                  refine lv_aload_n hx hb dL_isDraft_604 rfl (lv_at hl 2 rfl) ?_
                  refine lv_iload_n hx hb dL_isDraft_605 rfl (lv_at hl 3 rfl) ?_
                  refine lv_iload hx hb dL_isDraft_606 (lv_at hl 0 rfl) ?_
                  obtain ⟨fs60, e59, h⟩ := h
                  refine cV_ri (As := [.int v1, .int i35]) (rest := []) (n := 2) C hO (fun L => c_X7_press l D Y L S20 H.size v0 v1 i35 _ h) 5 rfl e59 (cwV 2 hts gL_isDraft_X7_press rfl rfl rfl ⟨rfl, hdS_X7_press⟩ ⟨Nat.le_of_ble_eq_true rfl, Nat.le_of_ble_eq_true rfl⟩) rfl hl.1 rfl (Nat.le_of_ble_eq_true rfl) dL_isDraft_608 ⟨(Nat.le_of_ble_eq_true rfl), (Nat.le_of_ble_eq_true rfl)⟩ (fun i58 h => ?_)
                  refine lv_iload_n hx hb dL_isDraft_611 rfl (lv_at hl 3 rfl) ?_
                  refine lv_iload hx hb dL_isDraft_612 (lv_at hl 0 rfl) ?_
                  refine lv_aload hx hb dL_isDraft_614 (lv_at hl 5 rfl) ?_
                  refine cS_ri (As := [.int v1, .int i35, .ref v8]) (rest := [.int i58]) (n := 3) C hO (fun L => c_L_pressAt l D Y L S20 H.size v1 i35 v8 _ h) (va_cwS 3 hts gL_isDraft_L_pressAt rfl rfl rfl hdS_L_pressAt ⟨Nat.le_of_ble_eq_true rfl, Nat.le_of_ble_eq_true rfl⟩) rfl hl.1 rfl (Nat.le_of_ble_eq_true rfl) dL_isDraft_616 ⟨(Nat.le_of_ble_eq_true rfl), (Nat.le_of_ble_eq_true rfl)⟩ (fun i61 h => ?_)
                  refine lv_icmp_ne (tgt := 626) hx hb dL_isDraft_619 (by decide) (fun c62 => ?_) (fun c62 => ?_)
                  · have h := h.2 c62
                    refine lv_iconst (v := (nI 0)) hx hb dL_isDraft_626 (by decide) ?_
                    refine lv_istore (lv' := [(22, .int (nI 0)), (23, .int i35), (0, .ref v0), (1, .int v1), (7, .ref v7), (8, .ref v8)]) hx hb dL_isDraft_627 hl (by decide) rfl (fun ls hl => ?_)
                    exact kc629 (nI 0) _ h (lv_sub hl [1, 0, 2, 3, 4, 5] rfl)
                  · have h := h.1 c62
                    refine lv_iconst (v := (nI 1)) hx hb dL_isDraft_622 (by decide) ?_
                    refine lv_goto (tgt := 627) hx hb dL_isDraft_623 (by decide) ?_
                    refine lv_istore (lv' := [(22, .int (nI 1)), (23, .int i35), (0, .ref v0), (1, .int v1), (7, .ref v7), (8, .ref v8)]) hx hb dL_isDraft_627 hl (by decide) rfl (fun ls hl => ?_)
                    exact kc629 (nI 1) _ h (lv_sub hl [1, 0, 2, 3, 4, 5] rfl)
            refine lv_icmp_ne (tgt := 584) hx hb dL_isDraft_486 (by decide) (fun c64 => ?_) (fun c64 => ?_)
            · have h := h.2 c64
              refine lv_iconst (v := (nI 0)) hx hb dL_isDraft_584 (by decide) ?_
              refine lv_istore (lv' := [(22, .int (nI 0)), (21, .int i24), (20, .int i22), (19, .int i21), (16, .int i17), (15, .int i18), (14, .int i12), (13, .int i13), (12, .int i7), (11, .int i8), (9, .ref a1), (0, .ref v0), (1, .int v1), (7, .ref v7), (8, .ref v8), (17, .int i19)]) hx hb dL_isDraft_585 hl (by decide) rfl (fun ls hl => ?_)
              exact kc587 (nI 0) _ h (lv_sub hl [0, 11, 12, 13, 14] rfl)
            · have h := h.1 c64
              refine lv_aload_n hx hb dL_isDraft_489 rfl (lv_at hl 11 rfl) ?_
              refine lv_iload_n hx hb dL_isDraft_490 rfl (lv_at hl 12 rfl) ?_
              refine lv_iconst (v := (nI 1)) hx hb dL_isDraft_491 (by decide) ?_
              obtain ⟨fs67, e66, h⟩ := h
              refine cV_ri (As := [.int v1, .int (nI 1)]) (rest := []) (n := 2) C hO (fun L => c_X7_draft l D Y L S20 H.size v0 v1 (nI 1) _ h) 5 rfl e66 (cwV 2 hts gL_isDraft_X7_draft rfl rfl rfl ⟨rfl, hdS_X7_draft⟩ ⟨Nat.le_of_ble_eq_true rfl, Nat.le_of_ble_eq_true rfl⟩) rfl hl.1 rfl (Nat.le_of_ble_eq_true rfl) dL_isDraft_492 ⟨(Nat.le_of_ble_eq_true rfl), (Nat.le_of_ble_eq_true rfl)⟩ (fun i65 h => ?_)
              refine lv_iload hx hb dL_isDraft_495 (lv_at hl 5 rfl) ?_
              refine lv_icmp_ne (tgt := 584) hx hb dL_isDraft_497 (by decide) (fun c68 => ?_) (fun c68 => ?_)
              · have h := h.2 c68
                refine lv_iconst (v := (nI 0)) hx hb dL_isDraft_584 (by decide) ?_
                refine lv_istore (lv' := [(22, .int (nI 0)), (21, .int i24), (20, .int i22), (19, .int i21), (16, .int i17), (15, .int i18), (14, .int i12), (13, .int i13), (12, .int i7), (11, .int i8), (9, .ref a1), (0, .ref v0), (1, .int v1), (7, .ref v7), (8, .ref v8), (17, .int i19)]) hx hb dL_isDraft_585 hl (by decide) rfl (fun ls hl => ?_)
                exact kc587 (nI 0) _ h (lv_sub hl [0, 11, 12, 13, 14] rfl)
              · have h := h.1 c68
                refine lv_aload_n hx hb dL_isDraft_500 rfl (lv_at hl 11 rfl) ?_
                refine lv_iload_n hx hb dL_isDraft_501 rfl (lv_at hl 12 rfl) ?_
                refine lv_iconst (v := (nI 2)) hx hb dL_isDraft_502 (by decide) ?_
                obtain ⟨fs71, e70, h⟩ := h
                refine cV_ri (As := [.int v1, .int (nI 2)]) (rest := []) (n := 2) C hO (fun L => c_X7_draft l D Y L S20 H.size v0 v1 (nI 2) _ h) 5 rfl e70 (cwV 2 hts gL_isDraft_X7_draft rfl rfl rfl ⟨rfl, hdS_X7_draft⟩ ⟨Nat.le_of_ble_eq_true rfl, Nat.le_of_ble_eq_true rfl⟩) rfl hl.1 rfl (Nat.le_of_ble_eq_true rfl) dL_isDraft_503 ⟨(Nat.le_of_ble_eq_true rfl), (Nat.le_of_ble_eq_true rfl)⟩ (fun i69 h => ?_)
                refine lv_iload hx hb dL_isDraft_506 (lv_at hl 9 rfl) ?_
                refine lv_icmp_ne (tgt := 584) hx hb dL_isDraft_508 (by decide) (fun c72 => ?_) (fun c72 => ?_)
                · have h := h.2 c72
                  refine lv_iconst (v := (nI 0)) hx hb dL_isDraft_584 (by decide) ?_
                  refine lv_istore (lv' := [(22, .int (nI 0)), (21, .int i24), (20, .int i22), (19, .int i21), (16, .int i17), (15, .int i18), (14, .int i12), (13, .int i13), (12, .int i7), (11, .int i8), (9, .ref a1), (0, .ref v0), (1, .int v1), (7, .ref v7), (8, .ref v8), (17, .int i19)]) hx hb dL_isDraft_585 hl (by decide) rfl (fun ls hl => ?_)
                  exact kc587 (nI 0) _ h (lv_sub hl [0, 11, 12, 13, 14] rfl)
                · have h := h.1 c72
                  refine lv_aload_n hx hb dL_isDraft_511 rfl (lv_at hl 11 rfl) ?_
                  refine lv_iload_n hx hb dL_isDraft_512 rfl (lv_at hl 12 rfl) ?_
                  refine lv_iconst (v := (nI 3)) hx hb dL_isDraft_513 (by decide) ?_
                  obtain ⟨fs75, e74, h⟩ := h
                  refine cV_ri (As := [.int v1, .int (nI 3)]) (rest := []) (n := 2) C hO (fun L => c_X7_draft l D Y L S20 H.size v0 v1 (nI 3) _ h) 5 rfl e74 (cwV 2 hts gL_isDraft_X7_draft rfl rfl rfl ⟨rfl, hdS_X7_draft⟩ ⟨Nat.le_of_ble_eq_true rfl, Nat.le_of_ble_eq_true rfl⟩) rfl hl.1 rfl (Nat.le_of_ble_eq_true rfl) dL_isDraft_514 ⟨(Nat.le_of_ble_eq_true rfl), (Nat.le_of_ble_eq_true rfl)⟩ (fun i73 h => ?_)
                  refine lv_iload hx hb dL_isDraft_517 (lv_at hl 7 rfl) ?_
                  refine lv_icmp_ne (tgt := 584) hx hb dL_isDraft_519 (by decide) (fun c76 => ?_) (fun c76 => ?_)
                  · have h := h.2 c76
                    refine lv_iconst (v := (nI 0)) hx hb dL_isDraft_584 (by decide) ?_
                    refine lv_istore (lv' := [(22, .int (nI 0)), (21, .int i24), (20, .int i22), (19, .int i21), (16, .int i17), (15, .int i18), (14, .int i12), (13, .int i13), (12, .int i7), (11, .int i8), (9, .ref a1), (0, .ref v0), (1, .int v1), (7, .ref v7), (8, .ref v8), (17, .int i19)]) hx hb dL_isDraft_585 hl (by decide) rfl (fun ls hl => ?_)
                    exact kc587 (nI 0) _ h (lv_sub hl [0, 11, 12, 13, 14] rfl)
                  · have h := h.1 c76
                    refine lv_aload_n hx hb dL_isDraft_522 rfl (lv_at hl 11 rfl) ?_
                    refine lv_iload_n hx hb dL_isDraft_523 rfl (lv_at hl 12 rfl) ?_
                    refine lv_iconst (v := (nI 4)) hx hb dL_isDraft_524 (by decide) ?_
                    obtain ⟨fs79, e78, h⟩ := h
                    refine cV_ri (As := [.int v1, .int (nI 4)]) (rest := []) (n := 2) C hO (fun L => c_X7_draft l D Y L S20 H.size v0 v1 (nI 4) _ h) 5 rfl e78 (cwV 2 hts gL_isDraft_X7_draft rfl rfl rfl ⟨rfl, hdS_X7_draft⟩ ⟨Nat.le_of_ble_eq_true rfl, Nat.le_of_ble_eq_true rfl⟩) rfl hl.1 rfl (Nat.le_of_ble_eq_true rfl) dL_isDraft_525 ⟨(Nat.le_of_ble_eq_true rfl), (Nat.le_of_ble_eq_true rfl)⟩ (fun i77 h => ?_)
                    refine lv_iload hx hb dL_isDraft_528 (lv_at hl 6 rfl) ?_
                    refine lv_icmp_ne (tgt := 584) hx hb dL_isDraft_530 (by decide) (fun c80 => ?_) (fun c80 => ?_)
                    · have h := h.2 c80
                      refine lv_iconst (v := (nI 0)) hx hb dL_isDraft_584 (by decide) ?_
                      refine lv_istore (lv' := [(22, .int (nI 0)), (21, .int i24), (20, .int i22), (19, .int i21), (16, .int i17), (15, .int i18), (14, .int i12), (13, .int i13), (12, .int i7), (11, .int i8), (9, .ref a1), (0, .ref v0), (1, .int v1), (7, .ref v7), (8, .ref v8), (17, .int i19)]) hx hb dL_isDraft_585 hl (by decide) rfl (fun ls hl => ?_)
                      exact kc587 (nI 0) _ h (lv_sub hl [0, 11, 12, 13, 14] rfl)
                    · have h := h.1 c80
                      refine lv_aload_n hx hb dL_isDraft_533 rfl (lv_at hl 11 rfl) ?_
                      refine lv_iload_n hx hb dL_isDraft_534 rfl (lv_at hl 12 rfl) ?_
                      refine lv_iconst (v := (nI 5)) hx hb dL_isDraft_535 (by decide) ?_
                      obtain ⟨fs83, e82, h⟩ := h
                      refine cV_ri (As := [.int v1, .int (nI 5)]) (rest := []) (n := 2) C hO (fun L => c_X7_draft l D Y L S20 H.size v0 v1 (nI 5) _ h) 5 rfl e82 (cwV 2 hts gL_isDraft_X7_draft rfl rfl rfl ⟨rfl, hdS_X7_draft⟩ ⟨Nat.le_of_ble_eq_true rfl, Nat.le_of_ble_eq_true rfl⟩) rfl hl.1 rfl (Nat.le_of_ble_eq_true rfl) dL_isDraft_536 ⟨(Nat.le_of_ble_eq_true rfl), (Nat.le_of_ble_eq_true rfl)⟩ (fun i81 h => ?_)
                      refine lv_iload hx hb dL_isDraft_539 (lv_at hl 8 rfl) ?_
                      refine lv_icmp_ne (tgt := 584) hx hb dL_isDraft_541 (by decide) (fun c84 => ?_) (fun c84 => ?_)
                      · have h := h.2 c84
                        refine lv_iconst (v := (nI 0)) hx hb dL_isDraft_584 (by decide) ?_
                        refine lv_istore (lv' := [(22, .int (nI 0)), (21, .int i24), (20, .int i22), (19, .int i21), (16, .int i17), (15, .int i18), (14, .int i12), (13, .int i13), (12, .int i7), (11, .int i8), (9, .ref a1), (0, .ref v0), (1, .int v1), (7, .ref v7), (8, .ref v8), (17, .int i19)]) hx hb dL_isDraft_585 hl (by decide) rfl (fun ls hl => ?_)
                        exact kc587 (nI 0) _ h (lv_sub hl [0, 11, 12, 13, 14] rfl)
                      · have h := h.1 c84
                        refine lv_aload_n hx hb dL_isDraft_544 rfl (lv_at hl 11 rfl) ?_
                        refine lv_iload_n hx hb dL_isDraft_545 rfl (lv_at hl 12 rfl) ?_
                        refine lv_bipush (v := (nI 6)) hx hb dL_isDraft_546 (by decide) ?_
                        obtain ⟨fs87, e86, h⟩ := h
                        refine cV_ri (As := [.int v1, .int (nI 6)]) (rest := []) (n := 2) C hO (fun L => c_X7_draft l D Y L S20 H.size v0 v1 (nI 6) _ h) 5 rfl e86 (cwV 2 hts gL_isDraft_X7_draft rfl rfl rfl ⟨rfl, hdS_X7_draft⟩ ⟨Nat.le_of_ble_eq_true rfl, Nat.le_of_ble_eq_true rfl⟩) rfl hl.1 rfl (Nat.le_of_ble_eq_true rfl) dL_isDraft_548 ⟨(Nat.le_of_ble_eq_true rfl), (Nat.le_of_ble_eq_true rfl)⟩ (fun i85 h => ?_)
                        refine lv_iload hx hb dL_isDraft_551 (lv_at hl 4 rfl) ?_
                        refine lv_icmp_ne (tgt := 584) hx hb dL_isDraft_553 (by decide) (fun c88 => ?_) (fun c88 => ?_)
                        · have h := h.2 c88
                          refine lv_iconst (v := (nI 0)) hx hb dL_isDraft_584 (by decide) ?_
                          refine lv_istore (lv' := [(22, .int (nI 0)), (21, .int i24), (20, .int i22), (19, .int i21), (16, .int i17), (15, .int i18), (14, .int i12), (13, .int i13), (12, .int i7), (11, .int i8), (9, .ref a1), (0, .ref v0), (1, .int v1), (7, .ref v7), (8, .ref v8), (17, .int i19)]) hx hb dL_isDraft_585 hl (by decide) rfl (fun ls hl => ?_)
                          exact kc587 (nI 0) _ h (lv_sub hl [0, 11, 12, 13, 14] rfl)
                        · have h := h.1 c88
                          refine lv_aload_n hx hb dL_isDraft_556 rfl (lv_at hl 11 rfl) ?_
                          refine lv_iload_n hx hb dL_isDraft_557 rfl (lv_at hl 12 rfl) ?_
                          obtain ⟨fs91, e90, h⟩ := h
                          refine cV_ri (As := [.int v1]) (rest := []) (n := 1) C hO (fun L => c_X7_untilHome l D Y L S20 H.size v0 v1 _ h) 5 rfl e90 (cwV 1 hts gL_isDraft_X7_untilHome rfl rfl rfl ⟨rfl, hdS_X7_untilHome⟩ ⟨Nat.le_of_ble_eq_true rfl, Nat.le_of_ble_eq_true rfl⟩) rfl hl.1 rfl (Nat.le_of_ble_eq_true rfl) dL_isDraft_558 ⟨(Nat.le_of_ble_eq_true rfl), (Nat.le_of_ble_eq_true rfl)⟩ (fun i89 h => ?_)
                          refine lv_iload hx hb dL_isDraft_561 (lv_at hl 15 rfl) ?_
                          refine lv_icmp_ne (tgt := 584) hx hb dL_isDraft_563 (by decide) (fun c92 => ?_) (fun c92 => ?_)
                          · have h := h.2 c92
                            refine lv_iconst (v := (nI 0)) hx hb dL_isDraft_584 (by decide) ?_
                            refine lv_istore (lv' := [(22, .int (nI 0)), (21, .int i24), (20, .int i22), (19, .int i21), (16, .int i17), (15, .int i18), (14, .int i12), (13, .int i13), (12, .int i7), (11, .int i8), (9, .ref a1), (0, .ref v0), (1, .int v1), (7, .ref v7), (8, .ref v8), (17, .int i19)]) hx hb dL_isDraft_585 hl (by decide) rfl (fun ls hl => ?_)
                            exact kc587 (nI 0) _ h (lv_sub hl [0, 11, 12, 13, 14] rfl)
                          · have h := h.1 c92
                            refine lv_aload_n hx hb dL_isDraft_566 rfl (lv_at hl 11 rfl) ?_
                            refine lv_iload_n hx hb dL_isDraft_567 rfl (lv_at hl 12 rfl) ?_
                            refine lv_iload hx hb dL_isDraft_568 (lv_at hl 3 rfl) ?_
                            refine lv_iload hx hb dL_isDraft_570 (lv_at hl 2 rfl) ?_
                            obtain ⟨fs95, e94, h⟩ := h
                            refine cV_ri (As := [.int v1, .int i21, .int i22]) (rest := []) (n := 3) C hO (fun L => c_X7_comesTo l D Y L S20 H.size v0 v1 i21 i22 _ h) 5 rfl e94 (cwV 3 hts gL_isDraft_X7_comesTo rfl rfl rfl ⟨rfl, hdS_X7_comesTo⟩ ⟨Nat.le_of_ble_eq_true rfl, Nat.le_of_ble_eq_true rfl⟩) rfl hl.1 rfl (Nat.le_of_ble_eq_true rfl) dL_isDraft_572 ⟨(Nat.le_of_ble_eq_true rfl), (Nat.le_of_ble_eq_true rfl)⟩ (fun i93 h => ?_)
                            refine lv_iload hx hb dL_isDraft_575 (lv_at hl 1 rfl) ?_
                            refine lv_icmp_ne (tgt := 584) hx hb dL_isDraft_577 (by decide) (fun c96 => ?_) (fun c96 => ?_)
                            · have h := h.2 c96
                              refine lv_iconst (v := (nI 0)) hx hb dL_isDraft_584 (by decide) ?_
                              refine lv_istore (lv' := [(22, .int (nI 0)), (21, .int i24), (20, .int i22), (19, .int i21), (16, .int i17), (15, .int i18), (14, .int i12), (13, .int i13), (12, .int i7), (11, .int i8), (9, .ref a1), (0, .ref v0), (1, .int v1), (7, .ref v7), (8, .ref v8), (17, .int i19)]) hx hb dL_isDraft_585 hl (by decide) rfl (fun ls hl => ?_)
                              exact kc587 (nI 0) _ h (lv_sub hl [0, 11, 12, 13, 14] rfl)
                            · have h := h.1 c96
                              refine lv_iconst (v := (nI 1)) hx hb dL_isDraft_580 (by decide) ?_
                              refine lv_goto (tgt := 585) hx hb dL_isDraft_581 (by decide) ?_
                              refine lv_istore (lv' := [(22, .int (nI 1)), (21, .int i24), (20, .int i22), (19, .int i21), (16, .int i17), (15, .int i18), (14, .int i12), (13, .int i13), (12, .int i7), (11, .int i8), (9, .ref a1), (0, .ref v0), (1, .int v1), (7, .ref v7), (8, .ref v8), (17, .int i19)]) hx hb dL_isDraft_585 hl (by decide) rfl (fun ls hl => ?_)
                              exact kc587 (nI 1) _ h (lv_sub hl [0, 11, 12, 13, 14] rfl)
          · have h := h.2 c26
            refine lv_aload hx hb dL_isDraft_463 (lv_at hl 10 rfl) ?_
            refine lv_iload hx hb dL_isDraft_465 (lv_at hl 1 rfl) ?_
            obtain ⟨n97, f98, i100, e99, e99', exi100, h⟩ := h
            refine r_iald C hO e99 e99' dL_isDraft_467 ?_
            rw [exi100]
            refine lv_istore (lv' := [(21, .int i100), (22, .int i23), (20, .int i22), (19, .int i21), (16, .int i17), (15, .int i18), (14, .int i12), (13, .int i13), (12, .int i7), (11, .int i8), (9, .ref a1), (0, .ref v0), (1, .int v1), (7, .ref v7), (8, .ref v8), (17, .int i19)]) hx hb dL_isDraft_468 hl (by decide) rfl (fun ls hl => ?_)
            obtain ⟨i101, ei101⟩ : ∃ y : Int32, y = i23 + (nI 1) := ⟨_, rfl⟩
            have h := h i101 ei101
            refine lv_iinc (v := i101) (lv' := [(22, .int i101), (21, .int i100), (20, .int i22), (19, .int i21), (16, .int i17), (15, .int i18), (14, .int i12), (13, .int i13), (12, .int i7), (11, .int i8), (9, .ref a1), (0, .ref v0), (1, .int v1), (7, .ref v7), (8, .ref v8), (17, .int i19)]) hx hb dL_isDraft_470 hl (k := 1) rfl (by rw [ei101]; rfl) (by decide) rfl (fun ls hl => ?_)
            refine lv_goto (tgt := 453) hx hb dL_isDraft_473 (by decide) ?_
            exact ih453 (i101, i100) _ h (lv_sub hl [0, 1, 2, 3, 4, 5, 6, 7, 8, 9, 10, 11, 12, 13, 14, 15] rfl)
        refine lv_iconst (v := (nI 1)) hx hb dL_isDraft_263 (by decide) ?_
        refine lv_istore (lv' := [(19, .int (nI 1)), (18, .int (nI 0)), (16, .int (nI 0)), (15, .int (nI 0)), (14, .int i12), (13, .int i13), (12, .int i7), (11, .int i8), (10, .ref a3), (9, .ref a1), (0, .ref v0), (1, .int v1), (2, .int v2), (5, .ref v5), (6, .ref v6), (7, .ref v7), (8, .ref v8), (17, .int i16)]) hx hb dL_isDraft_264 hl (by decide) rfl (fun ls hl => ?_)
        refine lp_WA (nL := 24) 61 1 12 (fun q => [(19, .int q.1), (18, .int q.2.1), (16, .int q.2.2.1), (15, .int q.2.2.2.1), (14, .int i12), (13, .int i13), (12, .int i7), (11, .int i8), (10, .ref a3), (9, .ref a1), (0, .ref v0), (1, .int v1), (2, .int v2), (5, .ref v5), (6, .ref v6), (7, .ref v7), (8, .ref v8), (17, .int q.2.2.2.2.1)]) (fun q => q.2.2.2.2.2) h (lv_sub hl [0, 1, 2, 3, 4, 5, 6, 7, 8, 9, 10, 11, 12, 13, 14, 15, 16, 17] rfl) hO (fun cz266 sz266 hz266 hs266 K266 ih266 q ls H locs h hl hO => ?_)
        obtain ⟨i103, i104, i105, i106, i107, S108⟩ := q
        have h : wpb_L_isDraft_266 v0 v1 v2 v5 v6 v7 v8 a1 a3 i7 i8 i12 i13 Post K266 i103 i104 i105 i106 i107 S108 := h
        have hl : lv_has ls 24 [(19, .int i103), (18, .int i104), (16, .int i105), (15, .int i106), (14, .int i12), (13, .int i13), (12, .int i7), (11, .int i8), (10, .ref a3), (9, .ref a1), (0, .ref v0), (1, .int v1), (2, .int v2), (5, .ref v5), (6, .ref v6), (7, .ref v7), (8, .ref v8), (17, .int i107)] := hl
        have hO : HO D Y (fR L s.heap.size) s.heap S108 H locs := hO
        unfold wpb_L_isDraft_266 at h
        refine lv_iload hx hb dL_isDraft_266 (lv_at hl 0 rfl) ?_
        refine lv_bipush (v := (nI 60)) hx hb dL_isDraft_268 (by decide) ?_
        refine lv_icmp_gt (tgt := 428) hx hb dL_isDraft_270 (by decide) (fun c109 => ?_) (fun c109 => ?_)
        · have h := h.1 c109
          refine W.widen (k := 64) (n := 768) (by omega) (by omega) ?_
          refine W.widen (k := 64) (n := 768) (by omega) (by omega) ?_
          exact kc428 (i105, i106, i107, S108) _ _ _ h (lv_sub hl [2, 3, 4, 5, 6, 7, 9, 10, 11, 12, 15, 16, 17] rfl) hO
        · have h := h.2 c109
          refine lv_iload hx hb dL_isDraft_273 (lv_at hl 1 rfl) ?_
          refine lv_if_ne (tgt := 428) hx hb dL_isDraft_275 (by decide) (fun c110 => ?_) (fun c110 => ?_)
          · have h := h.2 c110
            refine W.widen (k := 64) (n := 768) (by omega) (by omega) ?_
            refine W.widen (k := 64) (n := 768) (by omega) (by omega) ?_
            exact kc428 (i105, i106, i107, S108) _ _ _ h (lv_sub hl [2, 3, 4, 5, 6, 7, 9, 10, 11, 12, 15, 16, 17] rfl) hO
          · have h := h.1 c110
            refine lv_aload hx hb dL_isDraft_278 (lv_at hl 9 rfl) ?_
            refine lv_aload hx hb dL_isDraft_280 (lv_at hl 8 rfl) ?_
            refine cS_wv (As := [.ref a1, .ref a3]) (rest := []) (n := 2) C hO (fun L => c_L_weaves l D Y L S108 H.size a1 a3 _ h) (va_cwS 2 hts gL_isDraft_L_weaves rfl rfl rfl hdS_L_weaves ⟨Nat.le_of_ble_eq_true rfl, Nat.le_of_ble_eq_true rfl⟩) rfl hl.1 rfl (Nat.le_of_ble_eq_true rfl) dL_isDraft_282 ⟨(show cz266 + 0 + 1 ≤ 64 by omega), (show sz266 + 0 + 12 ≤ 768 by omega)⟩ (fun S111 H locs h hO => ?_)
            refine lv_iconst (v := (nI 1)) hx hb dL_isDraft_285 (by decide) ?_
            refine lv_istore (lv' := [(18, .int (nI 1)), (19, .int i103), (16, .int i105), (15, .int i106), (14, .int i12), (13, .int i13), (12, .int i7), (11, .int i8), (10, .ref a3), (9, .ref a1), (0, .ref v0), (1, .int v1), (2, .int v2), (5, .ref v5), (6, .ref v6), (7, .ref v7), (8, .ref v8), (17, .int i107)]) hx hb dL_isDraft_286 hl (by decide) rfl (fun ls hl => ?_)
            refine lv_iconst (v := (nI 1)) hx hb dL_isDraft_288 (by decide) ?_
            refine lv_istore (lv' := [(20, .int (nI 1)), (18, .int (nI 1)), (19, .int i103), (16, .int i105), (15, .int i106), (14, .int i12), (13, .int i13), (12, .int i7), (11, .int i8), (10, .ref a3), (9, .ref a1), (0, .ref v0), (1, .int v1), (2, .int v2), (5, .ref v5), (6, .ref v6), (7, .ref v7), (8, .ref v8), (17, .int i107)]) hx hb dL_isDraft_289 hl (by decide) rfl (fun ls hl => ?_)
            refine lv_iconst (v := (nI 0)) hx hb dL_isDraft_291 (by decide) ?_
            refine lv_istore (lv' := [(21, .int (nI 0)), (20, .int (nI 1)), (18, .int (nI 1)), (19, .int i103), (16, .int i105), (15, .int i106), (14, .int i12), (13, .int i13), (12, .int i7), (11, .int i8), (10, .ref a3), (9, .ref a1), (0, .ref v0), (1, .int v1), (2, .int v2), (5, .ref v5), (6, .ref v6), (7, .ref v7), (8, .ref v8), (17, .int i107)]) hx hb dL_isDraft_292 hl (by decide) rfl (fun ls hl => ?_)
            obtain ⟨n157, h⟩ := h
            refine lp_P (nL := 24) (fun q => [(21, .int q.1), (20, .int q.2.1), (18, .int q.2.2), (19, .int i103), (16, .int i105), (15, .int i106), (14, .int i12), (13, .int i13), (12, .int i7), (11, .int i8), (10, .ref a3), (9, .ref a1), (0, .ref v0), (1, .int v1), (2, .int v2), (5, .ref v5), (6, .ref v6), (7, .ref v7), (8, .ref v8), (17, .int i107)]) h (lv_sub hl [0, 1, 2, 3, 4, 5, 6, 7, 8, 9, 10, 11, 12, 13, 14, 15, 16, 17, 18, 19] rfl) (fun K294 ih294 q ls h hl => ?_)
            obtain ⟨i112, i113, i114⟩ := q
            have h : wpb_L_isDraft_294 v5 v6 a3 i103 i105 i106 i107 S111 K266 K294 i112 i113 i114 := h
            have hl : lv_has ls 24 [(21, .int i112), (20, .int i113), (18, .int i114), (19, .int i103), (16, .int i105), (15, .int i106), (14, .int i12), (13, .int i13), (12, .int i7), (11, .int i8), (10, .ref a3), (9, .ref a1), (0, .ref v0), (1, .int v1), (2, .int v2), (5, .ref v5), (6, .ref v6), (7, .ref v7), (8, .ref v8), (17, .int i107)] := hl
            unfold wpb_L_isDraft_294 at h
            refine lv_iload hx hb dL_isDraft_294 (lv_at hl 0 rfl) ?_
            refine lv_bipush (v := (nI 12)) hx hb dL_isDraft_296 (by decide) ?_
            refine lv_icmp_ge (tgt := 363) hx hb dL_isDraft_298 (by decide) (fun c115 => ?_) (fun c115 => ?_)
            · have h := h.1 c115
              refine lv_iload hx hb dL_isDraft_363 (lv_at hl 2 rfl) ?_
              refine cut_P (nL := 24) (fun (q : Int32) => wpk_L_isDraft_377 a3 i103 i105 i107 S111 i113 i114 K266 q) (fun q => [(20, .int i113), (18, .int i114), (19, .int i103), (16, .int i105), (15, .int q), (14, .int i12), (13, .int i13), (12, .int i7), (11, .int i8), (10, .ref a3), (9, .ref a1), (0, .ref v0), (1, .int v1), (2, .int v2), (5, .ref v5), (6, .ref v6), (7, .ref v7), (8, .ref v8), (17, .int i107)]) 377 ?_ (fun kc377 => ?_)
              · intro q ls h hl
                obtain ⟨i116, rfl⟩ : ∃ z, z = q := ⟨q, rfl⟩
                have h : wpk_L_isDraft_377 a3 i103 i105 i107 S111 i113 i114 K266 i116 := h
                have hl : lv_has ls 24 [(20, .int i113), (18, .int i114), (19, .int i103), (16, .int i105), (15, .int i116), (14, .int i12), (13, .int i13), (12, .int i7), (11, .int i8), (10, .ref a3), (9, .ref a1), (0, .ref v0), (1, .int v1), (2, .int v2), (5, .ref v5), (6, .ref v6), (7, .ref v7), (8, .ref v8), (17, .int i107)] := hl
                unfold wpk_L_isDraft_377 at h
                refine lv_iload hx hb dL_isDraft_377 (lv_at hl 0 rfl) ?_
                refine cut_P (nL := 24) (fun (q : Int32) => wpk_L_isDraft_396 a3 i103 i107 S111 i114 i116 K266 q) (fun q => [(18, .int i114), (19, .int i103), (16, .int q), (15, .int i116), (14, .int i12), (13, .int i13), (12, .int i7), (11, .int i8), (10, .ref a3), (9, .ref a1), (0, .ref v0), (1, .int v1), (2, .int v2), (5, .ref v5), (6, .ref v6), (7, .ref v7), (8, .ref v8), (17, .int i107)]) 396 ?_ (fun kc396 => ?_)
                · intro q ls h hl
                  obtain ⟨i117, rfl⟩ : ∃ z, z = q := ⟨q, rfl⟩
                  have h : wpk_L_isDraft_396 a3 i103 i107 S111 i114 i116 K266 i117 := h
                  have hl : lv_has ls 24 [(18, .int i114), (19, .int i103), (16, .int i117), (15, .int i116), (14, .int i12), (13, .int i13), (12, .int i7), (11, .int i8), (10, .ref a3), (9, .ref a1), (0, .ref v0), (1, .int v1), (2, .int v2), (5, .ref v5), (6, .ref v6), (7, .ref v7), (8, .ref v8), (17, .int i107)] := hl
                  unfold wpk_L_isDraft_396 at h
                  refine lv_iload hx hb dL_isDraft_396 (lv_at hl 17 rfl) ?_
                  refine lv_bipush (v := (-6 : Int32)) hx hb dL_isDraft_398 (by decide) ?_
                  refine cut_P (nL := 24) (fun (q : Int32) => wpk_L_isDraft_422 i103 S111 i114 i116 i117 K266 q) (fun q => [(18, .int i114), (19, .int i103), (16, .int i117), (15, .int i116), (14, .int i12), (13, .int i13), (12, .int i7), (11, .int i8), (10, .ref a3), (9, .ref a1), (0, .ref v0), (1, .int v1), (2, .int v2), (5, .ref v5), (6, .ref v6), (7, .ref v7), (8, .ref v8), (17, .int q)]) 422 ?_ (fun kc422 => ?_)
                  · intro q ls h hl
                    obtain ⟨i118, rfl⟩ : ∃ z, z = q := ⟨q, rfl⟩
                    have h : wpk_L_isDraft_422 i103 S111 i114 i116 i117 K266 i118 := h
                    have hl : lv_has ls 24 [(18, .int i114), (19, .int i103), (16, .int i117), (15, .int i116), (14, .int i12), (13, .int i13), (12, .int i7), (11, .int i8), (10, .ref a3), (9, .ref a1), (0, .ref v0), (1, .int v1), (2, .int v2), (5, .ref v5), (6, .ref v6), (7, .ref v7), (8, .ref v8), (17, .int i118)] := hl
                    unfold wpk_L_isDraft_422 at h
                    obtain ⟨i119, ei119⟩ : ∃ y : Int32, y = i103 + (nI 1) := ⟨_, rfl⟩
                    have h := h i119 ei119
                    refine lv_iinc (v := i119) (lv' := [(19, .int i119), (18, .int i114), (16, .int i117), (15, .int i116), (14, .int i12), (13, .int i13), (12, .int i7), (11, .int i8), (10, .ref a3), (9, .ref a1), (0, .ref v0), (1, .int v1), (2, .int v2), (5, .ref v5), (6, .ref v6), (7, .ref v7), (8, .ref v8), (17, .int i118)]) hx hb dL_isDraft_422 hl (k := 1) rfl (by rw [ei119]; rfl) (by decide) rfl (fun ls hl => ?_)
                    refine lv_goto (tgt := 266) hx hb dL_isDraft_425 (by decide) ?_
                    refine W.widen (k := cz266 + 1) (n := sz266 + 12) (by omega) (by omega) ?_
                    exact ih266 (i119, i114, i117, i116, i118, S111) _ _ _ h (lv_sub hl [0, 1, 2, 3, 4, 5, 6, 7, 8, 9, 10, 11, 12, 13, 14, 15, 16, 17] rfl) hO
                  refine lv_icmp_ne (tgt := 418) hx hb dL_isDraft_400 (by decide) (fun c120 => ?_) (fun c120 => ?_)
                  · have h := h.2 c120
                    refine lv_iload hx hb dL_isDraft_418 (lv_at hl 17 rfl) ?_
                    refine lv_istore (lv' := [(17, .int i107), (18, .int i114), (19, .int i103), (16, .int i117), (15, .int i116), (14, .int i12), (13, .int i13), (12, .int i7), (11, .int i8), (10, .ref a3), (9, .ref a1), (0, .ref v0), (1, .int v1), (2, .int v2), (5, .ref v5), (6, .ref v6), (7, .ref v7), (8, .ref v8)]) hx hb dL_isDraft_420 hl (by decide) rfl (fun ls hl => ?_)
                    exact kc422 i107 _ h (lv_sub hl [1, 2, 3, 4, 5, 6, 7, 8, 9, 10, 11, 12, 13, 14, 15, 16, 17, 0] rfl)
                  · have h := h.1 c120
                    refine lv_aload hx hb dL_isDraft_403 (lv_at hl 8 rfl) ?_
                    refine cS_ri (As := [.ref a3]) (rest := []) (n := 1) C hO (fun L => c_L_home l D Y L S111 H.size a3 _ h) (va_cwS 1 hts gL_isDraft_L_home rfl rfl rfl hdS_L_home ⟨Nat.le_of_ble_eq_true rfl, Nat.le_of_ble_eq_true rfl⟩) rfl hl.1 rfl (Nat.le_of_ble_eq_true rfl) dL_isDraft_405 ⟨(show cz266 + 1 + 0 ≤ 64 by omega), (show sz266 + 12 + 0 ≤ 768 by omega)⟩ (fun i121 h => ?_)
                    refine lv_bipush (v := (nI 12)) hx hb dL_isDraft_408 (by decide) ?_
                    refine lv_icmp_ne (tgt := 418) hx hb dL_isDraft_410 (by decide) (fun c122 => ?_) (fun c122 => ?_)
                    · have h := h.2 c122
                      refine lv_iload hx hb dL_isDraft_418 (lv_at hl 17 rfl) ?_
                      refine lv_istore (lv' := [(17, .int i107), (18, .int i114), (19, .int i103), (16, .int i117), (15, .int i116), (14, .int i12), (13, .int i13), (12, .int i7), (11, .int i8), (10, .ref a3), (9, .ref a1), (0, .ref v0), (1, .int v1), (2, .int v2), (5, .ref v5), (6, .ref v6), (7, .ref v7), (8, .ref v8)]) hx hb dL_isDraft_420 hl (by decide) rfl (fun ls hl => ?_)
                      exact kc422 i107 _ h (lv_sub hl [1, 2, 3, 4, 5, 6, 7, 8, 9, 10, 11, 12, 13, 14, 15, 16, 17, 0] rfl)
                    · have h := h.1 c122
                      refine lv_iload hx hb dL_isDraft_413 (lv_at hl 1 rfl) ?_
                      refine lv_goto (tgt := 420) hx hb dL_isDraft_415 (by decide) ?_
                      refine lv_istore (lv' := [(17, .int i103), (18, .int i114), (19, .int i103), (16, .int i117), (15, .int i116), (14, .int i12), (13, .int i13), (12, .int i7), (11, .int i8), (10, .ref a3), (9, .ref a1), (0, .ref v0), (1, .int v1), (2, .int v2), (5, .ref v5), (6, .ref v6), (7, .ref v7), (8, .ref v8)]) hx hb dL_isDraft_420 hl (by decide) rfl (fun ls hl => ?_)
                      exact kc422 i103 _ h (lv_sub hl [1, 2, 3, 4, 5, 6, 7, 8, 9, 10, 11, 12, 13, 14, 15, 16, 17, 0] rfl)
                refine lv_if_eq (tgt := 392) hx hb dL_isDraft_379 (by decide) (fun c123 => ?_) (fun c123 => ?_)
                · have h := h.1 c123
                  refine lv_iload hx hb dL_isDraft_392 (lv_at hl 3 rfl) ?_
                  refine lv_istore (lv' := [(16, .int i105), (20, .int i113), (18, .int i114), (19, .int i103), (15, .int i116), (14, .int i12), (13, .int i13), (12, .int i7), (11, .int i8), (10, .ref a3), (9, .ref a1), (0, .ref v0), (1, .int v1), (2, .int v2), (5, .ref v5), (6, .ref v6), (7, .ref v7), (8, .ref v8), (17, .int i107)]) hx hb dL_isDraft_394 hl (by decide) rfl (fun ls hl => ?_)
                  exact kc396 i105 _ h (lv_sub hl [2, 3, 0, 4, 5, 6, 7, 8, 9, 10, 11, 12, 13, 14, 15, 16, 17, 18] rfl)
                · have h := h.2 c123
                  refine lv_iload hx hb dL_isDraft_382 (lv_at hl 3 rfl) ?_
                  refine lv_if_ne (tgt := 392) hx hb dL_isDraft_384 (by decide) (fun c124 => ?_) (fun c124 => ?_)
                  · have h := h.2 c124
                    refine lv_iload hx hb dL_isDraft_392 (lv_at hl 3 rfl) ?_
                    refine lv_istore (lv' := [(16, .int i105), (20, .int i113), (18, .int i114), (19, .int i103), (15, .int i116), (14, .int i12), (13, .int i13), (12, .int i7), (11, .int i8), (10, .ref a3), (9, .ref a1), (0, .ref v0), (1, .int v1), (2, .int v2), (5, .ref v5), (6, .ref v6), (7, .ref v7), (8, .ref v8), (17, .int i107)]) hx hb dL_isDraft_394 hl (by decide) rfl (fun ls hl => ?_)
                    exact kc396 i105 _ h (lv_sub hl [2, 3, 0, 4, 5, 6, 7, 8, 9, 10, 11, 12, 13, 14, 15, 16, 17, 18] rfl)
                  · have h := h.1 c124
                    refine lv_iload hx hb dL_isDraft_387 (lv_at hl 2 rfl) ?_
                    refine lv_goto (tgt := 394) hx hb dL_isDraft_389 (by decide) ?_
                    refine lv_istore (lv' := [(16, .int i103), (20, .int i113), (18, .int i114), (19, .int i103), (15, .int i116), (14, .int i12), (13, .int i13), (12, .int i7), (11, .int i8), (10, .ref a3), (9, .ref a1), (0, .ref v0), (1, .int v1), (2, .int v2), (5, .ref v5), (6, .ref v6), (7, .ref v7), (8, .ref v8), (17, .int i107)]) hx hb dL_isDraft_394 hl (by decide) rfl (fun ls hl => ?_)
                    exact kc396 i103 _ h (lv_sub hl [2, 3, 0, 4, 5, 6, 7, 8, 9, 10, 11, 12, 13, 14, 15, 16, 17, 18] rfl)
              refine lv_if_eq (tgt := 373) hx hb dL_isDraft_365 (by decide) (fun c125 => ?_) (fun c125 => ?_)
              · have h := h.1 c125
                refine lv_iload hx hb dL_isDraft_373 (lv_at hl 5 rfl) ?_
                refine lv_istore (lv' := [(15, .int i106), (21, .int i112), (20, .int i113), (18, .int i114), (19, .int i103), (16, .int i105), (14, .int i12), (13, .int i13), (12, .int i7), (11, .int i8), (10, .ref a3), (9, .ref a1), (0, .ref v0), (1, .int v1), (2, .int v2), (5, .ref v5), (6, .ref v6), (7, .ref v7), (8, .ref v8), (17, .int i107)]) hx hb dL_isDraft_375 hl (by decide) rfl (fun ls hl => ?_)
                exact kc377 i106 _ h (lv_sub hl [2, 3, 4, 5, 0, 6, 7, 8, 9, 10, 11, 12, 13, 14, 15, 16, 17, 18, 19] rfl)
              · have h := h.2 c125
                refine lv_iload hx hb dL_isDraft_368 (lv_at hl 3 rfl) ?_
                refine lv_goto (tgt := 375) hx hb dL_isDraft_370 (by decide) ?_
                refine lv_istore (lv' := [(15, .int i103), (21, .int i112), (20, .int i113), (18, .int i114), (19, .int i103), (16, .int i105), (14, .int i12), (13, .int i13), (12, .int i7), (11, .int i8), (10, .ref a3), (9, .ref a1), (0, .ref v0), (1, .int v1), (2, .int v2), (5, .ref v5), (6, .ref v6), (7, .ref v7), (8, .ref v8), (17, .int i107)]) hx hb dL_isDraft_375 hl (by decide) rfl (fun ls hl => ?_)
                exact kc377 i103 _ h (lv_sub hl [2, 3, 4, 5, 0, 6, 7, 8, 9, 10, 11, 12, 13, 14, 15, 16, 17, 18, 19] rfl)
            · have h := h.2 c115
              refine lv_iload hx hb dL_isDraft_301 (lv_at hl 2 rfl) ?_
              refine cut_P (nL := 24) (fun (q : Int32) => wpk_L_isDraft_326 v5 v6 a3 S111 i112 i113 K294 q) (fun q => [(21, .int i112), (20, .int i113), (18, .int q), (19, .int i103), (16, .int i105), (15, .int i106), (14, .int i12), (13, .int i13), (12, .int i7), (11, .int i8), (10, .ref a3), (9, .ref a1), (0, .ref v0), (1, .int v1), (2, .int v2), (5, .ref v5), (6, .ref v6), (7, .ref v7), (8, .ref v8), (17, .int i107)]) 326 ?_ (fun kc326 => ?_)
              · intro q ls h hl
                obtain ⟨i126, rfl⟩ : ∃ z, z = q := ⟨q, rfl⟩
                have h : wpk_L_isDraft_326 v5 v6 a3 S111 i112 i113 K294 i126 := h
                have hl : lv_has ls 24 [(21, .int i112), (20, .int i113), (18, .int i126), (19, .int i103), (16, .int i105), (15, .int i106), (14, .int i12), (13, .int i13), (12, .int i7), (11, .int i8), (10, .ref a3), (9, .ref a1), (0, .ref v0), (1, .int v1), (2, .int v2), (5, .ref v5), (6, .ref v6), (7, .ref v7), (8, .ref v8), (17, .int i107)] := hl
                unfold wpk_L_isDraft_326 at h
                refine lv_iload hx hb dL_isDraft_326 (lv_at hl 1 rfl) ?_
                refine cut_P (nL := 24) (fun (q : Int32) => wpk_L_isDraft_357 i112 i126 K294 q) (fun q => [(21, .int i112), (20, .int q), (18, .int i126), (19, .int i103), (16, .int i105), (15, .int i106), (14, .int i12), (13, .int i13), (12, .int i7), (11, .int i8), (10, .ref a3), (9, .ref a1), (0, .ref v0), (1, .int v1), (2, .int v2), (5, .ref v5), (6, .ref v6), (7, .ref v7), (8, .ref v8), (17, .int i107)]) 357 ?_ (fun kc357 => ?_)
                · intro q ls h hl
                  obtain ⟨i127, rfl⟩ : ∃ z, z = q := ⟨q, rfl⟩
                  have h : wpk_L_isDraft_357 i112 i126 K294 i127 := h
                  have hl : lv_has ls 24 [(21, .int i112), (20, .int i127), (18, .int i126), (19, .int i103), (16, .int i105), (15, .int i106), (14, .int i12), (13, .int i13), (12, .int i7), (11, .int i8), (10, .ref a3), (9, .ref a1), (0, .ref v0), (1, .int v1), (2, .int v2), (5, .ref v5), (6, .ref v6), (7, .ref v7), (8, .ref v8), (17, .int i107)] := hl
                  unfold wpk_L_isDraft_357 at h
                  obtain ⟨i128, ei128⟩ : ∃ y : Int32, y = i112 + (nI 1) := ⟨_, rfl⟩
                  have h := h i128 ei128
                  refine lv_iinc (v := i128) (lv' := [(21, .int i128), (20, .int i127), (18, .int i126), (19, .int i103), (16, .int i105), (15, .int i106), (14, .int i12), (13, .int i13), (12, .int i7), (11, .int i8), (10, .ref a3), (9, .ref a1), (0, .ref v0), (1, .int v1), (2, .int v2), (5, .ref v5), (6, .ref v6), (7, .ref v7), (8, .ref v8), (17, .int i107)]) hx hb dL_isDraft_357 hl (k := 0) rfl (by rw [ei128]; rfl) (by decide) rfl (fun ls hl => ?_)
                  refine lv_goto (tgt := 294) hx hb dL_isDraft_360 (by decide) ?_
                  exact ih294 (i128, i127, i126) _ h (lv_sub hl [0, 1, 2, 3, 4, 5, 6, 7, 8, 9, 10, 11, 12, 13, 14, 15, 16, 17, 18, 19] rfl)
                refine lv_if_eq (tgt := 354) hx hb dL_isDraft_328 (by decide) (fun c129 => ?_) (fun c129 => ?_)
                · have h := h.1 c129
                  refine lv_iconst (v := (nI 0)) hx hb dL_isDraft_354 (by decide) ?_
                  refine lv_istore (lv' := [(20, .int (nI 0)), (21, .int i112), (18, .int i126), (19, .int i103), (16, .int i105), (15, .int i106), (14, .int i12), (13, .int i13), (12, .int i7), (11, .int i8), (10, .ref a3), (9, .ref a1), (0, .ref v0), (1, .int v1), (2, .int v2), (5, .ref v5), (6, .ref v6), (7, .ref v7), (8, .ref v8), (17, .int i107)]) hx hb dL_isDraft_355 hl (by decide) rfl (fun ls hl => ?_)
                  exact kc357 (nI 0) _ h (lv_sub hl [1, 0, 2, 3, 4, 5, 6, 7, 8, 9, 10, 11, 12, 13, 14, 15, 16, 17, 18, 19] rfl)
                · have h := h.2 c129
                  refine lv_aload hx hb dL_isDraft_331 (lv_at hl 16 rfl) ?_
                  refine lv_aload hx hb dL_isDraft_333 (lv_at hl 10 rfl) ?_
                  refine lv_iload hx hb dL_isDraft_335 (lv_at hl 0 rfl) ?_
                  obtain ⟨n130, f131, i133, e132, e132', exi133, h⟩ := h
                  refine r_iald C hO e132 e132' dL_isDraft_337 ?_
                  rw [exi133]
                  obtain ⟨n134, f135, i137, e136, e136', exi137, h⟩ := h
                  refine r_iald C hO e136 e136' dL_isDraft_338 ?_
                  rw [exi137]
                  refine lv_aload hx hb dL_isDraft_339 (lv_at hl 16 rfl) ?_
                  refine lv_aload hx hb dL_isDraft_341 (lv_at hl 15 rfl) ?_
                  refine lv_iload hx hb dL_isDraft_343 (lv_at hl 0 rfl) ?_
                  obtain ⟨n138, f139, i141, e140, e140', exi141, h⟩ := h
                  refine r_iald C hO e140 e140' dL_isDraft_345 ?_
                  rw [exi141]
                  obtain ⟨n142, f143, i145, e144, e144', exi145, h⟩ := h
                  refine r_iald C hO e144 e144' dL_isDraft_346 ?_
                  rw [exi145]
                  refine lv_icmp_ne (tgt := 354) hx hb dL_isDraft_347 (by decide) (fun c146 => ?_) (fun c146 => ?_)
                  · have h := h.2 c146
                    refine lv_iconst (v := (nI 0)) hx hb dL_isDraft_354 (by decide) ?_
                    refine lv_istore (lv' := [(20, .int (nI 0)), (21, .int i112), (18, .int i126), (19, .int i103), (16, .int i105), (15, .int i106), (14, .int i12), (13, .int i13), (12, .int i7), (11, .int i8), (10, .ref a3), (9, .ref a1), (0, .ref v0), (1, .int v1), (2, .int v2), (5, .ref v5), (6, .ref v6), (7, .ref v7), (8, .ref v8), (17, .int i107)]) hx hb dL_isDraft_355 hl (by decide) rfl (fun ls hl => ?_)
                    exact kc357 (nI 0) _ h (lv_sub hl [1, 0, 2, 3, 4, 5, 6, 7, 8, 9, 10, 11, 12, 13, 14, 15, 16, 17, 18, 19] rfl)
                  · have h := h.1 c146
                    refine lv_iconst (v := (nI 1)) hx hb dL_isDraft_350 (by decide) ?_
                    refine lv_goto (tgt := 355) hx hb dL_isDraft_351 (by decide) ?_
                    refine lv_istore (lv' := [(20, .int (nI 1)), (21, .int i112), (18, .int i126), (19, .int i103), (16, .int i105), (15, .int i106), (14, .int i12), (13, .int i13), (12, .int i7), (11, .int i8), (10, .ref a3), (9, .ref a1), (0, .ref v0), (1, .int v1), (2, .int v2), (5, .ref v5), (6, .ref v6), (7, .ref v7), (8, .ref v8), (17, .int i107)]) hx hb dL_isDraft_355 hl (by decide) rfl (fun ls hl => ?_)
                    exact kc357 (nI 1) _ h (lv_sub hl [1, 0, 2, 3, 4, 5, 6, 7, 8, 9, 10, 11, 12, 13, 14, 15, 16, 17, 18, 19] rfl)
              refine lv_if_eq (tgt := 323) hx hb dL_isDraft_303 (by decide) (fun c147 => ?_) (fun c147 => ?_)
              · have h := h.1 c147
                refine lv_iconst (v := (nI 0)) hx hb dL_isDraft_323 (by decide) ?_
                refine lv_istore (lv' := [(18, .int (nI 0)), (21, .int i112), (20, .int i113), (19, .int i103), (16, .int i105), (15, .int i106), (14, .int i12), (13, .int i13), (12, .int i7), (11, .int i8), (10, .ref a3), (9, .ref a1), (0, .ref v0), (1, .int v1), (2, .int v2), (5, .ref v5), (6, .ref v6), (7, .ref v7), (8, .ref v8), (17, .int i107)]) hx hb dL_isDraft_324 hl (by decide) rfl (fun ls hl => ?_)
                exact kc326 (nI 0) _ h (lv_sub hl [1, 2, 0, 3, 4, 5, 6, 7, 8, 9, 10, 11, 12, 13, 14, 15, 16, 17, 18, 19] rfl)
              · have h := h.2 c147
                refine lv_aload hx hb dL_isDraft_306 (lv_at hl 10 rfl) ?_
                refine lv_iload hx hb dL_isDraft_308 (lv_at hl 0 rfl) ?_
                obtain ⟨n148, f149, i151, e150, e150', exi151, h⟩ := h
                refine r_iald C hO e150 e150' dL_isDraft_310 ?_
                rw [exi151]
                refine lv_aload hx hb dL_isDraft_311 (lv_at hl 15 rfl) ?_
                refine lv_iload hx hb dL_isDraft_313 (lv_at hl 0 rfl) ?_
                obtain ⟨n152, f153, i155, e154, e154', exi155, h⟩ := h
                refine r_iald C hO e154 e154' dL_isDraft_315 ?_
                rw [exi155]
                refine lv_icmp_ne (tgt := 323) hx hb dL_isDraft_316 (by decide) (fun c156 => ?_) (fun c156 => ?_)
                · have h := h.2 c156
                  refine lv_iconst (v := (nI 0)) hx hb dL_isDraft_323 (by decide) ?_
                  refine lv_istore (lv' := [(18, .int (nI 0)), (21, .int i112), (20, .int i113), (19, .int i103), (16, .int i105), (15, .int i106), (14, .int i12), (13, .int i13), (12, .int i7), (11, .int i8), (10, .ref a3), (9, .ref a1), (0, .ref v0), (1, .int v1), (2, .int v2), (5, .ref v5), (6, .ref v6), (7, .ref v7), (8, .ref v8), (17, .int i107)]) hx hb dL_isDraft_324 hl (by decide) rfl (fun ls hl => ?_)
                  exact kc326 (nI 0) _ h (lv_sub hl [1, 2, 0, 3, 4, 5, 6, 7, 8, 9, 10, 11, 12, 13, 14, 15, 16, 17, 18, 19] rfl)
                · have h := h.1 c156
                  refine lv_iconst (v := (nI 1)) hx hb dL_isDraft_319 (by decide) ?_
                  refine lv_goto (tgt := 324) hx hb dL_isDraft_320 (by decide) ?_
                  refine lv_istore (lv' := [(18, .int (nI 1)), (21, .int i112), (20, .int i113), (19, .int i103), (16, .int i105), (15, .int i106), (14, .int i12), (13, .int i13), (12, .int i7), (11, .int i8), (10, .ref a3), (9, .ref a1), (0, .ref v0), (1, .int v1), (2, .int v2), (5, .ref v5), (6, .ref v6), (7, .ref v7), (8, .ref v8), (17, .int i107)]) hx hb dL_isDraft_324 hl (by decide) rfl (fun ls hl => ?_)
                  exact kc326 (nI 1) _ h (lv_sub hl [1, 2, 0, 3, 4, 5, 6, 7, 8, 9, 10, 11, 12, 13, 14, 15, 16, 17, 18, 19] rfl)
      refine lv_icmp_ne (tgt := 256) hx hb dL_isDraft_249 (by decide) (fun c159 => ?_) (fun c159 => ?_)
      · have h := h.2 c159
        refine lv_bipush (v := (-6 : Int32)) hx hb dL_isDraft_256 (by decide) ?_
        refine lv_istore (lv' := [(17, .int (-6 : Int32)), (16, .int (nI 0)), (15, .int (nI 0)), (14, .int i12), (13, .int i13), (12, .int i7), (11, .int i8), (10, .ref a3), (9, .ref a1), (0, .ref v0), (1, .int v1), (2, .int v2), (5, .ref v5), (6, .ref v6), (7, .ref v7), (8, .ref v8)]) hx hb dL_isDraft_258 hl (by decide) rfl (fun ls hl => ?_)
        exact kc260 (-6 : Int32) _ h (lv_sub hl [1, 2, 3, 4, 5, 6, 7, 8, 9, 10, 11, 12, 13, 14, 15, 0] rfl)
      · have h := h.1 c159
        refine lv_iconst (v := (nI 0)) hx hb dL_isDraft_252 (by decide) ?_
        refine lv_goto (tgt := 258) hx hb dL_isDraft_253 (by decide) ?_
        refine lv_istore (lv' := [(17, .int (nI 0)), (16, .int (nI 0)), (15, .int (nI 0)), (14, .int i12), (13, .int i13), (12, .int i7), (11, .int i8), (10, .ref a3), (9, .ref a1), (0, .ref v0), (1, .int v1), (2, .int v2), (5, .ref v5), (6, .ref v6), (7, .ref v7), (8, .ref v8)]) hx hb dL_isDraft_258 hl (by decide) rfl (fun ls hl => ?_)
        exact kc260 (nI 0) _ h (lv_sub hl [1, 2, 3, 4, 5, 6, 7, 8, 9, 10, 11, 12, 13, 14, 15, 0] rfl)
    · have h := h.2 c14
      refine lv_iconst (v := (nI 1)) hx hb dL_isDraft_135 (by decide) ?_
      refine lv_istore (lv' := [(16, .int (nI 1)), (15, .int i11), (14, .int i12), (13, .int i13), (12, .int i7), (11, .int i8), (10, .ref a3), (9, .ref a1), (0, .ref v0), (1, .int v1), (2, .int v2), (5, .ref v5), (6, .ref v6), (7, .ref v7), (8, .ref v8)]) hx hb dL_isDraft_136 hl (by decide) rfl (fun ls hl => ?_)
      refine lv_iconst (v := (nI 1)) hx hb dL_isDraft_138 (by decide) ?_
      refine lv_istore (lv' := [(17, .int (nI 1)), (16, .int (nI 1)), (15, .int i11), (14, .int i12), (13, .int i13), (12, .int i7), (11, .int i8), (10, .ref a3), (9, .ref a1), (0, .ref v0), (1, .int v1), (2, .int v2), (5, .ref v5), (6, .ref v6), (7, .ref v7), (8, .ref v8)]) hx hb dL_isDraft_139 hl (by decide) rfl (fun ls hl => ?_)
      refine lv_aload hx hb dL_isDraft_141 (lv_at hl 8 rfl) ?_
      refine lv_iload hx hb dL_isDraft_143 (lv_at hl 2 rfl) ?_
      obtain ⟨n160, f161, i163, e162, e162', exi163, h⟩ := h
      refine r_iald C hO e162 e162' dL_isDraft_145 ?_
      rw [exi163]
      refine lv_istore (lv' := [(18, .int i163), (17, .int (nI 1)), (16, .int (nI 1)), (15, .int i11), (14, .int i12), (13, .int i13), (12, .int i7), (11, .int i8), (10, .ref a3), (9, .ref a1), (0, .ref v0), (1, .int v1), (2, .int v2), (5, .ref v5), (6, .ref v6), (7, .ref v7), (8, .ref v8)]) hx hb dL_isDraft_146 hl (by decide) rfl (fun ls hl => ?_)
      obtain ⟨n186, h⟩ := h
      refine lp_P (nL := 24) (fun q => [(18, .int q.1), (17, .int q.2.1), (16, .int q.2.2), (15, .int i11), (14, .int i12), (13, .int i13), (12, .int i7), (11, .int i8), (10, .ref a3), (9, .ref a1), (0, .ref v0), (1, .int v1), (2, .int v2), (5, .ref v5), (6, .ref v6), (7, .ref v7), (8, .ref v8)]) h (lv_sub hl [0, 1, 2, 3, 4, 5, 6, 7, 8, 9, 10, 11, 12, 13, 14, 15, 16] rfl) (fun K148 ih148 q ls h hl => ?_)
      obtain ⟨i164, i165, i166⟩ := q
      have h : wpb_L_isDraft_148 a1 S9 i11 i12 i13 K128 K148 i164 i165 i166 := h
      have hl : lv_has ls 24 [(18, .int i164), (17, .int i165), (16, .int i166), (15, .int i11), (14, .int i12), (13, .int i13), (12, .int i7), (11, .int i8), (10, .ref a3), (9, .ref a1), (0, .ref v0), (1, .int v1), (2, .int v2), (5, .ref v5), (6, .ref v6), (7, .ref v7), (8, .ref v8)] := hl
      unfold wpb_L_isDraft_148 at h
      refine lv_iload hx hb dL_isDraft_148 (lv_at hl 0 rfl) ?_
      refine lv_iload hx hb dL_isDraft_150 (lv_at hl 3 rfl) ?_
      refine lv_icmp_eq (tgt := 187) hx hb dL_isDraft_152 (by decide) (fun c167 => ?_) (fun c167 => ?_)
      · have h := h.1 c167
        refine lv_iload hx hb dL_isDraft_187 (lv_at hl 5 rfl) ?_
        refine lv_iload hx hb dL_isDraft_189 (lv_at hl 1 rfl) ?_
        refine cut_P (nL := 24) (fun (q : Int32) => wpk_L_isDraft_208 i11 i12 i166 K128 q) (fun q => [(16, .int i166), (15, .int i11), (14, .int i12), (13, .int q), (12, .int i7), (11, .int i8), (10, .ref a3), (9, .ref a1), (0, .ref v0), (1, .int v1), (2, .int v2), (5, .ref v5), (6, .ref v6), (7, .ref v7), (8, .ref v8)]) 208 ?_ (fun kc208 => ?_)
        · intro q ls h hl
          obtain ⟨i168, rfl⟩ : ∃ z, z = q := ⟨q, rfl⟩
          have h : wpk_L_isDraft_208 i11 i12 i166 K128 i168 := h
          have hl : lv_has ls 24 [(16, .int i166), (15, .int i11), (14, .int i12), (13, .int i168), (12, .int i7), (11, .int i8), (10, .ref a3), (9, .ref a1), (0, .ref v0), (1, .int v1), (2, .int v2), (5, .ref v5), (6, .ref v6), (7, .ref v7), (8, .ref v8)] := hl
          unfold wpk_L_isDraft_208 at h
          refine lv_iload hx hb dL_isDraft_208 (lv_at hl 0 rfl) ?_
          refine lv_iconst (v := (nI 1)) hx hb dL_isDraft_210 (by decide) ?_
          refine cut_P (nL := 24) (fun (q : Int32) => wpk_L_isDraft_230 i11 i168 K128 q) (fun q => [(15, .int i11), (14, .int q), (13, .int i168), (12, .int i7), (11, .int i8), (10, .ref a3), (9, .ref a1), (0, .ref v0), (1, .int v1), (2, .int v2), (5, .ref v5), (6, .ref v6), (7, .ref v7), (8, .ref v8)]) 230 ?_ (fun kc230 => ?_)
          · intro q ls h hl
            obtain ⟨i169, rfl⟩ : ∃ z, z = q := ⟨q, rfl⟩
            have h : wpk_L_isDraft_230 i11 i168 K128 i169 := h
            have hl : lv_has ls 24 [(15, .int i11), (14, .int i169), (13, .int i168), (12, .int i7), (11, .int i8), (10, .ref a3), (9, .ref a1), (0, .ref v0), (1, .int v1), (2, .int v2), (5, .ref v5), (6, .ref v6), (7, .ref v7), (8, .ref v8)] := hl
            unfold wpk_L_isDraft_230 at h
            obtain ⟨i170, ei170⟩ : ∃ y : Int32, y = i11 + (nI 1) := ⟨_, rfl⟩
            have h := h i170 ei170
            refine lv_iinc (v := i170) (lv' := [(15, .int i170), (14, .int i169), (13, .int i168), (12, .int i7), (11, .int i8), (10, .ref a3), (9, .ref a1), (0, .ref v0), (1, .int v1), (2, .int v2), (5, .ref v5), (6, .ref v6), (7, .ref v7), (8, .ref v8)]) hx hb dL_isDraft_230 hl (k := 0) rfl (by rw [ei170]; rfl) (by decide) rfl (fun ls hl => ?_)
            refine lv_goto (tgt := 128) hx hb dL_isDraft_233 (by decide) ?_
            exact ih128 (i170, i169, i168) _ h (lv_sub hl [0, 1, 2, 3, 4, 5, 6, 7, 8, 9, 10, 11, 12, 13] rfl)
          refine lv_icmp_le (tgt := 226) hx hb dL_isDraft_211 (by decide) (fun c171 => ?_) (fun c171 => ?_)
          · have h := h.1 c171
            refine lv_iload hx hb dL_isDraft_226 (lv_at hl 2 rfl) ?_
            refine lv_istore (lv' := [(14, .int i12), (16, .int i166), (15, .int i11), (13, .int i168), (12, .int i7), (11, .int i8), (10, .ref a3), (9, .ref a1), (0, .ref v0), (1, .int v1), (2, .int v2), (5, .ref v5), (6, .ref v6), (7, .ref v7), (8, .ref v8)]) hx hb dL_isDraft_228 hl (by decide) rfl (fun ls hl => ?_)
            exact kc230 i12 _ h (lv_sub hl [2, 0, 3, 4, 5, 6, 7, 8, 9, 10, 11, 12, 13, 14] rfl)
          · have h := h.2 c171
            refine lv_iload hx hb dL_isDraft_214 (lv_at hl 0 rfl) ?_
            refine lv_iload hx hb dL_isDraft_216 (lv_at hl 2 rfl) ?_
            refine lv_icmp_le (tgt := 226) hx hb dL_isDraft_218 (by decide) (fun c172 => ?_) (fun c172 => ?_)
            · have h := h.1 c172
              refine lv_iload hx hb dL_isDraft_226 (lv_at hl 2 rfl) ?_
              refine lv_istore (lv' := [(14, .int i12), (16, .int i166), (15, .int i11), (13, .int i168), (12, .int i7), (11, .int i8), (10, .ref a3), (9, .ref a1), (0, .ref v0), (1, .int v1), (2, .int v2), (5, .ref v5), (6, .ref v6), (7, .ref v7), (8, .ref v8)]) hx hb dL_isDraft_228 hl (by decide) rfl (fun ls hl => ?_)
              exact kc230 i12 _ h (lv_sub hl [2, 0, 3, 4, 5, 6, 7, 8, 9, 10, 11, 12, 13, 14] rfl)
            · have h := h.2 c172
              refine lv_iload hx hb dL_isDraft_221 (lv_at hl 0 rfl) ?_
              refine lv_goto (tgt := 228) hx hb dL_isDraft_223 (by decide) ?_
              refine lv_istore (lv' := [(14, .int i166), (16, .int i166), (15, .int i11), (13, .int i168), (12, .int i7), (11, .int i8), (10, .ref a3), (9, .ref a1), (0, .ref v0), (1, .int v1), (2, .int v2), (5, .ref v5), (6, .ref v6), (7, .ref v7), (8, .ref v8)]) hx hb dL_isDraft_228 hl (by decide) rfl (fun ls hl => ?_)
              exact kc230 i166 _ h (lv_sub hl [2, 0, 3, 4, 5, 6, 7, 8, 9, 10, 11, 12, 13, 14] rfl)
        refine lv_if_eq (tgt := 204) hx hb dL_isDraft_191 (by decide) (fun c173 => ?_) (fun c173 => ?_)
        · have h := h.1 c173
          refine lv_iconst (v := (nI 0)) hx hb dL_isDraft_204 (by decide) ?_
          refine lv_iadd hx hb dL_isDraft_205 ?_
          refine lv_topi (fun i174 ei174 => ?_)
          have h := h i174 ei174
          refine lv_istore (lv' := [(13, .int i174), (18, .int i164), (17, .int i165), (16, .int i166), (15, .int i11), (14, .int i12), (12, .int i7), (11, .int i8), (10, .ref a3), (9, .ref a1), (0, .ref v0), (1, .int v1), (2, .int v2), (5, .ref v5), (6, .ref v6), (7, .ref v7), (8, .ref v8)]) hx hb dL_isDraft_206 hl (by decide) rfl (fun ls hl => ?_)
          exact kc208 i174 _ h (lv_sub hl [3, 4, 5, 0, 6, 7, 8, 9, 10, 11, 12, 13, 14, 15, 16] rfl)
        · have h := h.2 c173
          refine lv_iload hx hb dL_isDraft_194 (lv_at hl 2 rfl) ?_
          refine lv_iconst (v := (nI 1)) hx hb dL_isDraft_196 (by decide) ?_
          refine lv_icmp_le (tgt := 204) hx hb dL_isDraft_197 (by decide) (fun c175 => ?_) (fun c175 => ?_)
          · have h := h.1 c175
            refine lv_iconst (v := (nI 0)) hx hb dL_isDraft_204 (by decide) ?_
            refine lv_iadd hx hb dL_isDraft_205 ?_
            refine lv_topi (fun i176 ei176 => ?_)
            have h := h i176 ei176
            refine lv_istore (lv' := [(13, .int i176), (18, .int i164), (17, .int i165), (16, .int i166), (15, .int i11), (14, .int i12), (12, .int i7), (11, .int i8), (10, .ref a3), (9, .ref a1), (0, .ref v0), (1, .int v1), (2, .int v2), (5, .ref v5), (6, .ref v6), (7, .ref v7), (8, .ref v8)]) hx hb dL_isDraft_206 hl (by decide) rfl (fun ls hl => ?_)
            exact kc208 i176 _ h (lv_sub hl [3, 4, 5, 0, 6, 7, 8, 9, 10, 11, 12, 13, 14, 15, 16] rfl)
          · have h := h.2 c175
            refine lv_iconst (v := (nI 1)) hx hb dL_isDraft_200 (by decide) ?_
            refine lv_goto (tgt := 205) hx hb dL_isDraft_201 (by decide) ?_
            refine lv_iadd hx hb dL_isDraft_205 ?_
            refine lv_topi (fun i177 ei177 => ?_)
            have h := h i177 ei177
            refine lv_istore (lv' := [(13, .int i177), (18, .int i164), (17, .int i165), (16, .int i166), (15, .int i11), (14, .int i12), (12, .int i7), (11, .int i8), (10, .ref a3), (9, .ref a1), (0, .ref v0), (1, .int v1), (2, .int v2), (5, .ref v5), (6, .ref v6), (7, .ref v7), (8, .ref v8)]) hx hb dL_isDraft_206 hl (by decide) rfl (fun ls hl => ?_)
            exact kc208 i177 _ h (lv_sub hl [3, 4, 5, 0, 6, 7, 8, 9, 10, 11, 12, 13, 14, 15, 16] rfl)
      · have h := h.2 c167
        obtain ⟨i178, ei178⟩ : ∃ y : Int32, y = i166 + (nI 1) := ⟨_, rfl⟩
        have h := h i178 ei178
        refine lv_iinc (v := i178) (lv' := [(16, .int i178), (18, .int i164), (17, .int i165), (15, .int i11), (14, .int i12), (13, .int i13), (12, .int i7), (11, .int i8), (10, .ref a3), (9, .ref a1), (0, .ref v0), (1, .int v1), (2, .int v2), (5, .ref v5), (6, .ref v6), (7, .ref v7), (8, .ref v8)]) hx hb dL_isDraft_155 hl (k := 2) rfl (by rw [ei178]; rfl) (by decide) rfl (fun ls hl => ?_)
        refine lv_iload hx hb dL_isDraft_158 (lv_at hl 2 rfl) ?_
        refine cut_P (nL := 24) (fun (q : Int32) => wpk_L_isDraft_177 a1 S9 i164 i178 K148 q) (fun q => [(16, .int i178), (18, .int i164), (17, .int q), (15, .int i11), (14, .int i12), (13, .int i13), (12, .int i7), (11, .int i8), (10, .ref a3), (9, .ref a1), (0, .ref v0), (1, .int v1), (2, .int v2), (5, .ref v5), (6, .ref v6), (7, .ref v7), (8, .ref v8)]) 177 ?_ (fun kc177 => ?_)
        · intro q ls h hl
          obtain ⟨i179, rfl⟩ : ∃ z, z = q := ⟨q, rfl⟩
          have h : wpk_L_isDraft_177 a1 S9 i164 i178 K148 i179 := h
          have hl : lv_has ls 24 [(16, .int i178), (18, .int i164), (17, .int i179), (15, .int i11), (14, .int i12), (13, .int i13), (12, .int i7), (11, .int i8), (10, .ref a3), (9, .ref a1), (0, .ref v0), (1, .int v1), (2, .int v2), (5, .ref v5), (6, .ref v6), (7, .ref v7), (8, .ref v8)] := hl
          unfold wpk_L_isDraft_177 at h
          refine lv_aload hx hb dL_isDraft_177 (lv_at hl 9 rfl) ?_
          refine lv_iload hx hb dL_isDraft_179 (lv_at hl 1 rfl) ?_
          obtain ⟨n180, f181, i183, e182, e182', exi183, h⟩ := h
          refine r_iald C hO e182 e182' dL_isDraft_181 ?_
          rw [exi183]
          refine lv_istore (lv' := [(18, .int i183), (16, .int i178), (17, .int i179), (15, .int i11), (14, .int i12), (13, .int i13), (12, .int i7), (11, .int i8), (10, .ref a3), (9, .ref a1), (0, .ref v0), (1, .int v1), (2, .int v2), (5, .ref v5), (6, .ref v6), (7, .ref v7), (8, .ref v8)]) hx hb dL_isDraft_182 hl (by decide) rfl (fun ls hl => ?_)
          refine lv_goto (tgt := 148) hx hb dL_isDraft_184 (by decide) ?_
          exact ih148 (i183, i179, i178) _ h (lv_sub hl [0, 2, 1, 3, 4, 5, 6, 7, 8, 9, 10, 11, 12, 13, 14, 15, 16] rfl)
        refine lv_if_eq (tgt := 174) hx hb dL_isDraft_160 (by decide) (fun c184 => ?_) (fun c184 => ?_)
        · have h := h.1 c184
          refine lv_iconst (v := (nI 0)) hx hb dL_isDraft_174 (by decide) ?_
          refine lv_istore (lv' := [(17, .int (nI 0)), (16, .int i178), (18, .int i164), (15, .int i11), (14, .int i12), (13, .int i13), (12, .int i7), (11, .int i8), (10, .ref a3), (9, .ref a1), (0, .ref v0), (1, .int v1), (2, .int v2), (5, .ref v5), (6, .ref v6), (7, .ref v7), (8, .ref v8)]) hx hb dL_isDraft_175 hl (by decide) rfl (fun ls hl => ?_)
          exact kc177 (nI 0) _ h (lv_sub hl [1, 2, 0, 3, 4, 5, 6, 7, 8, 9, 10, 11, 12, 13, 14, 15, 16] rfl)
        · have h := h.2 c184
          refine lv_iload hx hb dL_isDraft_163 (lv_at hl 1 rfl) ?_
          refine lv_iload hx hb dL_isDraft_165 (lv_at hl 3 rfl) ?_
          refine lv_icmp_le (tgt := 174) hx hb dL_isDraft_167 (by decide) (fun c185 => ?_) (fun c185 => ?_)
          · have h := h.1 c185
            refine lv_iconst (v := (nI 0)) hx hb dL_isDraft_174 (by decide) ?_
            refine lv_istore (lv' := [(17, .int (nI 0)), (16, .int i178), (18, .int i164), (15, .int i11), (14, .int i12), (13, .int i13), (12, .int i7), (11, .int i8), (10, .ref a3), (9, .ref a1), (0, .ref v0), (1, .int v1), (2, .int v2), (5, .ref v5), (6, .ref v6), (7, .ref v7), (8, .ref v8)]) hx hb dL_isDraft_175 hl (by decide) rfl (fun ls hl => ?_)
            exact kc177 (nI 0) _ h (lv_sub hl [1, 2, 0, 3, 4, 5, 6, 7, 8, 9, 10, 11, 12, 13, 14, 15, 16] rfl)
          · have h := h.2 c185
            refine lv_iconst (v := (nI 1)) hx hb dL_isDraft_170 (by decide) ?_
            refine lv_goto (tgt := 175) hx hb dL_isDraft_171 (by decide) ?_
            refine lv_istore (lv' := [(17, .int (nI 1)), (16, .int i178), (18, .int i164), (15, .int i11), (14, .int i12), (13, .int i13), (12, .int i7), (11, .int i8), (10, .ref a3), (9, .ref a1), (0, .ref v0), (1, .int v1), (2, .int v2), (5, .ref v5), (6, .ref v6), (7, .ref v7), (8, .ref v8)]) hx hb dL_isDraft_175 hl (by decide) rfl (fun ls hl => ?_)
            exact kc177 (nI 1) _ h (lv_sub hl [1, 2, 0, 3, 4, 5, 6, 7, 8, 9, 10, 11, 12, 13, 14, 15, 16] rfl)
  · have h := h.2 c10
    refine lv_aload hx hb dL_isDraft_41 (lv_at hl 3 rfl) ?_
    refine lv_iload hx hb dL_isDraft_43 (lv_at hl 0 rfl) ?_
    refine lv_aload hx hb dL_isDraft_45 (lv_at hl 8 rfl) ?_
    refine lv_iload hx hb dL_isDraft_47 (lv_at hl 0 rfl) ?_
    obtain ⟨n188, f189, i191, e190, e190', exi191, h⟩ := h
    refine r_iald C hO e190 e190' dL_isDraft_49 ?_
    rw [exi191]
    obtain ⟨n192, f193, e194, e194', h⟩ := h
    refine r_iast C hO e194 e194' dL_isDraft_50 (fun H locs hO => ?_)
    obtain ⟨S195, eS195⟩ : ∃ Sx, Sx = va_up S9 a3 (aI n192 (upd f193 (i6).toNatClampNeg i191)) := ⟨_, rfl⟩
    rw [← eS195] at hO
    have h := h S195 eS195
    refine lv_iload hx hb dL_isDraft_51 (lv_at hl 2 rfl) ?_
    refine lv_aload hx hb dL_isDraft_53 (lv_at hl 4 rfl) ?_
    refine lv_iload hx hb dL_isDraft_55 (lv_at hl 0 rfl) ?_
    obtain ⟨n196, f197, i199, e198, e198', exi199, h⟩ := h
    refine r_iald C hO e198 e198' dL_isDraft_57 ?_
    rw [exi199]
    refine lv_iload hx hb dL_isDraft_58 (lv_at hl 0 rfl) ?_
    refine cut_P (nL := 24) (fun (q : Int32) => wpk_L_isDraft_74 a1 i6 i7 S195 K34 q) (fun q => [(13, .int i6), (12, .int i7), (11, .int q), (10, .ref a3), (9, .ref a1), (0, .ref v0), (1, .int v1), (2, .int v2), (5, .ref v5), (6, .ref v6), (7, .ref v7), (8, .ref v8)]) 74 ?_ (fun kc74 => ?_)
    · intro q ls h hl
      obtain ⟨i200, rfl⟩ : ∃ z, z = q := ⟨q, rfl⟩
      have h : wpk_L_isDraft_74 a1 i6 i7 S195 K34 i200 := h
      have hl : lv_has ls 24 [(13, .int i6), (12, .int i7), (11, .int i200), (10, .ref a3), (9, .ref a1), (0, .ref v0), (1, .int v1), (2, .int v2), (5, .ref v5), (6, .ref v6), (7, .ref v7), (8, .ref v8)] := hl
      unfold wpk_L_isDraft_74 at h
      refine lv_iconst (v := (nI 0)) hx hb dL_isDraft_74 (by decide) ?_
      refine lv_istore (lv' := [(14, .int (nI 0)), (13, .int i6), (12, .int i7), (11, .int i200), (10, .ref a3), (9, .ref a1), (0, .ref v0), (1, .int v1), (2, .int v2), (5, .ref v5), (6, .ref v6), (7, .ref v7), (8, .ref v8)]) hx hb dL_isDraft_75 hl (by decide) rfl (fun ls hl => ?_)
      obtain ⟨n218, h⟩ := h
      refine lp_P (nL := 24) (fun q => [(14, .int q.1), (13, .int i6), (12, .int q.2), (11, .int i200), (10, .ref a3), (9, .ref a1), (0, .ref v0), (1, .int v1), (2, .int v2), (5, .ref v5), (6, .ref v6), (7, .ref v7), (8, .ref v8)]) h (lv_sub hl [0, 1, 2, 3, 4, 5, 6, 7, 8, 9, 10, 11, 12] rfl) (fun K77 ih77 q ls h hl => ?_)
      obtain ⟨i201, i202⟩ := q
      have h : wpb_L_isDraft_77 a1 i6 S195 i200 K34 K77 i201 i202 := h
      have hl : lv_has ls 24 [(14, .int i201), (13, .int i6), (12, .int i202), (11, .int i200), (10, .ref a3), (9, .ref a1), (0, .ref v0), (1, .int v1), (2, .int v2), (5, .ref v5), (6, .ref v6), (7, .ref v7), (8, .ref v8)] := hl
      unfold wpb_L_isDraft_77 at h
      refine lv_iload hx hb dL_isDraft_77 (lv_at hl 0 rfl) ?_
      refine lv_iload hx hb dL_isDraft_79 (lv_at hl 1 rfl) ?_
      refine lv_icmp_ge (tgt := 113) hx hb dL_isDraft_81 (by decide) (fun c203 => ?_) (fun c203 => ?_)
      · have h := h.1 c203
        obtain ⟨i204, ei204⟩ : ∃ y : Int32, y = i6 + (nI 1) := ⟨_, rfl⟩
        have h := h i204 ei204
        refine lv_iinc (v := i204) (lv' := [(13, .int i204), (14, .int i201), (12, .int i202), (11, .int i200), (10, .ref a3), (9, .ref a1), (0, .ref v0), (1, .int v1), (2, .int v2), (5, .ref v5), (6, .ref v6), (7, .ref v7), (8, .ref v8)]) hx hb dL_isDraft_113 hl (k := 1) rfl (by rw [ei204]; rfl) (by decide) rfl (fun ls hl => ?_)
        refine lv_goto (tgt := 34) hx hb dL_isDraft_116 (by decide) ?_
        exact ih34 (i204, i202, i200, S195) _ _ _ h (lv_sub hl [0, 2, 3, 4, 5, 6, 7, 8, 9, 10, 11, 12] rfl) hO
      · have h := h.2 c203
        refine lv_iload hx hb dL_isDraft_84 (lv_at hl 2 rfl) ?_
        refine lv_aload hx hb dL_isDraft_86 (lv_at hl 5 rfl) ?_
        refine lv_iload hx hb dL_isDraft_88 (lv_at hl 0 rfl) ?_
        obtain ⟨n205, f206, i208, e207, e207', exi208, h⟩ := h
        refine r_iald C hO e207 e207' dL_isDraft_90 ?_
        rw [exi208]
        refine lv_aload hx hb dL_isDraft_91 (lv_at hl 5 rfl) ?_
        refine lv_iload hx hb dL_isDraft_93 (lv_at hl 1 rfl) ?_
        obtain ⟨n209, f210, i212, e211, e211', exi212, h⟩ := h
        refine r_iald C hO e211 e211' dL_isDraft_95 ?_
        rw [exi212]
        refine lv_icmp_le (tgt := 103) hx hb dL_isDraft_96 (by decide) (fun c213 => ?_) (fun c213 => ?_)
        · have h := h.1 c213
          refine lv_iconst (v := (nI 0)) hx hb dL_isDraft_103 (by decide) ?_
          refine lv_iadd hx hb dL_isDraft_104 ?_
          refine lv_topi (fun i214 ei214 => ?_)
          have h := h i214 ei214
          refine lv_istore (lv' := [(12, .int i214), (14, .int i201), (13, .int i6), (11, .int i200), (10, .ref a3), (9, .ref a1), (0, .ref v0), (1, .int v1), (2, .int v2), (5, .ref v5), (6, .ref v6), (7, .ref v7), (8, .ref v8)]) hx hb dL_isDraft_105 hl (by decide) rfl (fun ls hl => ?_)
          obtain ⟨i215, ei215⟩ : ∃ y : Int32, y = i201 + (nI 1) := ⟨_, rfl⟩
          have h := h i215 ei215
          refine lv_iinc (v := i215) (lv' := [(14, .int i215), (12, .int i214), (13, .int i6), (11, .int i200), (10, .ref a3), (9, .ref a1), (0, .ref v0), (1, .int v1), (2, .int v2), (5, .ref v5), (6, .ref v6), (7, .ref v7), (8, .ref v8)]) hx hb dL_isDraft_107 hl (k := 1) rfl (by rw [ei215]; rfl) (by decide) rfl (fun ls hl => ?_)
          refine lv_goto (tgt := 77) hx hb dL_isDraft_110 (by decide) ?_
          exact ih77 (i215, i214) _ h (lv_sub hl [0, 2, 1, 3, 4, 5, 6, 7, 8, 9, 10, 11, 12] rfl)
        · have h := h.2 c213
          refine lv_iconst (v := (nI 1)) hx hb dL_isDraft_99 (by decide) ?_
          refine lv_goto (tgt := 104) hx hb dL_isDraft_100 (by decide) ?_
          refine lv_iadd hx hb dL_isDraft_104 ?_
          refine lv_topi (fun i216 ei216 => ?_)
          have h := h i216 ei216
          refine lv_istore (lv' := [(12, .int i216), (14, .int i201), (13, .int i6), (11, .int i200), (10, .ref a3), (9, .ref a1), (0, .ref v0), (1, .int v1), (2, .int v2), (5, .ref v5), (6, .ref v6), (7, .ref v7), (8, .ref v8)]) hx hb dL_isDraft_105 hl (by decide) rfl (fun ls hl => ?_)
          obtain ⟨i217, ei217⟩ : ∃ y : Int32, y = i201 + (nI 1) := ⟨_, rfl⟩
          have h := h i217 ei217
          refine lv_iinc (v := i217) (lv' := [(14, .int i217), (12, .int i216), (13, .int i6), (11, .int i200), (10, .ref a3), (9, .ref a1), (0, .ref v0), (1, .int v1), (2, .int v2), (5, .ref v5), (6, .ref v6), (7, .ref v7), (8, .ref v8)]) hx hb dL_isDraft_107 hl (k := 1) rfl (by rw [ei217]; rfl) (by decide) rfl (fun ls hl => ?_)
          refine lv_goto (tgt := 77) hx hb dL_isDraft_110 (by decide) ?_
          exact ih77 (i217, i216) _ h (lv_sub hl [0, 2, 1, 3, 4, 5, 6, 7, 8, 9, 10, 11, 12] rfl)
    refine lv_icmp_ne (tgt := 70) hx hb dL_isDraft_60 (by decide) (fun c219 => ?_) (fun c219 => ?_)
    · have h := h.2 c219
      refine lv_iconst (v := (nI 0)) hx hb dL_isDraft_70 (by decide) ?_
      refine lv_ior hx hb dL_isDraft_71 ?_
      refine lv_topi (fun i220 ei220 => ?_)
      have h := h i220 ei220
      refine lv_istore (lv' := [(11, .int i220), (13, .int i6), (12, .int i7), (10, .ref a3), (9, .ref a1), (0, .ref v0), (1, .int v1), (2, .int v2), (5, .ref v5), (6, .ref v6), (7, .ref v7), (8, .ref v8)]) hx hb dL_isDraft_72 hl (by decide) rfl (fun ls hl => ?_)
      exact kc74 i220 _ h (lv_sub hl [1, 2, 0, 3, 4, 5, 6, 7, 8, 9, 10, 11] rfl)
    · have h := h.1 c219
      refine lv_iconst (v := (nI 1)) hx hb dL_isDraft_63 (by decide) ?_
      refine lv_iload hx hb dL_isDraft_64 (lv_at hl 0 rfl) ?_
      refine lv_ishl hx hb dL_isDraft_66 ?_
      refine lv_goto (tgt := 71) hx hb dL_isDraft_67 (by decide) ?_
      refine lv_ior hx hb dL_isDraft_71 ?_
      refine lv_topi (fun i221 ei221 => ?_)
      have h := h i221 ei221
      refine lv_istore (lv' := [(11, .int i221), (13, .int i6), (12, .int i7), (10, .ref a3), (9, .ref a1), (0, .ref v0), (1, .int v1), (2, .int v2), (5, .ref v5), (6, .ref v6), (7, .ref v7), (8, .ref v8)]) hx hb dL_isDraft_72 hl (by decide) rfl (fun ls hl => ?_)
      exact kc74 i221 _ h (lv_sub hl [1, 2, 0, 3, 4, 5, 6, 7, 8, 9, 10, 11] rfl)
