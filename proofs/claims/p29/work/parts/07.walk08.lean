theorem hdS_L_arePairs : yL_arePairs.cls ≠ "java/lang/invoke/MethodHandle" ∧ yL_arePairs.cls ≠ "java/lang/invoke/VarHandle" ∧ (parseMethodDescriptor yL_arePairs.desc).map (fun d => d.parameters.length) = some 7 := by decide +kernel
set_option maxHeartbeats 4000000 in
set_option maxRecDepth 100000 in
theorem c_L_arePairs (l : Launch) (D : va_G) (Y : Nat → ClassId) (L : List Nat) (S : PS) (sz : Nat) (v0 : Nat) (v1 : Int32) (v2 : Nat) (v3 : Nat) (v4 : Nat) (v5 : Nat) (v6 : Nat) (Post : Int32 → PS → Prop) (h : wp_L_arePairs S v0 v1 v2 v3 v4 v5 v6 Post) : Met l yL_arePairs wsL_arePairs ({ frames := 7, cells := 95, slots := 1140, locals := 161 }) (va_Pc [.ref v0, .int v1, .ref v2, .ref v3, .ref v4, .ref v5, .ref v6] (PrO D Y L S sz)) (va_Qi Post (QtO D Y (fR L sz)) (fR L sz)) 95 1140 (fR L sz) := by
  refine Met.ofW (cc := cL_arePairs) (maxL := 24) (ret := (some .boolean)) (by decide) rfl ?_
  intro p e s m args below meth c s₁ B hml hv
  obtain ⟨rfl, hsz, hJ, hP, hK, hD0, hZ⟩ := hv
  have hx := B.exec
  have hb := B.bytes
  have hr := B.returns
  have hts := atoms_spec (ws := wsL_arePairs) B.pre
  have hown : s.vm.findClass RL = some m.cls := findClass_of_methodNamed B.named
  have hlocks := B.notSynchronized
  have CF : CallFix p m c cL_arePairs 24 s ([.ref v0, .int v1, .ref v2, .ref v3, .ref v4, .ref v5, .ref v6] : List Value).toArray wsL_arePairs RL := ⟨hx, hb, hml, hown, hts⟩
  have C : CX p m c cL_arePairs 24 s ([.ref v0, .int v1, .ref v2, .ref v3, .ref v4, .ref v5, .ref v6] : List Value).toArray wsL_arePairs RL D Y := ⟨CF, hK, hZ⟩
  have hO : HO D Y (fR L sz) s.heap S s.heap [] := HO.entry hsz hJ hP hD0
  subst hsz
  have hl := lv_entry ([.ref v0, .int v1, .ref v2, .ref v3, .ref v4, .ref v5, .ref v6]) (n := 24) (Nat.le_of_ble_eq_true rfl)
  rw [lg_entry_eq]
  generalize (lg_sl ([.ref v0, .int v1, .ref v2, .ref v3, .ref v4, .ref v5, .ref v6]) ++ List.replicate (24 - (lg_sl ([.ref v0, .int v1, .ref v2, .ref v3, .ref v4, .ref v5, .ref v6])).length) Slot.unset).toArray = ls at hl ⊢
  have hl : lv_has ls 24 [(0, .ref v0), (1, .int v1), (2, .ref v2), (3, .ref v3), (4, .ref v4), (5, .ref v5), (6, .ref v6)] := hl
  unfold wp_L_arePairs at h
  refine lv_iload_n hx hb dL_arePairs_0 rfl (lv_at hl 1 rfl) ?_
  refine lv_bipush (v := (nI 6)) hx hb dL_arePairs_1 (by decide) ?_
  refine cS_si (As := [.int v1, .int (nI 6)]) (rest := []) (n := 2) CF hZ (c_L_low l v1 (nI 6) _ h) (va_cwS 2 hts gL_arePairs_L_low rfl rfl rfl hdS_L_low ⟨Nat.le_of_ble_eq_true rfl, Nat.le_of_ble_eq_true rfl⟩) rfl hl.1 rfl (Nat.le_of_ble_eq_true rfl) dL_arePairs_3 ⟨(Nat.le_of_ble_eq_true rfl), (Nat.le_of_ble_eq_true rfl)⟩ (fun i1 h => ?_)
  refine lv_istore (lv' := [(7, .int i1), (0, .ref v0), (1, .int v1), (2, .ref v2), (3, .ref v3), (4, .ref v4), (5, .ref v5), (6, .ref v6)]) hx hb dL_arePairs_6 hl (by decide) rfl (fun ls hl => ?_)
  refine lv_iload_n hx hb dL_arePairs_8 rfl (lv_at hl 2 rfl) ?_
  refine lv_iconst (v := (nI 3)) hx hb dL_arePairs_9 (by decide) ?_
  refine lv_ishr hx hb dL_arePairs_10 ?_
  refine lv_bipush (v := (nI 6)) hx hb dL_arePairs_11 (by decide) ?_
  refine cS_si (As := [.int (v1 >>> ((nI 3) &&& 31)), .int (nI 6)]) (rest := []) (n := 2) CF hZ (c_L_low l ((v1 >>> ((nI 3) &&& 31))) (nI 6) _ h) (va_cwS 2 hts gL_arePairs_L_low rfl rfl rfl hdS_L_low ⟨Nat.le_of_ble_eq_true rfl, Nat.le_of_ble_eq_true rfl⟩) rfl hl.1 rfl (Nat.le_of_ble_eq_true rfl) dL_arePairs_13 ⟨(Nat.le_of_ble_eq_true rfl), (Nat.le_of_ble_eq_true rfl)⟩ (fun i2 h => ?_)
  refine lv_istore (lv' := [(8, .int i2), (7, .int i1), (0, .ref v0), (1, .int v1), (2, .ref v2), (3, .ref v3), (4, .ref v4), (5, .ref v5), (6, .ref v6)]) hx hb dL_arePairs_16 hl (by decide) rfl (fun ls hl => ?_)
  refine lv_iload_n hx hb dL_arePairs_18 rfl (lv_at hl 3 rfl) ?_
  refine lv_bipush (v := (nI 6)) hx hb dL_arePairs_19 (by decide) ?_
  refine lv_ishr hx hb dL_arePairs_21 ?_
  refine lv_bipush (v := (nI 64)) hx hb dL_arePairs_22 (by decide) ?_
  refine cS_si (As := [.int (v1 >>> ((nI 6) &&& 31)), .int (nI 64)]) (rest := []) (n := 2) CF hZ (c_L_low l ((v1 >>> ((nI 6) &&& 31))) (nI 64) _ h) (va_cwS 2 hts gL_arePairs_L_low rfl rfl rfl hdS_L_low ⟨Nat.le_of_ble_eq_true rfl, Nat.le_of_ble_eq_true rfl⟩) rfl hl.1 rfl (Nat.le_of_ble_eq_true rfl) dL_arePairs_24 ⟨(Nat.le_of_ble_eq_true rfl), (Nat.le_of_ble_eq_true rfl)⟩ (fun i3 h => ?_)
  refine lv_istore (lv' := [(9, .int i3), (8, .int i2), (7, .int i1), (0, .ref v0), (1, .int v1), (2, .ref v2), (3, .ref v3), (4, .ref v4), (5, .ref v5), (6, .ref v6)]) hx hb dL_arePairs_27 hl (by decide) rfl (fun ls hl => ?_)
  refine lv_iload_n hx hb dL_arePairs_29 rfl (lv_at hl 4 rfl) ?_
  refine lv_bipush (v := (nI 12)) hx hb dL_arePairs_30 (by decide) ?_
  refine lv_ishr hx hb dL_arePairs_32 ?_
  refine lv_bipush (v := (nI 12)) hx hb dL_arePairs_33 (by decide) ?_
  refine cS_si (As := [.int (v1 >>> ((nI 12) &&& 31)), .int (nI 12)]) (rest := []) (n := 2) CF hZ (c_L_low l ((v1 >>> ((nI 12) &&& 31))) (nI 12) _ h) (va_cwS 2 hts gL_arePairs_L_low rfl rfl rfl hdS_L_low ⟨Nat.le_of_ble_eq_true rfl, Nat.le_of_ble_eq_true rfl⟩) rfl hl.1 rfl (Nat.le_of_ble_eq_true rfl) dL_arePairs_35 ⟨(Nat.le_of_ble_eq_true rfl), (Nat.le_of_ble_eq_true rfl)⟩ (fun i4 h => ?_)
  refine lv_istore (lv' := [(10, .int i4), (9, .int i3), (8, .int i2), (7, .int i1), (0, .ref v0), (1, .int v1), (2, .ref v2), (3, .ref v3), (4, .ref v4), (5, .ref v5), (6, .ref v6)]) hx hb dL_arePairs_38 hl (by decide) rfl (fun ls hl => ?_)
  refine lv_bipush (v := (nI 12)) hx hb dL_arePairs_40 (by decide) ?_
  refine r_newa (k := 1) (ty := .int) (N' := 12) C hO (by intro C h; cases h) rfl rfl (List.mem_of_getElem? (i := 1) (by decide +kernel)) (12, .inl (fun _ => 0)) (fun _ => rfl) (by decide) (by decide) (Nat.le_of_ble_eq_true rfl) (Nat.le_of_ble_eq_true rfl) (Nat.le_of_ble_eq_true rfl) dL_arePairs_42 (fun a5 H hqa5 hO => ?_)
  obtain ⟨S6, eS6⟩ : ∃ Sx, Sx = va_up S a5 (aI 12 (fun _ => 0)) := ⟨_, rfl⟩
  have hO := (show HO D Y (fR L s.heap.size) s.heap (va_up S a5 (aI 12 (fun _ => 0))) H _ from hO)
  rw [← eS6] at hO
  have h := h a5 hqa5 S6 eS6
  refine lv_astore (lv' := [(11, .ref a5), (10, .int i4), (9, .int i3), (8, .int i2), (7, .int i1), (0, .ref v0), (1, .int v1), (2, .ref v2), (3, .ref v3), (4, .ref v4), (5, .ref v5), (6, .ref v6)]) hx hb dL_arePairs_44 hl (by decide) rfl (fun ls hl => ?_)
  refine lv_bipush (v := (nI 12)) hx hb dL_arePairs_46 (by decide) ?_
  refine r_newa (k := 1) (ty := .int) (N' := 12) C hO (by intro C h; cases h) rfl rfl (List.mem_of_getElem? (i := 1) (by decide +kernel)) (12, .inl (fun _ => 0)) (fun _ => rfl) (by decide) (by decide) (Nat.le_of_ble_eq_true rfl) (Nat.le_of_ble_eq_true rfl) (Nat.le_of_ble_eq_true rfl) dL_arePairs_48 (fun a7 H hqa7 hO => ?_)
  obtain ⟨S8, eS8⟩ : ∃ Sx, Sx = va_up S6 a7 (aI 12 (fun _ => 0)) := ⟨_, rfl⟩
  have hO := (show HO D Y (fR L s.heap.size) s.heap (va_up S6 a7 (aI 12 (fun _ => 0))) H _ from hO)
  rw [← eS8] at hO
  have h := h a7 hqa7 S8 eS8
  refine lv_astore (lv' := [(12, .ref a7), (11, .ref a5), (10, .int i4), (9, .int i3), (8, .int i2), (7, .int i1), (0, .ref v0), (1, .int v1), (2, .ref v2), (3, .ref v3), (4, .ref v4), (5, .ref v5), (6, .ref v6)]) hx hb dL_arePairs_50 hl (by decide) rfl (fun ls hl => ?_)
  refine lv_iload hx hb dL_arePairs_52 (lv_at hl 5 rfl) ?_
  refine lv_aload_n hx hb dL_arePairs_54 rfl (lv_at hl 8 rfl) ?_
  refine lv_aload_n hx hb dL_arePairs_55 rfl (lv_at hl 9 rfl) ?_
  refine lv_aload hx hb dL_arePairs_56 (lv_at hl 11 rfl) ?_
  refine lv_aload hx hb dL_arePairs_58 (lv_at hl 12 rfl) ?_
  refine lv_aload hx hb dL_arePairs_60 (lv_at hl 1 rfl) ?_
  refine cS_wv (As := [.int i1, .ref v2, .ref v3, .ref v5, .ref v6, .ref a5]) (rest := []) (n := 6) C hO (fun L => c_L_lay l D Y L S8 H.size i1 v2 v3 v5 v6 a5 _ h) (va_cwS 6 hts gL_arePairs_L_lay rfl rfl rfl hdS_L_lay ⟨Nat.le_of_ble_eq_true rfl, Nat.le_of_ble_eq_true rfl⟩) rfl hl.1 rfl (Nat.le_of_ble_eq_true rfl) dL_arePairs_62 ⟨(Nat.le_of_ble_eq_true rfl), (Nat.le_of_ble_eq_true rfl)⟩ (fun S9 H locs h hO => ?_)
  refine lv_iload hx hb dL_arePairs_65 (lv_at hl 4 rfl) ?_
  refine lv_aload_n hx hb dL_arePairs_67 rfl (lv_at hl 8 rfl) ?_
  refine lv_aload_n hx hb dL_arePairs_68 rfl (lv_at hl 9 rfl) ?_
  refine lv_aload hx hb dL_arePairs_69 (lv_at hl 11 rfl) ?_
  refine lv_aload hx hb dL_arePairs_71 (lv_at hl 12 rfl) ?_
  refine lv_aload hx hb dL_arePairs_73 (lv_at hl 0 rfl) ?_
  refine cS_wv (As := [.int i2, .ref v2, .ref v3, .ref v5, .ref v6, .ref a7]) (rest := []) (n := 6) C hO (fun L => c_L_lay l D Y L S9 H.size i2 v2 v3 v5 v6 a7 _ h) (va_cwS 6 hts gL_arePairs_L_lay rfl rfl rfl hdS_L_lay ⟨Nat.le_of_ble_eq_true rfl, Nat.le_of_ble_eq_true rfl⟩) rfl hl.1 rfl (Nat.le_of_ble_eq_true rfl) dL_arePairs_75 ⟨(Nat.le_of_ble_eq_true rfl), (Nat.le_of_ble_eq_true rfl)⟩ (fun S10 H locs h hO => ?_)
  refine lv_iconst (v := (nI 0)) hx hb dL_arePairs_78 (by decide) ?_
  refine lv_istore (lv' := [(13, .int (nI 0)), (12, .ref a7), (11, .ref a5), (10, .int i4), (9, .int i3), (8, .int i2), (7, .int i1), (0, .ref v0), (1, .int v1), (2, .ref v2), (3, .ref v3), (4, .ref v4), (5, .ref v5), (6, .ref v6)]) hx hb dL_arePairs_79 hl (by decide) rfl (fun ls hl => ?_)
  refine lv_iconst (v := (nI 1)) hx hb dL_arePairs_81 (by decide) ?_
  refine lv_istore (lv' := [(14, .int (nI 1)), (13, .int (nI 0)), (12, .ref a7), (11, .ref a5), (10, .int i4), (9, .int i3), (8, .int i2), (7, .int i1), (0, .ref v0), (1, .int v1), (2, .ref v2), (3, .ref v3), (4, .ref v4), (5, .ref v5), (6, .ref v6)]) hx hb dL_arePairs_82 hl (by decide) rfl (fun ls hl => ?_)
  refine lv_iconst (v := (nI 1)) hx hb dL_arePairs_84 (by decide) ?_
  refine lv_istore (lv' := [(15, .int (nI 1)), (14, .int (nI 1)), (13, .int (nI 0)), (12, .ref a7), (11, .ref a5), (10, .int i4), (9, .int i3), (8, .int i2), (7, .int i1), (0, .ref v0), (1, .int v1), (2, .ref v2), (3, .ref v3), (4, .ref v4), (5, .ref v5), (6, .ref v6)]) hx hb dL_arePairs_85 hl (by decide) rfl (fun ls hl => ?_)
  refine lv_iconst (v := (nI 0)) hx hb dL_arePairs_87 (by decide) ?_
  refine lv_istore (lv' := [(16, .int (nI 0)), (15, .int (nI 1)), (14, .int (nI 1)), (13, .int (nI 0)), (12, .ref a7), (11, .ref a5), (10, .int i4), (9, .int i3), (8, .int i2), (7, .int i1), (0, .ref v0), (1, .int v1), (2, .ref v2), (3, .ref v3), (4, .ref v4), (5, .ref v5), (6, .ref v6)]) hx hb dL_arePairs_88 hl (by decide) rfl (fun ls hl => ?_)
  obtain ⟨n166, h⟩ := h
  refine lp_P (nL := 24) (fun q => [(16, .int q.1), (15, .int q.2.1), (14, .int q.2.2.1), (13, .int q.2.2.2), (12, .ref a7), (11, .ref a5), (10, .int i4), (9, .int i3), (8, .int i2), (7, .int i1), (0, .ref v0), (2, .ref v2), (3, .ref v3), (4, .ref v4), (5, .ref v5), (6, .ref v6)]) h (lv_sub hl [0, 1, 2, 3, 4, 5, 6, 7, 8, 9, 10, 12, 13, 14, 15, 16] rfl) (fun K90 ih90 q ls h hl => ?_)
  obtain ⟨i11, i12, i13, i14⟩ := q
  have h : wpb_L_arePairs_90 v0 v2 v3 v4 v5 v6 i1 i2 i3 i4 a5 a7 S10 Post K90 i11 i12 i13 i14 := h
  have hl : lv_has ls 24 [(16, .int i11), (15, .int i12), (14, .int i13), (13, .int i14), (12, .ref a7), (11, .ref a5), (10, .int i4), (9, .int i3), (8, .int i2), (7, .int i1), (0, .ref v0), (2, .ref v2), (3, .ref v3), (4, .ref v4), (5, .ref v5), (6, .ref v6)] := hl
  unfold wpb_L_arePairs_90 at h
  refine lv_iload hx hb dL_arePairs_90 (lv_at hl 0 rfl) ?_
  refine lv_bipush (v := (nI 12)) hx hb dL_arePairs_92 (by decide) ?_
  refine lv_icmp_ge (tgt := 185) hx hb dL_arePairs_94 (by decide) (fun c15 => ?_) (fun c15 => ?_)
  · have h := h.1 c15
    refine cut_P (nL := 24) (fun (q : Int32) => wpk_L_arePairs_272 v0 v2 v3 v4 v5 v6 i3 i4 a5 a7 S10 Post q) (fun q => [(16, .int q), (12, .ref a7), (11, .ref a5), (10, .int i4), (9, .int i3), (0, .ref v0), (2, .ref v2), (3, .ref v3), (4, .ref v4), (5, .ref v5), (6, .ref v6)]) 272 ?_ (fun kc272 => ?_)
    · intro q ls h hl
      obtain ⟨i16, rfl⟩ : ∃ z, z = q := ⟨q, rfl⟩
      have h : wpk_L_arePairs_272 v0 v2 v3 v4 v5 v6 i3 i4 a5 a7 S10 Post i16 := h
      have hl : lv_has ls 24 [(16, .int i16), (12, .ref a7), (11, .ref a5), (10, .int i4), (9, .int i3), (0, .ref v0), (2, .ref v2), (3, .ref v3), (4, .ref v4), (5, .ref v5), (6, .ref v6)] := hl
      unfold wpk_L_arePairs_272 at h
      refine lv_sipush (v := (nI 4095)) hx hb dL_arePairs_272 (by decide) ?_
      refine lv_istore (lv' := [(17, .int (nI 4095)), (16, .int i16), (12, .ref a7), (11, .ref a5), (10, .int i4), (9, .int i3), (0, .ref v0), (2, .ref v2), (3, .ref v3), (4, .ref v4), (5, .ref v5), (6, .ref v6)]) hx hb dL_arePairs_275 hl (by decide) rfl (fun ls hl => ?_)
      refine lv_iconst (v := (nI 1)) hx hb dL_arePairs_277 (by decide) ?_
      refine lv_iload hx hb dL_arePairs_278 (lv_at hl 4 rfl) ?_
      refine lv_ishl hx hb dL_arePairs_280 ?_
      refine lv_topi (fun i17 ei17 => ?_)
      have h := h i17 ei17
      refine lv_istore (lv' := [(18, .int i17), (17, .int (nI 4095)), (16, .int i16), (12, .ref a7), (11, .ref a5), (10, .int i4), (9, .int i3), (0, .ref v0), (2, .ref v2), (3, .ref v3), (4, .ref v4), (5, .ref v5), (6, .ref v6)]) hx hb dL_arePairs_281 hl (by decide) rfl (fun ls hl => ?_)
      refine lv_iconst (v := (nI 0)) hx hb dL_arePairs_283 (by decide) ?_
      refine lv_istore (lv' := [(19, .int (nI 0)), (18, .int i17), (17, .int (nI 4095)), (16, .int i16), (12, .ref a7), (11, .ref a5), (10, .int i4), (9, .int i3), (0, .ref v0), (2, .ref v2), (3, .ref v3), (4, .ref v4), (5, .ref v5), (6, .ref v6)]) hx hb dL_arePairs_284 hl (by decide) rfl (fun ls hl => ?_)
      refine lv_iconst (v := (-1 : Int32)) hx hb dL_arePairs_286 (by decide) ?_
      refine lv_istore (lv' := [(20, .int (-1 : Int32)), (19, .int (nI 0)), (18, .int i17), (17, .int (nI 4095)), (16, .int i16), (12, .ref a7), (11, .ref a5), (10, .int i4), (9, .int i3), (0, .ref v0), (2, .ref v2), (3, .ref v3), (4, .ref v4), (5, .ref v5), (6, .ref v6)]) hx hb dL_arePairs_287 hl (by decide) rfl (fun ls hl => ?_)
      refine lv_iconst (v := (nI 0)) hx hb dL_arePairs_289 (by decide) ?_
      refine lv_istore (lv' := [(21, .int (nI 0)), (20, .int (-1 : Int32)), (19, .int (nI 0)), (18, .int i17), (17, .int (nI 4095)), (16, .int i16), (12, .ref a7), (11, .ref a5), (10, .int i4), (9, .int i3), (0, .ref v0), (2, .ref v2), (3, .ref v3), (4, .ref v4), (5, .ref v5), (6, .ref v6)]) hx hb dL_arePairs_290 hl (by decide) rfl (fun ls hl => ?_)
      refine lp_WA (nL := 24) 13 7 84 (fun q => [(21, .int q.1), (20, .int q.2.1), (19, .int q.2.2.1), (18, .int q.2.2.2.1), (17, .int q.2.2.2.2.1), (16, .int i16), (12, .ref a7), (11, .ref a5), (10, .int i4), (9, .int i3), (0, .ref v0), (2, .ref v2), (3, .ref v3), (4, .ref v4), (5, .ref v5), (6, .ref v6)]) (fun q => q.2.2.2.2.2) h (lv_sub hl [0, 1, 2, 3, 4, 5, 6, 7, 8, 9, 10, 11, 12, 13, 14, 15] rfl) hO (fun cz292 sz292 hz292 hs292 K292 ih292 q ls H locs h hl hO => ?_)
      obtain ⟨i18, i19, i20, i21, i22, S23⟩ := q
      have h : wpb_L_arePairs_292 v0 v2 v3 v4 v5 v6 i3 i4 a5 a7 i16 Post K292 i18 i19 i20 i21 i22 S23 := h
      have hl : lv_has ls 24 [(21, .int i18), (20, .int i19), (19, .int i20), (18, .int i21), (17, .int i22), (16, .int i16), (12, .ref a7), (11, .ref a5), (10, .int i4), (9, .int i3), (0, .ref v0), (2, .ref v2), (3, .ref v3), (4, .ref v4), (5, .ref v5), (6, .ref v6)] := hl
      have hO : HO D Y (fR L s.heap.size) s.heap S23 H locs := hO
      unfold wpb_L_arePairs_292 at h
      refine lv_iload hx hb dL_arePairs_292 (lv_at hl 0 rfl) ?_
      refine lv_bipush (v := (nI 12)) hx hb dL_arePairs_294 (by decide) ?_
      refine lv_icmp_ge (tgt := 478) hx hb dL_arePairs_296 (by decide) (fun c24 => ?_) (fun c24 => ?_)
      · have h := h.1 c24
        refine W.widen (k := 95) (n := 1140) (by omega) (by omega) ?_
        refine lv_iload hx hb dL_arePairs_478 (lv_at hl 5 rfl) ?_
        refine lv_if_eq (tgt := 531) hx hb dL_arePairs_480 (by decide) (fun c25 => ?_) (fun c25 => ?_)
        · have h := h.1 c25
          refine lv_iconst (v := (nI 0)) hx hb dL_arePairs_531 (by decide) ?_
          exact W.zret hx hb hr (by decide) (fun t ht hW => ⟨⟨(nI 0), S23, rfl, h, hO.q ht⟩, hO.f ht⟩) hO.lc dL_arePairs_532
        · have h := h.2 c25
          refine lv_aload_n hx hb dL_arePairs_483 rfl (lv_at hl 10 rfl) ?_
          refine lv_iload hx hb dL_arePairs_484 (lv_at hl 9 rfl) ?_
          obtain ⟨fs28, e27, h⟩ := h
          refine cV_ri (As := [.int i3]) (rest := []) (n := 1) C hO (fun L => c_X7_kernel l D Y L S23 H.size v0 i3 _ h) 5 rfl e27 (cwV 1 hts gL_arePairs_X7_kernel rfl rfl rfl ⟨rfl, hdS_X7_kernel⟩ ⟨Nat.le_of_ble_eq_true rfl, Nat.le_of_ble_eq_true rfl⟩) rfl hl.1 rfl (Nat.le_of_ble_eq_true rfl) dL_arePairs_486 ⟨(Nat.le_of_ble_eq_true rfl), (Nat.le_of_ble_eq_true rfl)⟩ (fun i26 h => ?_)
          refine lv_iload hx hb dL_arePairs_489 (lv_at hl 4 rfl) ?_
          refine lv_icmp_ne (tgt := 531) hx hb dL_arePairs_491 (by decide) (fun c29 => ?_) (fun c29 => ?_)
          · have h := h.2 c29
            refine lv_iconst (v := (nI 0)) hx hb dL_arePairs_531 (by decide) ?_
            exact W.zret hx hb hr (by decide) (fun t ht hW => ⟨⟨(nI 0), S23, rfl, h, hO.q ht⟩, hO.f ht⟩) hO.lc dL_arePairs_532
          · have h := h.1 c29
            refine lv_aload_n hx hb dL_arePairs_494 rfl (lv_at hl 10 rfl) ?_
            refine lv_iload hx hb dL_arePairs_495 (lv_at hl 9 rfl) ?_
            refine lv_iload hx hb dL_arePairs_497 (lv_at hl 8 rfl) ?_
            obtain ⟨fs33, e32, h⟩ := h
            refine cV_wi (As := [.int i3, .int i4]) (rest := []) (n := 2) C hO (fun L => c_X7_orbit l D Y L S23 H.size v0 i3 i4 _ h) 5 rfl e32 (cwV 2 hts gL_arePairs_X7_orbit rfl rfl rfl ⟨rfl, hdS_X7_orbit⟩ ⟨Nat.le_of_ble_eq_true rfl, Nat.le_of_ble_eq_true rfl⟩) rfl hl.1 rfl (Nat.le_of_ble_eq_true rfl) dL_arePairs_499 ⟨(Nat.le_of_ble_eq_true rfl), (Nat.le_of_ble_eq_true rfl)⟩ (fun i30 S31 H locs h hO => ?_)
            refine lv_iload hx hb dL_arePairs_502 (lv_at hl 3 rfl) ?_
            refine lv_icmp_ne (tgt := 531) hx hb dL_arePairs_504 (by decide) (fun c34 => ?_) (fun c34 => ?_)
            · have h := h.2 c34
              refine lv_iconst (v := (nI 0)) hx hb dL_arePairs_531 (by decide) ?_
              exact W.zret hx hb hr (by decide) (fun t ht hW => ⟨⟨(nI 0), S31, rfl, h, hO.q ht⟩, hO.f ht⟩) hO.lc dL_arePairs_532
            · have h := h.1 c34
              refine lv_aload_n hx hb dL_arePairs_507 rfl (lv_at hl 10 rfl) ?_
              refine lv_iconst (v := (nI 0)) hx hb dL_arePairs_508 (by decide) ?_
              obtain ⟨fs37, e36, h⟩ := h
              refine cV_ri (As := [.int (nI 0)]) (rest := []) (n := 1) C hO (fun L => c_X7_bestDraft l D Y L S31 H.size v0 (nI 0) _ h) 5 rfl e36 (cwV 1 hts gL_arePairs_X7_bestDraft rfl rfl rfl ⟨rfl, hdS_X7_bestDraft⟩ ⟨Nat.le_of_ble_eq_true rfl, Nat.le_of_ble_eq_true rfl⟩) rfl hl.1 rfl (Nat.le_of_ble_eq_true rfl) dL_arePairs_509 ⟨(Nat.le_of_ble_eq_true rfl), (Nat.le_of_ble_eq_true rfl)⟩ (fun i35 h => ?_)
              refine lv_iload hx hb dL_arePairs_512 (lv_at hl 2 rfl) ?_
              refine lv_icmp_ne (tgt := 531) hx hb dL_arePairs_514 (by decide) (fun c38 => ?_) (fun c38 => ?_)
              · have h := h.2 c38
                refine lv_iconst (v := (nI 0)) hx hb dL_arePairs_531 (by decide) ?_
                exact W.zret hx hb hr (by decide) (fun t ht hW => ⟨⟨(nI 0), S31, rfl, h, hO.q ht⟩, hO.f ht⟩) hO.lc dL_arePairs_532
              · have h := h.1 c38
                refine lv_aload_n hx hb dL_arePairs_517 rfl (lv_at hl 10 rfl) ?_
                refine lv_iconst (v := (nI 1)) hx hb dL_arePairs_518 (by decide) ?_
                obtain ⟨fs41, e40, h⟩ := h
                refine cV_ri (As := [.int (nI 1)]) (rest := []) (n := 1) C hO (fun L => c_X7_bestDraft l D Y L S31 H.size v0 (nI 1) _ h) 5 rfl e40 (cwV 1 hts gL_arePairs_X7_bestDraft rfl rfl rfl ⟨rfl, hdS_X7_bestDraft⟩ ⟨Nat.le_of_ble_eq_true rfl, Nat.le_of_ble_eq_true rfl⟩) rfl hl.1 rfl (Nat.le_of_ble_eq_true rfl) dL_arePairs_519 ⟨(Nat.le_of_ble_eq_true rfl), (Nat.le_of_ble_eq_true rfl)⟩ (fun i39 h => ?_)
                refine lv_iload hx hb dL_arePairs_522 (lv_at hl 1 rfl) ?_
                refine lv_icmp_ne (tgt := 531) hx hb dL_arePairs_524 (by decide) (fun c42 => ?_) (fun c42 => ?_)
                · have h := h.2 c42
                  refine lv_iconst (v := (nI 0)) hx hb dL_arePairs_531 (by decide) ?_
                  exact W.zret hx hb hr (by decide) (fun t ht hW => ⟨⟨(nI 0), S31, rfl, h, hO.q ht⟩, hO.f ht⟩) hO.lc dL_arePairs_532
                · have h := h.1 c42
                  refine lv_iconst (v := (nI 1)) hx hb dL_arePairs_527 (by decide) ?_
                  refine lv_goto (tgt := 532) hx hb dL_arePairs_528 (by decide) ?_
                  exact W.zret hx hb hr (by decide) (fun t ht hW => ⟨⟨(nI 1), S31, rfl, h, hO.q ht⟩, hO.f ht⟩) hO.lc dL_arePairs_532
      · have h := h.2 c24
        refine lv_iconst (v := (nI 0)) hx hb dL_arePairs_299 (by decide) ?_
        refine lv_istore (lv' := [(22, .int (nI 0)), (21, .int i18), (20, .int i19), (19, .int i20), (18, .int i21), (17, .int i22), (16, .int i16), (12, .ref a7), (11, .ref a5), (10, .int i4), (9, .int i3), (0, .ref v0), (2, .ref v2), (3, .ref v3), (4, .ref v4), (5, .ref v5), (6, .ref v6)]) hx hb dL_arePairs_300 hl (by decide) rfl (fun ls hl => ?_)
        refine lp_WA (nL := 24) 7 1 12 (fun q => [(22, .int q.1), (21, .int i18), (20, .int q.2.1), (19, .int q.2.2.1), (18, .int q.2.2.2.1), (17, .int q.2.2.2.2.1), (16, .int i16), (12, .ref a7), (11, .ref a5), (10, .int i4), (9, .int i3), (0, .ref v0), (2, .ref v2), (3, .ref v3), (4, .ref v4), (5, .ref v5), (6, .ref v6)]) (fun q => q.2.2.2.2.2) h (lv_sub hl [0, 1, 2, 3, 4, 5, 6, 7, 8, 9, 10, 11, 12, 13, 14, 15, 16] rfl) hO (fun cz302 sz302 hz302 hs302 K302 ih302 q ls H locs h hl hO => ?_)
        obtain ⟨i43, i44, i45, i46, i47, S48⟩ := q
        have h : wpb_L_arePairs_302 v2 v3 v4 v5 v6 i3 a5 a7 i18 K292 K302 i43 i44 i45 i46 i47 S48 := h
        have hl : lv_has ls 24 [(22, .int i43), (21, .int i18), (20, .int i44), (19, .int i45), (18, .int i46), (17, .int i47), (16, .int i16), (12, .ref a7), (11, .ref a5), (10, .int i4), (9, .int i3), (0, .ref v0), (2, .ref v2), (3, .ref v3), (4, .ref v4), (5, .ref v5), (6, .ref v6)] := hl
        have hO : HO D Y (fR L s.heap.size) s.heap S48 H locs := hO
        unfold wpb_L_arePairs_302 at h
        refine lv_iload hx hb dL_arePairs_302 (lv_at hl 0 rfl) ?_
        refine lv_bipush (v := (nI 6)) hx hb dL_arePairs_304 (by decide) ?_
        refine lv_icmp_ge (tgt := 472) hx hb dL_arePairs_306 (by decide) (fun c49 => ?_) (fun c49 => ?_)
        · have h := h.1 c49
          refine W.widen (k := cz292 + 7) (n := sz292 + 84) (by omega) (by omega) ?_
          obtain ⟨i50, ei50⟩ : ∃ y : Int32, y = i18 + (nI 1) := ⟨_, rfl⟩
          have h := h i50 ei50
          refine lv_iinc (v := i50) (lv' := [(21, .int i50), (22, .int i43), (20, .int i44), (19, .int i45), (18, .int i46), (17, .int i47), (16, .int i16), (12, .ref a7), (11, .ref a5), (10, .int i4), (9, .int i3), (0, .ref v0), (2, .ref v2), (3, .ref v3), (4, .ref v4), (5, .ref v5), (6, .ref v6)]) hx hb dL_arePairs_472 hl (k := 1) rfl (by rw [ei50]; rfl) (by decide) rfl (fun ls hl => ?_)
          refine lv_goto (tgt := 292) hx hb dL_arePairs_475 (by decide) ?_
          refine W.widen (k := cz292 + 7) (n := sz292 + 84) (by omega) (by omega) ?_
          exact ih292 (i50, i44, i45, i46, i47, S48) _ _ _ h (lv_sub hl [0, 2, 3, 4, 5, 6, 7, 8, 9, 10, 11, 12, 13, 14, 15, 16] rfl) hO
        · have h := h.2 c49
          refine lv_iload hx hb dL_arePairs_309 (lv_at hl 0 rfl) ?_
          refine lv_aload_n hx hb dL_arePairs_311 rfl (lv_at hl 12 rfl) ?_
          refine lv_aload_n hx hb dL_arePairs_312 rfl (lv_at hl 13 rfl) ?_
          refine lv_aload hx hb dL_arePairs_313 (lv_at hl 15 rfl) ?_
          refine lv_aload hx hb dL_arePairs_315 (lv_at hl 16 rfl) ?_
          refine lv_aload hx hb dL_arePairs_317 (lv_at hl 8 rfl) ?_
          refine cS_wv (As := [.int i43, .ref v2, .ref v3, .ref v5, .ref v6, .ref a5]) (rest := []) (n := 6) C hO (fun L => c_L_lay l D Y L S48 H.size i43 v2 v3 v5 v6 a5 _ h) (va_cwS 6 hts gL_arePairs_L_lay rfl rfl rfl hdS_L_lay ⟨Nat.le_of_ble_eq_true rfl, Nat.le_of_ble_eq_true rfl⟩) rfl hl.1 rfl (Nat.le_of_ble_eq_true rfl) dL_arePairs_319 ⟨(show cz302 + 0 + 1 ≤ 95 by omega), (show sz302 + 0 + 12 ≤ 1140 by omega)⟩ (fun S51 H locs h hO => ?_)
          refine lv_iconst (v := (nI 0)) hx hb dL_arePairs_322 (by decide) ?_
          refine lv_istore (lv' := [(23, .int (nI 0)), (22, .int i43), (21, .int i18), (20, .int i44), (19, .int i45), (18, .int i46), (17, .int i47), (16, .int i16), (12, .ref a7), (11, .ref a5), (10, .int i4), (9, .int i3), (0, .ref v0), (2, .ref v2), (3, .ref v3), (4, .ref v4), (5, .ref v5), (6, .ref v6)]) hx hb dL_arePairs_323 hl (by decide) rfl (fun ls hl => ?_)
          obtain ⟨n98, h⟩ := h
          refine lp_W (nL := 24) (fun q => [(23, .int q.1), (22, .int i43), (21, .int i18), (20, .int i44), (19, .int i45), (18, .int q.2.1), (17, .int q.2.2.1), (16, .int i16), (12, .ref a7), (11, .ref a5), (10, .int i4), (9, .int i3), (0, .ref v0), (2, .ref v2), (3, .ref v3), (4, .ref v4), (5, .ref v5), (6, .ref v6)]) (fun q => q.2.2.2) h (lv_sub hl [0, 1, 2, 3, 4, 5, 6, 7, 8, 9, 10, 11, 12, 13, 14, 15, 16, 17] rfl) hO (fun K325 ih325 q ls H locs h hl hO => ?_)
          obtain ⟨i52, i53, i54, S55⟩ := q
          have h : wpb_L_arePairs_325 v4 i3 a5 a7 i43 i44 i45 K302 K325 i52 i53 i54 S55 := h
          have hl : lv_has ls 24 [(23, .int i52), (22, .int i43), (21, .int i18), (20, .int i44), (19, .int i45), (18, .int i53), (17, .int i54), (16, .int i16), (12, .ref a7), (11, .ref a5), (10, .int i4), (9, .int i3), (0, .ref v0), (2, .ref v2), (3, .ref v3), (4, .ref v4), (5, .ref v5), (6, .ref v6)] := hl
          have hO : HO D Y (fR L s.heap.size) s.heap S55 H locs := hO
          unfold wpb_L_arePairs_325 at h
          refine lv_iload hx hb dL_arePairs_325 (lv_at hl 0 rfl) ?_
          refine lv_bipush (v := (nI 12)) hx hb dL_arePairs_327 (by decide) ?_
          refine lv_icmp_ge (tgt := 425) hx hb dL_arePairs_329 (by decide) (fun c56 => ?_) (fun c56 => ?_)
          · have h := h.1 c56
            refine lv_aload hx hb dL_arePairs_425 (lv_at hl 8 rfl) ?_
            refine cS_ri (As := [.ref a7]) (rest := []) (n := 1) C hO (fun L => c_L_home l D Y L S55 H.size a7 _ h) (va_cwS 1 hts gL_arePairs_L_home rfl rfl rfl hdS_L_home ⟨Nat.le_of_ble_eq_true rfl, Nat.le_of_ble_eq_true rfl⟩) rfl hl.1 rfl (Nat.le_of_ble_eq_true rfl) dL_arePairs_427 ⟨(show cz302 + 1 + 0 ≤ 95 by omega), (show sz302 + 12 + 0 ≤ 1140 by omega)⟩ (fun i57 h => ?_)
            refine lv_iload hx hb dL_arePairs_430 (lv_at hl 3 rfl) ?_
            refine cut_P (nL := 24) (fun (q : Int32) => wpk_L_arePairs_444 a7 i43 i44 i53 i54 S55 K302 q) (fun q => [(22, .int i43), (21, .int i18), (20, .int i44), (19, .int q), (18, .int i53), (17, .int i54), (16, .int i16), (12, .ref a7), (11, .ref a5), (10, .int i4), (9, .int i3), (0, .ref v0), (2, .ref v2), (3, .ref v3), (4, .ref v4), (5, .ref v5), (6, .ref v6)]) 444 ?_ (fun kc444 => ?_)
            · intro q ls h hl
              obtain ⟨i58, rfl⟩ : ∃ z, z = q := ⟨q, rfl⟩
              have h : wpk_L_arePairs_444 a7 i43 i44 i53 i54 S55 K302 i58 := h
              have hl : lv_has ls 24 [(22, .int i43), (21, .int i18), (20, .int i44), (19, .int i58), (18, .int i53), (17, .int i54), (16, .int i16), (12, .ref a7), (11, .ref a5), (10, .int i4), (9, .int i3), (0, .ref v0), (2, .ref v2), (3, .ref v3), (4, .ref v4), (5, .ref v5), (6, .ref v6)] := hl
              unfold wpk_L_arePairs_444 at h
              refine lv_aload hx hb dL_arePairs_444 (lv_at hl 7 rfl) ?_
              refine cS_ri (As := [.ref a7]) (rest := []) (n := 1) C hO (fun L => c_L_home l D Y L S55 H.size a7 _ h) (va_cwS 1 hts gL_arePairs_L_home rfl rfl rfl hdS_L_home ⟨Nat.le_of_ble_eq_true rfl, Nat.le_of_ble_eq_true rfl⟩) rfl hl.1 rfl (Nat.le_of_ble_eq_true rfl) dL_arePairs_446 ⟨(show cz302 + 1 + 0 ≤ 95 by omega), (show sz302 + 12 + 0 ≤ 1140 by omega)⟩ (fun i59 h => ?_)
              refine lv_iload hx hb dL_arePairs_449 (lv_at hl 2 rfl) ?_
              refine cut_P (nL := 24) (fun (q : Int32) => wpk_L_arePairs_466 i43 i53 i54 S55 i58 K302 q) (fun q => [(22, .int i43), (21, .int i18), (20, .int q), (19, .int i58), (18, .int i53), (17, .int i54), (16, .int i16), (12, .ref a7), (11, .ref a5), (10, .int i4), (9, .int i3), (0, .ref v0), (2, .ref v2), (3, .ref v3), (4, .ref v4), (5, .ref v5), (6, .ref v6)]) 466 ?_ (fun kc466 => ?_)
              · intro q ls h hl
                obtain ⟨i60, rfl⟩ : ∃ z, z = q := ⟨q, rfl⟩
                have h : wpk_L_arePairs_466 i43 i53 i54 S55 i58 K302 i60 := h
                have hl : lv_has ls 24 [(22, .int i43), (21, .int i18), (20, .int i60), (19, .int i58), (18, .int i53), (17, .int i54), (16, .int i16), (12, .ref a7), (11, .ref a5), (10, .int i4), (9, .int i3), (0, .ref v0), (2, .ref v2), (3, .ref v3), (4, .ref v4), (5, .ref v5), (6, .ref v6)] := hl
                unfold wpk_L_arePairs_466 at h
                obtain ⟨i61, ei61⟩ : ∃ y : Int32, y = i43 + (nI 1) := ⟨_, rfl⟩
                have h := h i61 ei61
                refine lv_iinc (v := i61) (lv' := [(22, .int i61), (21, .int i18), (20, .int i60), (19, .int i58), (18, .int i53), (17, .int i54), (16, .int i16), (12, .ref a7), (11, .ref a5), (10, .int i4), (9, .int i3), (0, .ref v0), (2, .ref v2), (3, .ref v3), (4, .ref v4), (5, .ref v5), (6, .ref v6)]) hx hb dL_arePairs_466 hl (k := 0) rfl (by rw [ei61]; rfl) (by decide) rfl (fun ls hl => ?_)
                refine lv_goto (tgt := 302) hx hb dL_arePairs_469 (by decide) ?_
                refine W.widen (k := cz302 + 1) (n := sz302 + 12) (by omega) (by omega) ?_
                exact ih302 (i61, i60, i58, i53, i54, S55) _ _ _ h (lv_sub hl [0, 1, 2, 3, 4, 5, 6, 7, 8, 9, 10, 11, 12, 13, 14, 15, 16] rfl) hO
              refine lv_icmp_le (tgt := 462) hx hb dL_arePairs_451 (by decide) (fun c62 => ?_) (fun c62 => ?_)
              · have h := h.1 c62
                refine lv_iload hx hb dL_arePairs_462 (lv_at hl 2 rfl) ?_
                refine lv_istore (lv' := [(20, .int i44), (22, .int i43), (21, .int i18), (19, .int i58), (18, .int i53), (17, .int i54), (16, .int i16), (12, .ref a7), (11, .ref a5), (10, .int i4), (9, .int i3), (0, .ref v0), (2, .ref v2), (3, .ref v3), (4, .ref v4), (5, .ref v5), (6, .ref v6)]) hx hb dL_arePairs_464 hl (by decide) rfl (fun ls hl => ?_)
                exact kc466 i44 _ h (lv_sub hl [1, 2, 0, 3, 4, 5, 6, 7, 8, 9, 10, 11, 12, 13, 14, 15, 16] rfl)
              · have h := h.2 c62
                refine lv_aload hx hb dL_arePairs_454 (lv_at hl 7 rfl) ?_
                refine cS_ri (As := [.ref a7]) (rest := []) (n := 1) C hO (fun L => c_L_home l D Y L S55 H.size a7 _ h) (va_cwS 1 hts gL_arePairs_L_home rfl rfl rfl hdS_L_home ⟨Nat.le_of_ble_eq_true rfl, Nat.le_of_ble_eq_true rfl⟩) rfl hl.1 rfl (Nat.le_of_ble_eq_true rfl) dL_arePairs_456 ⟨(show cz302 + 1 + 0 ≤ 95 by omega), (show sz302 + 12 + 0 ≤ 1140 by omega)⟩ (fun i63 h => ?_)
                refine lv_goto (tgt := 464) hx hb dL_arePairs_459 (by decide) ?_
                refine lv_istore (lv' := [(20, .int i63), (22, .int i43), (21, .int i18), (19, .int i58), (18, .int i53), (17, .int i54), (16, .int i16), (12, .ref a7), (11, .ref a5), (10, .int i4), (9, .int i3), (0, .ref v0), (2, .ref v2), (3, .ref v3), (4, .ref v4), (5, .ref v5), (6, .ref v6)]) hx hb dL_arePairs_464 hl (by decide) rfl (fun ls hl => ?_)
                exact kc466 i63 _ h (lv_sub hl [1, 2, 0, 3, 4, 5, 6, 7, 8, 9, 10, 11, 12, 13, 14, 15, 16] rfl)
            refine lv_icmp_le (tgt := 440) hx hb dL_arePairs_432 (by decide) (fun c64 => ?_) (fun c64 => ?_)
            · have h := h.1 c64
              refine lv_iload hx hb dL_arePairs_440 (lv_at hl 4 rfl) ?_
              refine lv_istore (lv' := [(19, .int i45), (23, .int i52), (22, .int i43), (21, .int i18), (20, .int i44), (18, .int i53), (17, .int i54), (16, .int i16), (12, .ref a7), (11, .ref a5), (10, .int i4), (9, .int i3), (0, .ref v0), (2, .ref v2), (3, .ref v3), (4, .ref v4), (5, .ref v5), (6, .ref v6)]) hx hb dL_arePairs_442 hl (by decide) rfl (fun ls hl => ?_)
              exact kc444 i45 _ h (lv_sub hl [2, 3, 4, 0, 5, 6, 7, 8, 9, 10, 11, 12, 13, 14, 15, 16, 17] rfl)
            · have h := h.2 c64
              refine lv_iload hx hb dL_arePairs_435 (lv_at hl 1 rfl) ?_
              refine lv_goto (tgt := 442) hx hb dL_arePairs_437 (by decide) ?_
              refine lv_istore (lv' := [(19, .int i43), (23, .int i52), (22, .int i43), (21, .int i18), (20, .int i44), (18, .int i53), (17, .int i54), (16, .int i16), (12, .ref a7), (11, .ref a5), (10, .int i4), (9, .int i3), (0, .ref v0), (2, .ref v2), (3, .ref v3), (4, .ref v4), (5, .ref v5), (6, .ref v6)]) hx hb dL_arePairs_442 hl (by decide) rfl (fun ls hl => ?_)
              exact kc444 i43 _ h (lv_sub hl [2, 3, 4, 0, 5, 6, 7, 8, 9, 10, 11, 12, 13, 14, 15, 16, 17] rfl)
          · have h := h.2 c56
            refine lv_iload hx hb dL_arePairs_332 (lv_at hl 6 rfl) ?_
            refine lv_iload hx hb dL_arePairs_334 (lv_at hl 11 rfl) ?_
            refine lv_iload hx hb dL_arePairs_336 (lv_at hl 1 rfl) ?_
            refine lv_ishr hx hb dL_arePairs_338 ?_
            refine lv_iconst (v := (nI 1)) hx hb dL_arePairs_339 (by decide) ?_
            refine lv_iand hx hb dL_arePairs_340 ?_
            refine lv_iconst (v := (nI 1)) hx hb dL_arePairs_341 (by decide) ?_
            refine cut_P (nL := 24) (fun (q : Int32) => wpk_L_arePairs_368 v4 i3 a5 a7 i43 i52 i53 S55 K325 q) (fun q => [(23, .int i52), (22, .int i43), (21, .int i18), (20, .int i44), (19, .int i45), (18, .int i53), (17, .int q), (16, .int i16), (12, .ref a7), (11, .ref a5), (10, .int i4), (9, .int i3), (0, .ref v0), (2, .ref v2), (3, .ref v3), (4, .ref v4), (5, .ref v5), (6, .ref v6)]) 368 ?_ (fun kc368 => ?_)
            · intro q ls h hl
              obtain ⟨i65, rfl⟩ : ∃ z, z = q := ⟨q, rfl⟩
              have h : wpk_L_arePairs_368 v4 i3 a5 a7 i43 i52 i53 S55 K325 i65 := h
              have hl : lv_has ls 24 [(23, .int i52), (22, .int i43), (21, .int i18), (20, .int i44), (19, .int i45), (18, .int i53), (17, .int i65), (16, .int i16), (12, .ref a7), (11, .ref a5), (10, .int i4), (9, .int i3), (0, .ref v0), (2, .ref v2), (3, .ref v3), (4, .ref v4), (5, .ref v5), (6, .ref v6)] := hl
              unfold wpk_L_arePairs_368 at h
              refine lv_iload hx hb dL_arePairs_368 (lv_at hl 5 rfl) ?_
              refine lv_iload hx hb dL_arePairs_370 (lv_at hl 11 rfl) ?_
              refine lv_iload hx hb dL_arePairs_372 (lv_at hl 1 rfl) ?_
              refine lv_ishr hx hb dL_arePairs_374 ?_
              refine lv_iconst (v := (nI 1)) hx hb dL_arePairs_375 (by decide) ?_
              refine lv_iand hx hb dL_arePairs_376 ?_
              refine lv_iconst (v := (nI 1)) hx hb dL_arePairs_377 (by decide) ?_
              refine cut_P (nL := 24) (fun (q : Int32) => wpk_L_arePairs_406 v4 a5 a7 i52 S55 i65 K325 q) (fun q => [(23, .int i52), (22, .int i43), (21, .int i18), (20, .int i44), (19, .int i45), (18, .int q), (17, .int i65), (16, .int i16), (12, .ref a7), (11, .ref a5), (10, .int i4), (9, .int i3), (0, .ref v0), (2, .ref v2), (3, .ref v3), (4, .ref v4), (5, .ref v5), (6, .ref v6)]) 406 ?_ (fun kc406 => ?_)
              · intro q ls h hl
                obtain ⟨i66, rfl⟩ : ∃ z, z = q := ⟨q, rfl⟩
                have h : wpk_L_arePairs_406 v4 a5 a7 i52 S55 i65 K325 i66 := h
                have hl : lv_has ls 24 [(23, .int i52), (22, .int i43), (21, .int i18), (20, .int i44), (19, .int i45), (18, .int i66), (17, .int i65), (16, .int i16), (12, .ref a7), (11, .ref a5), (10, .int i4), (9, .int i3), (0, .ref v0), (2, .ref v2), (3, .ref v3), (4, .ref v4), (5, .ref v5), (6, .ref v6)] := hl
                unfold wpk_L_arePairs_406 at h
                refine lv_aload hx hb dL_arePairs_406 (lv_at hl 8 rfl) ?_
                refine lv_aload hx hb dL_arePairs_408 (lv_at hl 9 rfl) ?_
                refine lv_iload hx hb dL_arePairs_410 (lv_at hl 0 rfl) ?_
                obtain ⟨n67, f68, i70, e69, e69', exi70, h⟩ := h
                refine r_iald C hO e69 e69' dL_arePairs_412 ?_
                rw [exi70]
                refine lv_aload hx hb dL_arePairs_413 (lv_at hl 15 rfl) ?_
                refine lv_iload hx hb dL_arePairs_415 (lv_at hl 0 rfl) ?_
                obtain ⟨n71, f72, i74, e73, e73', exi74, h⟩ := h
                refine r_iald C hO e73 e73' dL_arePairs_417 ?_
                rw [exi74]
                obtain ⟨n75, f76, e77, e77', h⟩ := h
                refine r_iast C hO e77 e77' dL_arePairs_418 (fun H locs hO => ?_)
                obtain ⟨S78, eS78⟩ : ∃ Sx, Sx = va_up S55 a7 (aI n75 (upd f76 (i70).toNatClampNeg i74)) := ⟨_, rfl⟩
                rw [← eS78] at hO
                have h := h S78 eS78
                obtain ⟨i79, ei79⟩ : ∃ y : Int32, y = i52 + (nI 1) := ⟨_, rfl⟩
                have h := h i79 ei79
                refine lv_iinc (v := i79) (lv' := [(23, .int i79), (22, .int i43), (21, .int i18), (20, .int i44), (19, .int i45), (18, .int i66), (17, .int i65), (16, .int i16), (12, .ref a7), (11, .ref a5), (10, .int i4), (9, .int i3), (0, .ref v0), (2, .ref v2), (3, .ref v3), (4, .ref v4), (5, .ref v5), (6, .ref v6)]) hx hb dL_arePairs_419 hl (k := 0) rfl (by rw [ei79]; rfl) (by decide) rfl (fun ls hl => ?_)
                refine lv_goto (tgt := 325) hx hb dL_arePairs_422 (by decide) ?_
                exact ih325 (i79, i66, i65, S78) _ _ _ h (lv_sub hl [0, 1, 2, 3, 4, 5, 6, 7, 8, 9, 10, 11, 12, 13, 14, 15, 16, 17] rfl) hO
              refine lv_icmp_ne (tgt := 402) hx hb dL_arePairs_378 (by decide) (fun c80 => ?_) (fun c80 => ?_)
              · have h := h.2 c80
                refine lv_iconst (v := (nI 0)) hx hb dL_arePairs_402 (by decide) ?_
                refine lv_ior hx hb dL_arePairs_403 ?_
                refine lv_topi (fun i81 ei81 => ?_)
                have h := h i81 ei81
                refine lv_istore (lv' := [(18, .int i81), (23, .int i52), (22, .int i43), (21, .int i18), (20, .int i44), (19, .int i45), (17, .int i65), (16, .int i16), (12, .ref a7), (11, .ref a5), (10, .int i4), (9, .int i3), (0, .ref v0), (2, .ref v2), (3, .ref v3), (4, .ref v4), (5, .ref v5), (6, .ref v6)]) hx hb dL_arePairs_404 hl (by decide) rfl (fun ls hl => ?_)
                exact kc406 i81 _ h (lv_sub hl [1, 2, 3, 4, 5, 0, 6, 7, 8, 9, 10, 11, 12, 13, 14, 15, 16, 17] rfl)
              · have h := h.1 c80
                refine lv_iload hx hb dL_arePairs_381 (lv_at hl 5 rfl) ?_
                refine lv_iload hx hb dL_arePairs_383 (lv_at hl 0 rfl) ?_
                refine lv_ishr hx hb dL_arePairs_385 ?_
                refine lv_iconst (v := (nI 1)) hx hb dL_arePairs_386 (by decide) ?_
                refine lv_iand hx hb dL_arePairs_387 ?_
                refine lv_iconst (v := (nI 1)) hx hb dL_arePairs_388 (by decide) ?_
                refine lv_icmp_ne (tgt := 402) hx hb dL_arePairs_389 (by decide) (fun c82 => ?_) (fun c82 => ?_)
                · have h := h.2 c82
                  refine lv_iconst (v := (nI 0)) hx hb dL_arePairs_402 (by decide) ?_
                  refine lv_ior hx hb dL_arePairs_403 ?_
                  refine lv_topi (fun i83 ei83 => ?_)
                  have h := h i83 ei83
                  refine lv_istore (lv' := [(18, .int i83), (23, .int i52), (22, .int i43), (21, .int i18), (20, .int i44), (19, .int i45), (17, .int i65), (16, .int i16), (12, .ref a7), (11, .ref a5), (10, .int i4), (9, .int i3), (0, .ref v0), (2, .ref v2), (3, .ref v3), (4, .ref v4), (5, .ref v5), (6, .ref v6)]) hx hb dL_arePairs_404 hl (by decide) rfl (fun ls hl => ?_)
                  exact kc406 i83 _ h (lv_sub hl [1, 2, 3, 4, 5, 0, 6, 7, 8, 9, 10, 11, 12, 13, 14, 15, 16, 17] rfl)
                · have h := h.1 c82
                  refine lv_iconst (v := (nI 1)) hx hb dL_arePairs_392 (by decide) ?_
                  refine lv_aload hx hb dL_arePairs_393 (lv_at hl 9 rfl) ?_
                  refine lv_iload hx hb dL_arePairs_395 (lv_at hl 0 rfl) ?_
                  obtain ⟨n84, f85, i87, e86, e86', exi87, h⟩ := h
                  refine r_iald C hO e86 e86' dL_arePairs_397 ?_
                  rw [exi87]
                  refine lv_ishl hx hb dL_arePairs_398 ?_
                  refine lv_goto (tgt := 403) hx hb dL_arePairs_399 (by decide) ?_
                  refine lv_ior hx hb dL_arePairs_403 ?_
                  refine lv_topi (fun i88 ei88 => ?_)
                  have h := h i88 ei88
                  refine lv_istore (lv' := [(18, .int i88), (23, .int i52), (22, .int i43), (21, .int i18), (20, .int i44), (19, .int i45), (17, .int i65), (16, .int i16), (12, .ref a7), (11, .ref a5), (10, .int i4), (9, .int i3), (0, .ref v0), (2, .ref v2), (3, .ref v3), (4, .ref v4), (5, .ref v5), (6, .ref v6)]) hx hb dL_arePairs_404 hl (by decide) rfl (fun ls hl => ?_)
                  exact kc406 i88 _ h (lv_sub hl [1, 2, 3, 4, 5, 0, 6, 7, 8, 9, 10, 11, 12, 13, 14, 15, 16, 17] rfl)
            refine lv_icmp_ne (tgt := 364) hx hb dL_arePairs_342 (by decide) (fun c89 => ?_) (fun c89 => ?_)
            · have h := h.2 c89
              refine lv_iconst (v := (-1 : Int32)) hx hb dL_arePairs_364 (by decide) ?_
              refine lv_iand hx hb dL_arePairs_365 ?_
              refine lv_topi (fun i90 ei90 => ?_)
              have h := h i90 ei90
              refine lv_istore (lv' := [(17, .int i90), (23, .int i52), (22, .int i43), (21, .int i18), (20, .int i44), (19, .int i45), (18, .int i53), (16, .int i16), (12, .ref a7), (11, .ref a5), (10, .int i4), (9, .int i3), (0, .ref v0), (2, .ref v2), (3, .ref v3), (4, .ref v4), (5, .ref v5), (6, .ref v6)]) hx hb dL_arePairs_366 hl (by decide) rfl (fun ls hl => ?_)
              exact kc368 i90 _ h (lv_sub hl [1, 2, 3, 4, 5, 6, 0, 7, 8, 9, 10, 11, 12, 13, 14, 15, 16, 17] rfl)
            · have h := h.1 c89
              refine lv_aload hx hb dL_arePairs_345 (lv_at hl 9 rfl) ?_
              refine lv_iload hx hb dL_arePairs_347 (lv_at hl 0 rfl) ?_
              obtain ⟨n91, f92, i94, e93, e93', exi94, h⟩ := h
              refine r_iald C hO e93 e93' dL_arePairs_349 ?_
              rw [exi94]
              refine lv_iload hx hb dL_arePairs_350 (lv_at hl 0 rfl) ?_
              refine lv_icmp_eq (tgt := 364) hx hb dL_arePairs_352 (by decide) (fun c95 => ?_) (fun c95 => ?_)
              · have h := h.1 c95
                refine lv_iconst (v := (-1 : Int32)) hx hb dL_arePairs_364 (by decide) ?_
                refine lv_iand hx hb dL_arePairs_365 ?_
                refine lv_topi (fun i96 ei96 => ?_)
                have h := h i96 ei96
                refine lv_istore (lv' := [(17, .int i96), (23, .int i52), (22, .int i43), (21, .int i18), (20, .int i44), (19, .int i45), (18, .int i53), (16, .int i16), (12, .ref a7), (11, .ref a5), (10, .int i4), (9, .int i3), (0, .ref v0), (2, .ref v2), (3, .ref v3), (4, .ref v4), (5, .ref v5), (6, .ref v6)]) hx hb dL_arePairs_366 hl (by decide) rfl (fun ls hl => ?_)
                exact kc368 i96 _ h (lv_sub hl [1, 2, 3, 4, 5, 6, 0, 7, 8, 9, 10, 11, 12, 13, 14, 15, 16, 17] rfl)
              · have h := h.2 c95
                refine lv_iconst (v := (nI 1)) hx hb dL_arePairs_355 (by decide) ?_
                refine lv_iload hx hb dL_arePairs_356 (lv_at hl 0 rfl) ?_
                refine lv_ishl hx hb dL_arePairs_358 ?_
                refine lv_iconst (v := (-1 : Int32)) hx hb dL_arePairs_359 (by decide) ?_
                refine lv_ixor hx hb dL_arePairs_360 ?_
                refine lv_goto (tgt := 365) hx hb dL_arePairs_361 (by decide) ?_
                refine lv_iand hx hb dL_arePairs_365 ?_
                refine lv_topi (fun i97 ei97 => ?_)
                have h := h i97 ei97
                refine lv_istore (lv' := [(17, .int i97), (23, .int i52), (22, .int i43), (21, .int i18), (20, .int i44), (19, .int i45), (18, .int i53), (16, .int i16), (12, .ref a7), (11, .ref a5), (10, .int i4), (9, .int i3), (0, .ref v0), (2, .ref v2), (3, .ref v3), (4, .ref v4), (5, .ref v5), (6, .ref v6)]) hx hb dL_arePairs_366 hl (by decide) rfl (fun ls hl => ?_)
                exact kc368 i97 _ h (lv_sub hl [1, 2, 3, 4, 5, 6, 0, 7, 8, 9, 10, 11, 12, 13, 14, 15, 16, 17] rfl)
    refine lv_aload_n hx hb dL_arePairs_185 rfl (lv_at hl 10 rfl) ?_
    refine lv_iload hx hb dL_arePairs_186 (lv_at hl 9 rfl) ?_
    refine lv_iload hx hb dL_arePairs_188 (lv_at hl 8 rfl) ?_
    refine lv_iconst (v := (nI 0)) hx hb dL_arePairs_190 (by decide) ?_
    obtain ⟨fs103, e102, h⟩ := h
    refine cV_ri (As := [.int i1, .int i2, .int (nI 0)]) (rest := []) (n := 3) C hO (fun L => c_X7_pair l D Y L S10 H.size v0 i1 i2 (nI 0) _ h) 5 rfl e102 (cwV 3 hts gL_arePairs_X7_pair rfl rfl rfl ⟨rfl, hdS_X7_pair⟩ ⟨Nat.le_of_ble_eq_true rfl, Nat.le_of_ble_eq_true rfl⟩) rfl hl.1 rfl (Nat.le_of_ble_eq_true rfl) dL_arePairs_191 ⟨(Nat.le_of_ble_eq_true rfl), (Nat.le_of_ble_eq_true rfl)⟩ (fun i101 h => ?_)
    refine lv_iload hx hb dL_arePairs_194 (lv_at hl 3 rfl) ?_
    refine cut_P (nL := 24) (fun (q : Unit) => wpk_L_arePairs_207 v0 v2 v3 v4 v5 v6 i1 i2 i3 i4 a5 a7 S10 i12 i13 i14 Post ) (fun q => [(15, .int i12), (14, .int i13), (13, .int i14), (12, .ref a7), (11, .ref a5), (10, .int i4), (9, .int i3), (8, .int i2), (7, .int i1), (0, .ref v0), (2, .ref v2), (3, .ref v3), (4, .ref v4), (5, .ref v5), (6, .ref v6)]) 207 ?_ (fun kc207 => ?_)
    · intro q ls h hl
      have h : wpk_L_arePairs_207 v0 v2 v3 v4 v5 v6 i1 i2 i3 i4 a5 a7 S10 i12 i13 i14 Post  := h
      have hl : lv_has ls 24 [(15, .int i12), (14, .int i13), (13, .int i14), (12, .ref a7), (11, .ref a5), (10, .int i4), (9, .int i3), (8, .int i2), (7, .int i1), (0, .ref v0), (2, .ref v2), (3, .ref v3), (4, .ref v4), (5, .ref v5), (6, .ref v6)] := hl
      unfold wpk_L_arePairs_207 at h
      refine lv_aload_n hx hb dL_arePairs_207 rfl (lv_at hl 9 rfl) ?_
      refine lv_iload hx hb dL_arePairs_208 (lv_at hl 8 rfl) ?_
      refine lv_iload hx hb dL_arePairs_210 (lv_at hl 7 rfl) ?_
      refine lv_iconst (v := (nI 1)) hx hb dL_arePairs_212 (by decide) ?_
      obtain ⟨fs106, e105, h⟩ := h
      refine cV_ri (As := [.int i1, .int i2, .int (nI 1)]) (rest := []) (n := 3) C hO (fun L => c_X7_pair l D Y L S10 H.size v0 i1 i2 (nI 1) _ h) 5 rfl e105 (cwV 3 hts gL_arePairs_X7_pair rfl rfl rfl ⟨rfl, hdS_X7_pair⟩ ⟨Nat.le_of_ble_eq_true rfl, Nat.le_of_ble_eq_true rfl⟩) rfl hl.1 rfl (Nat.le_of_ble_eq_true rfl) dL_arePairs_213 ⟨(Nat.le_of_ble_eq_true rfl), (Nat.le_of_ble_eq_true rfl)⟩ (fun i104 h => ?_)
      refine lv_iload hx hb dL_arePairs_216 (lv_at hl 1 rfl) ?_
      refine cut_P (nL := 24) (fun (q : Unit) => wpk_L_arePairs_229 v0 v2 v3 v4 v5 v6 i1 i2 i3 i4 a5 a7 S10 i12 i14 Post ) (fun q => [(15, .int i12), (13, .int i14), (12, .ref a7), (11, .ref a5), (10, .int i4), (9, .int i3), (8, .int i2), (7, .int i1), (0, .ref v0), (2, .ref v2), (3, .ref v3), (4, .ref v4), (5, .ref v5), (6, .ref v6)]) 229 ?_ (fun kc229 => ?_)
      · intro q ls h hl
        have h : wpk_L_arePairs_229 v0 v2 v3 v4 v5 v6 i1 i2 i3 i4 a5 a7 S10 i12 i14 Post  := h
        have hl : lv_has ls 24 [(15, .int i12), (13, .int i14), (12, .ref a7), (11, .ref a5), (10, .int i4), (9, .int i3), (8, .int i2), (7, .int i1), (0, .ref v0), (2, .ref v2), (3, .ref v3), (4, .ref v4), (5, .ref v5), (6, .ref v6)] := hl
        unfold wpk_L_arePairs_229 at h
        refine lv_aload_n hx hb dL_arePairs_229 rfl (lv_at hl 8 rfl) ?_
        refine lv_iload hx hb dL_arePairs_230 (lv_at hl 7 rfl) ?_
        refine lv_iload hx hb dL_arePairs_232 (lv_at hl 6 rfl) ?_
        refine lv_iconst (v := (nI 2)) hx hb dL_arePairs_234 (by decide) ?_
        obtain ⟨fs109, e108, h⟩ := h
        refine cV_ri (As := [.int i1, .int i2, .int (nI 2)]) (rest := []) (n := 3) C hO (fun L => c_X7_pair l D Y L S10 H.size v0 i1 i2 (nI 2) _ h) 5 rfl e108 (cwV 3 hts gL_arePairs_X7_pair rfl rfl rfl ⟨rfl, hdS_X7_pair⟩ ⟨Nat.le_of_ble_eq_true rfl, Nat.le_of_ble_eq_true rfl⟩) rfl hl.1 rfl (Nat.le_of_ble_eq_true rfl) dL_arePairs_235 ⟨(Nat.le_of_ble_eq_true rfl), (Nat.le_of_ble_eq_true rfl)⟩ (fun i107 h => ?_)
        refine lv_iload hx hb dL_arePairs_238 (lv_at hl 0 rfl) ?_
        refine cut_P (nL := 24) (fun (q : Unit) => wpk_L_arePairs_251 v0 v2 v3 v4 v5 v6 i1 i2 i3 i4 a5 a7 S10 i14 Post ) (fun q => [(13, .int i14), (12, .ref a7), (11, .ref a5), (10, .int i4), (9, .int i3), (8, .int i2), (7, .int i1), (0, .ref v0), (2, .ref v2), (3, .ref v3), (4, .ref v4), (5, .ref v5), (6, .ref v6)]) 251 ?_ (fun kc251 => ?_)
        · intro q ls h hl
          have h : wpk_L_arePairs_251 v0 v2 v3 v4 v5 v6 i1 i2 i3 i4 a5 a7 S10 i14 Post  := h
          have hl : lv_has ls 24 [(13, .int i14), (12, .ref a7), (11, .ref a5), (10, .int i4), (9, .int i3), (8, .int i2), (7, .int i1), (0, .ref v0), (2, .ref v2), (3, .ref v3), (4, .ref v4), (5, .ref v5), (6, .ref v6)] := hl
          unfold wpk_L_arePairs_251 at h
          refine lv_aload_n hx hb dL_arePairs_251 rfl (lv_at hl 7 rfl) ?_
          refine lv_iload hx hb dL_arePairs_252 (lv_at hl 6 rfl) ?_
          refine lv_iload hx hb dL_arePairs_254 (lv_at hl 5 rfl) ?_
          refine lv_iconst (v := (nI 3)) hx hb dL_arePairs_256 (by decide) ?_
          obtain ⟨fs112, e111, h⟩ := h
          refine cV_ri (As := [.int i1, .int i2, .int (nI 3)]) (rest := []) (n := 3) C hO (fun L => c_X7_pair l D Y L S10 H.size v0 i1 i2 (nI 3) _ h) 5 rfl e111 (cwV 3 hts gL_arePairs_X7_pair rfl rfl rfl ⟨rfl, hdS_X7_pair⟩ ⟨Nat.le_of_ble_eq_true rfl, Nat.le_of_ble_eq_true rfl⟩) rfl hl.1 rfl (Nat.le_of_ble_eq_true rfl) dL_arePairs_257 ⟨(Nat.le_of_ble_eq_true rfl), (Nat.le_of_ble_eq_true rfl)⟩ (fun i110 h => ?_)
          refine lv_iload hx hb dL_arePairs_260 (lv_at hl 0 rfl) ?_
          refine lv_icmp_ne (tgt := 269) hx hb dL_arePairs_262 (by decide) (fun c113 => ?_) (fun c113 => ?_)
          · have h := h.2 c113
            refine lv_iconst (v := (nI 0)) hx hb dL_arePairs_269 (by decide) ?_
            refine lv_istore (lv' := [(16, .int (nI 0)), (13, .int i14), (12, .ref a7), (11, .ref a5), (10, .int i4), (9, .int i3), (8, .int i2), (7, .int i1), (0, .ref v0), (2, .ref v2), (3, .ref v3), (4, .ref v4), (5, .ref v5), (6, .ref v6)]) hx hb dL_arePairs_270 hl (by decide) rfl (fun ls hl => ?_)
            exact kc272 (nI 0) _ h (lv_sub hl [0, 2, 3, 4, 5, 8, 9, 10, 11, 12, 13] rfl)
          · have h := h.1 c113
            refine lv_iconst (v := (nI 1)) hx hb dL_arePairs_265 (by decide) ?_
            refine lv_goto (tgt := 270) hx hb dL_arePairs_266 (by decide) ?_
            refine lv_istore (lv' := [(16, .int (nI 1)), (13, .int i14), (12, .ref a7), (11, .ref a5), (10, .int i4), (9, .int i3), (8, .int i2), (7, .int i1), (0, .ref v0), (2, .ref v2), (3, .ref v3), (4, .ref v4), (5, .ref v5), (6, .ref v6)]) hx hb dL_arePairs_270 hl (by decide) rfl (fun ls hl => ?_)
            exact kc272 (nI 1) _ h (lv_sub hl [0, 2, 3, 4, 5, 8, 9, 10, 11, 12, 13] rfl)
        refine lv_if_eq (tgt := 247) hx hb dL_arePairs_240 (by decide) (fun c114 => ?_) (fun c114 => ?_)
        · have h := h.1 c114
          refine lv_iconst (v := (nI 0)) hx hb dL_arePairs_247 (by decide) ?_
          refine lv_icmp_ne (tgt := 269) hx hb dL_arePairs_248 (by decide) (fun c115 => ?_) (fun c115 => ?_)
          · have h := h.2 c115
            refine lv_iconst (v := (nI 0)) hx hb dL_arePairs_269 (by decide) ?_
            refine lv_istore (lv' := [(16, .int (nI 0)), (15, .int i12), (13, .int i14), (12, .ref a7), (11, .ref a5), (10, .int i4), (9, .int i3), (8, .int i2), (7, .int i1), (0, .ref v0), (2, .ref v2), (3, .ref v3), (4, .ref v4), (5, .ref v5), (6, .ref v6)]) hx hb dL_arePairs_270 hl (by decide) rfl (fun ls hl => ?_)
            exact kc272 (nI 0) _ h (lv_sub hl [0, 3, 4, 5, 6, 9, 10, 11, 12, 13, 14] rfl)
          · have h := h.1 c115
            exact kc251 () _ h (lv_sub hl [1, 2, 3, 4, 5, 6, 7, 8, 9, 10, 11, 12, 13] rfl)
        · have h := h.2 c114
          refine lv_iconst (v := (nI 1)) hx hb dL_arePairs_243 (by decide) ?_
          refine lv_goto (tgt := 248) hx hb dL_arePairs_244 (by decide) ?_
          refine lv_icmp_ne (tgt := 269) hx hb dL_arePairs_248 (by decide) (fun c116 => ?_) (fun c116 => ?_)
          · have h := h.2 c116
            refine lv_iconst (v := (nI 0)) hx hb dL_arePairs_269 (by decide) ?_
            refine lv_istore (lv' := [(16, .int (nI 0)), (15, .int i12), (13, .int i14), (12, .ref a7), (11, .ref a5), (10, .int i4), (9, .int i3), (8, .int i2), (7, .int i1), (0, .ref v0), (2, .ref v2), (3, .ref v3), (4, .ref v4), (5, .ref v5), (6, .ref v6)]) hx hb dL_arePairs_270 hl (by decide) rfl (fun ls hl => ?_)
            exact kc272 (nI 0) _ h (lv_sub hl [0, 3, 4, 5, 6, 9, 10, 11, 12, 13, 14] rfl)
          · have h := h.1 c116
            exact kc251 () _ h (lv_sub hl [1, 2, 3, 4, 5, 6, 7, 8, 9, 10, 11, 12, 13] rfl)
      refine lv_if_eq (tgt := 225) hx hb dL_arePairs_218 (by decide) (fun c117 => ?_) (fun c117 => ?_)
      · have h := h.1 c117
        refine lv_iconst (v := (nI 0)) hx hb dL_arePairs_225 (by decide) ?_
        refine lv_icmp_ne (tgt := 269) hx hb dL_arePairs_226 (by decide) (fun c118 => ?_) (fun c118 => ?_)
        · have h := h.2 c118
          refine lv_iconst (v := (nI 0)) hx hb dL_arePairs_269 (by decide) ?_
          refine lv_istore (lv' := [(16, .int (nI 0)), (15, .int i12), (14, .int i13), (13, .int i14), (12, .ref a7), (11, .ref a5), (10, .int i4), (9, .int i3), (8, .int i2), (7, .int i1), (0, .ref v0), (2, .ref v2), (3, .ref v3), (4, .ref v4), (5, .ref v5), (6, .ref v6)]) hx hb dL_arePairs_270 hl (by decide) rfl (fun ls hl => ?_)
          exact kc272 (nI 0) _ h (lv_sub hl [0, 4, 5, 6, 7, 10, 11, 12, 13, 14, 15] rfl)
        · have h := h.1 c118
          exact kc229 () _ h (lv_sub hl [0, 2, 3, 4, 5, 6, 7, 8, 9, 10, 11, 12, 13, 14] rfl)
      · have h := h.2 c117
        refine lv_iconst (v := (nI 1)) hx hb dL_arePairs_221 (by decide) ?_
        refine lv_goto (tgt := 226) hx hb dL_arePairs_222 (by decide) ?_
        refine lv_icmp_ne (tgt := 269) hx hb dL_arePairs_226 (by decide) (fun c119 => ?_) (fun c119 => ?_)
        · have h := h.2 c119
          refine lv_iconst (v := (nI 0)) hx hb dL_arePairs_269 (by decide) ?_
          refine lv_istore (lv' := [(16, .int (nI 0)), (15, .int i12), (14, .int i13), (13, .int i14), (12, .ref a7), (11, .ref a5), (10, .int i4), (9, .int i3), (8, .int i2), (7, .int i1), (0, .ref v0), (2, .ref v2), (3, .ref v3), (4, .ref v4), (5, .ref v5), (6, .ref v6)]) hx hb dL_arePairs_270 hl (by decide) rfl (fun ls hl => ?_)
          exact kc272 (nI 0) _ h (lv_sub hl [0, 4, 5, 6, 7, 10, 11, 12, 13, 14, 15] rfl)
        · have h := h.1 c119
          exact kc229 () _ h (lv_sub hl [0, 2, 3, 4, 5, 6, 7, 8, 9, 10, 11, 12, 13, 14] rfl)
    refine lv_if_ne (tgt := 203) hx hb dL_arePairs_196 (by decide) (fun c120 => ?_) (fun c120 => ?_)
    · have h := h.2 c120
      refine lv_iconst (v := (nI 0)) hx hb dL_arePairs_203 (by decide) ?_
      refine lv_icmp_ne (tgt := 269) hx hb dL_arePairs_204 (by decide) (fun c121 => ?_) (fun c121 => ?_)
      · have h := h.2 c121
        refine lv_iconst (v := (nI 0)) hx hb dL_arePairs_269 (by decide) ?_
        refine lv_istore (lv' := [(16, .int (nI 0)), (15, .int i12), (14, .int i13), (13, .int i14), (12, .ref a7), (11, .ref a5), (10, .int i4), (9, .int i3), (8, .int i2), (7, .int i1), (0, .ref v0), (2, .ref v2), (3, .ref v3), (4, .ref v4), (5, .ref v5), (6, .ref v6)]) hx hb dL_arePairs_270 hl (by decide) rfl (fun ls hl => ?_)
        exact kc272 (nI 0) _ h (lv_sub hl [0, 4, 5, 6, 7, 10, 11, 12, 13, 14, 15] rfl)
      · have h := h.1 c121
        exact kc207 () _ h (lv_sub hl [1, 2, 3, 4, 5, 6, 7, 8, 9, 10, 11, 12, 13, 14, 15] rfl)
    · have h := h.1 c120
      refine lv_iconst (v := (nI 1)) hx hb dL_arePairs_199 (by decide) ?_
      refine lv_goto (tgt := 204) hx hb dL_arePairs_200 (by decide) ?_
      refine lv_icmp_ne (tgt := 269) hx hb dL_arePairs_204 (by decide) (fun c122 => ?_) (fun c122 => ?_)
      · have h := h.2 c122
        refine lv_iconst (v := (nI 0)) hx hb dL_arePairs_269 (by decide) ?_
        refine lv_istore (lv' := [(16, .int (nI 0)), (15, .int i12), (14, .int i13), (13, .int i14), (12, .ref a7), (11, .ref a5), (10, .int i4), (9, .int i3), (8, .int i2), (7, .int i1), (0, .ref v0), (2, .ref v2), (3, .ref v3), (4, .ref v4), (5, .ref v5), (6, .ref v6)]) hx hb dL_arePairs_270 hl (by decide) rfl (fun ls hl => ?_)
        exact kc272 (nI 0) _ h (lv_sub hl [0, 4, 5, 6, 7, 10, 11, 12, 13, 14, 15] rfl)
      · have h := h.1 c122
        exact kc207 () _ h (lv_sub hl [1, 2, 3, 4, 5, 6, 7, 8, 9, 10, 11, 12, 13, 14, 15] rfl)
  · have h := h.2 c15
    refine lv_iload hx hb dL_arePairs_97 (lv_at hl 3 rfl) ?_
    refine lv_aload hx hb dL_arePairs_99 (lv_at hl 5 rfl) ?_
    refine lv_iload hx hb dL_arePairs_101 (lv_at hl 0 rfl) ?_
    obtain ⟨n123, f124, i126, e125, e125', exi126, h⟩ := h
    refine r_iald C hO e125 e125' dL_arePairs_103 ?_
    rw [exi126]
    refine lv_aload hx hb dL_arePairs_104 (lv_at hl 4 rfl) ?_
    refine lv_iload hx hb dL_arePairs_106 (lv_at hl 0 rfl) ?_
    obtain ⟨n127, f128, i130, e129, e129', exi130, h⟩ := h
    refine r_iald C hO e129 e129' dL_arePairs_108 ?_
    rw [exi130]
    refine cut_P (nL := 24) (fun (q : Int32) => wpk_L_arePairs_123 a5 a7 S10 i11 i12 i13 K90 q) (fun q => [(16, .int i11), (15, .int i12), (14, .int i13), (13, .int q), (12, .ref a7), (11, .ref a5), (10, .int i4), (9, .int i3), (8, .int i2), (7, .int i1), (0, .ref v0), (2, .ref v2), (3, .ref v3), (4, .ref v4), (5, .ref v5), (6, .ref v6)]) 123 ?_ (fun kc123 => ?_)
    · intro q ls h hl
      obtain ⟨i131, rfl⟩ : ∃ z, z = q := ⟨q, rfl⟩
      have h : wpk_L_arePairs_123 a5 a7 S10 i11 i12 i13 K90 i131 := h
      have hl : lv_has ls 24 [(16, .int i11), (15, .int i12), (14, .int i13), (13, .int i131), (12, .ref a7), (11, .ref a5), (10, .int i4), (9, .int i3), (8, .int i2), (7, .int i1), (0, .ref v0), (2, .ref v2), (3, .ref v3), (4, .ref v4), (5, .ref v5), (6, .ref v6)] := hl
      unfold wpk_L_arePairs_123 at h
      refine lv_iload hx hb dL_arePairs_123 (lv_at hl 2 rfl) ?_
      refine cut_P (nL := 24) (fun (q : Int32) => wpk_L_arePairs_154 a5 a7 S10 i11 i12 i131 K90 q) (fun q => [(16, .int i11), (15, .int i12), (14, .int q), (13, .int i131), (12, .ref a7), (11, .ref a5), (10, .int i4), (9, .int i3), (8, .int i2), (7, .int i1), (0, .ref v0), (2, .ref v2), (3, .ref v3), (4, .ref v4), (5, .ref v5), (6, .ref v6)]) 154 ?_ (fun kc154 => ?_)
      · intro q ls h hl
        obtain ⟨i132, rfl⟩ : ∃ z, z = q := ⟨q, rfl⟩
        have h : wpk_L_arePairs_154 a5 a7 S10 i11 i12 i131 K90 i132 := h
        have hl : lv_has ls 24 [(16, .int i11), (15, .int i12), (14, .int i132), (13, .int i131), (12, .ref a7), (11, .ref a5), (10, .int i4), (9, .int i3), (8, .int i2), (7, .int i1), (0, .ref v0), (2, .ref v2), (3, .ref v3), (4, .ref v4), (5, .ref v5), (6, .ref v6)] := hl
        unfold wpk_L_arePairs_154 at h
        refine lv_iload hx hb dL_arePairs_154 (lv_at hl 1 rfl) ?_
        refine cut_P (nL := 24) (fun (q : Int32) => wpk_L_arePairs_179 i11 i131 i132 K90 q) (fun q => [(16, .int i11), (15, .int q), (14, .int i132), (13, .int i131), (12, .ref a7), (11, .ref a5), (10, .int i4), (9, .int i3), (8, .int i2), (7, .int i1), (0, .ref v0), (2, .ref v2), (3, .ref v3), (4, .ref v4), (5, .ref v5), (6, .ref v6)]) 179 ?_ (fun kc179 => ?_)
        · intro q ls h hl
          obtain ⟨i133, rfl⟩ : ∃ z, z = q := ⟨q, rfl⟩
          have h : wpk_L_arePairs_179 i11 i131 i132 K90 i133 := h
          have hl : lv_has ls 24 [(16, .int i11), (15, .int i133), (14, .int i132), (13, .int i131), (12, .ref a7), (11, .ref a5), (10, .int i4), (9, .int i3), (8, .int i2), (7, .int i1), (0, .ref v0), (2, .ref v2), (3, .ref v3), (4, .ref v4), (5, .ref v5), (6, .ref v6)] := hl
          unfold wpk_L_arePairs_179 at h
          obtain ⟨i134, ei134⟩ : ∃ y : Int32, y = i11 + (nI 1) := ⟨_, rfl⟩
          have h := h i134 ei134
          refine lv_iinc (v := i134) (lv' := [(16, .int i134), (15, .int i133), (14, .int i132), (13, .int i131), (12, .ref a7), (11, .ref a5), (10, .int i4), (9, .int i3), (8, .int i2), (7, .int i1), (0, .ref v0), (2, .ref v2), (3, .ref v3), (4, .ref v4), (5, .ref v5), (6, .ref v6)]) hx hb dL_arePairs_179 hl (k := 0) rfl (by rw [ei134]; rfl) (by decide) rfl (fun ls hl => ?_)
          refine lv_goto (tgt := 90) hx hb dL_arePairs_182 (by decide) ?_
          exact ih90 (i134, i133, i132, i131) _ h (lv_sub hl [0, 1, 2, 3, 4, 5, 6, 7, 8, 9, 10, 11, 12, 13, 14, 15] rfl)
        refine lv_if_eq (tgt := 176) hx hb dL_arePairs_156 (by decide) (fun c135 => ?_) (fun c135 => ?_)
        · have h := h.1 c135
          refine lv_iconst (v := (nI 0)) hx hb dL_arePairs_176 (by decide) ?_
          refine lv_istore (lv' := [(15, .int (nI 0)), (16, .int i11), (14, .int i132), (13, .int i131), (12, .ref a7), (11, .ref a5), (10, .int i4), (9, .int i3), (8, .int i2), (7, .int i1), (0, .ref v0), (2, .ref v2), (3, .ref v3), (4, .ref v4), (5, .ref v5), (6, .ref v6)]) hx hb dL_arePairs_177 hl (by decide) rfl (fun ls hl => ?_)
          exact kc179 (nI 0) _ h (lv_sub hl [1, 0, 2, 3, 4, 5, 6, 7, 8, 9, 10, 11, 12, 13, 14, 15] rfl)
        · have h := h.2 c135
          refine lv_aload hx hb dL_arePairs_159 (lv_at hl 4 rfl) ?_
          refine lv_aload hx hb dL_arePairs_161 (lv_at hl 5 rfl) ?_
          refine lv_iload hx hb dL_arePairs_163 (lv_at hl 0 rfl) ?_
          obtain ⟨n136, f137, i139, e138, e138', exi139, h⟩ := h
          refine r_iald C hO e138 e138' dL_arePairs_165 ?_
          rw [exi139]
          obtain ⟨n140, f141, i143, e142, e142', exi143, h⟩ := h
          refine r_iald C hO e142 e142' dL_arePairs_166 ?_
          rw [exi143]
          refine lv_iload hx hb dL_arePairs_167 (lv_at hl 0 rfl) ?_
          refine lv_icmp_ne (tgt := 176) hx hb dL_arePairs_169 (by decide) (fun c144 => ?_) (fun c144 => ?_)
          · have h := h.2 c144
            refine lv_iconst (v := (nI 0)) hx hb dL_arePairs_176 (by decide) ?_
            refine lv_istore (lv' := [(15, .int (nI 0)), (16, .int i11), (14, .int i132), (13, .int i131), (12, .ref a7), (11, .ref a5), (10, .int i4), (9, .int i3), (8, .int i2), (7, .int i1), (0, .ref v0), (2, .ref v2), (3, .ref v3), (4, .ref v4), (5, .ref v5), (6, .ref v6)]) hx hb dL_arePairs_177 hl (by decide) rfl (fun ls hl => ?_)
            exact kc179 (nI 0) _ h (lv_sub hl [1, 0, 2, 3, 4, 5, 6, 7, 8, 9, 10, 11, 12, 13, 14, 15] rfl)
          · have h := h.1 c144
            refine lv_iconst (v := (nI 1)) hx hb dL_arePairs_172 (by decide) ?_
            refine lv_goto (tgt := 177) hx hb dL_arePairs_173 (by decide) ?_
            refine lv_istore (lv' := [(15, .int (nI 1)), (16, .int i11), (14, .int i132), (13, .int i131), (12, .ref a7), (11, .ref a5), (10, .int i4), (9, .int i3), (8, .int i2), (7, .int i1), (0, .ref v0), (2, .ref v2), (3, .ref v3), (4, .ref v4), (5, .ref v5), (6, .ref v6)]) hx hb dL_arePairs_177 hl (by decide) rfl (fun ls hl => ?_)
            exact kc179 (nI 1) _ h (lv_sub hl [1, 0, 2, 3, 4, 5, 6, 7, 8, 9, 10, 11, 12, 13, 14, 15] rfl)
      refine lv_if_eq (tgt := 151) hx hb dL_arePairs_125 (by decide) (fun c145 => ?_) (fun c145 => ?_)
      · have h := h.1 c145
        refine lv_iconst (v := (nI 0)) hx hb dL_arePairs_151 (by decide) ?_
        refine lv_istore (lv' := [(14, .int (nI 0)), (16, .int i11), (15, .int i12), (13, .int i131), (12, .ref a7), (11, .ref a5), (10, .int i4), (9, .int i3), (8, .int i2), (7, .int i1), (0, .ref v0), (2, .ref v2), (3, .ref v3), (4, .ref v4), (5, .ref v5), (6, .ref v6)]) hx hb dL_arePairs_152 hl (by decide) rfl (fun ls hl => ?_)
        exact kc154 (nI 0) _ h (lv_sub hl [1, 2, 0, 3, 4, 5, 6, 7, 8, 9, 10, 11, 12, 13, 14, 15] rfl)
      · have h := h.2 c145
        refine lv_aload hx hb dL_arePairs_128 (lv_at hl 5 rfl) ?_
        refine lv_aload hx hb dL_arePairs_130 (lv_at hl 4 rfl) ?_
        refine lv_iload hx hb dL_arePairs_132 (lv_at hl 0 rfl) ?_
        obtain ⟨n146, f147, i149, e148, e148', exi149, h⟩ := h
        refine r_iald C hO e148 e148' dL_arePairs_134 ?_
        rw [exi149]
        obtain ⟨n150, f151, i153, e152, e152', exi153, h⟩ := h
        refine r_iald C hO e152 e152' dL_arePairs_135 ?_
        rw [exi153]
        refine lv_aload hx hb dL_arePairs_136 (lv_at hl 4 rfl) ?_
        refine lv_aload hx hb dL_arePairs_138 (lv_at hl 5 rfl) ?_
        refine lv_iload hx hb dL_arePairs_140 (lv_at hl 0 rfl) ?_
        obtain ⟨n154, f155, i157, e156, e156', exi157, h⟩ := h
        refine r_iald C hO e156 e156' dL_arePairs_142 ?_
        rw [exi157]
        obtain ⟨n158, f159, i161, e160, e160', exi161, h⟩ := h
        refine r_iald C hO e160 e160' dL_arePairs_143 ?_
        rw [exi161]
        refine lv_icmp_ne (tgt := 151) hx hb dL_arePairs_144 (by decide) (fun c162 => ?_) (fun c162 => ?_)
        · have h := h.2 c162
          refine lv_iconst (v := (nI 0)) hx hb dL_arePairs_151 (by decide) ?_
          refine lv_istore (lv' := [(14, .int (nI 0)), (16, .int i11), (15, .int i12), (13, .int i131), (12, .ref a7), (11, .ref a5), (10, .int i4), (9, .int i3), (8, .int i2), (7, .int i1), (0, .ref v0), (2, .ref v2), (3, .ref v3), (4, .ref v4), (5, .ref v5), (6, .ref v6)]) hx hb dL_arePairs_152 hl (by decide) rfl (fun ls hl => ?_)
          exact kc154 (nI 0) _ h (lv_sub hl [1, 2, 0, 3, 4, 5, 6, 7, 8, 9, 10, 11, 12, 13, 14, 15] rfl)
        · have h := h.1 c162
          refine lv_iconst (v := (nI 1)) hx hb dL_arePairs_147 (by decide) ?_
          refine lv_goto (tgt := 152) hx hb dL_arePairs_148 (by decide) ?_
          refine lv_istore (lv' := [(14, .int (nI 1)), (16, .int i11), (15, .int i12), (13, .int i131), (12, .ref a7), (11, .ref a5), (10, .int i4), (9, .int i3), (8, .int i2), (7, .int i1), (0, .ref v0), (2, .ref v2), (3, .ref v3), (4, .ref v4), (5, .ref v5), (6, .ref v6)]) hx hb dL_arePairs_152 hl (by decide) rfl (fun ls hl => ?_)
          exact kc154 (nI 1) _ h (lv_sub hl [1, 2, 0, 3, 4, 5, 6, 7, 8, 9, 10, 11, 12, 13, 14, 15] rfl)
    refine lv_icmp_ne (tgt := 116) hx hb dL_arePairs_109 (by decide) (fun c163 => ?_) (fun c163 => ?_)
    · have h := h.2 c163
      refine lv_iconst (v := (nI 1)) hx hb dL_arePairs_116 (by decide) ?_
      refine lv_iload hx hb dL_arePairs_117 (lv_at hl 0 rfl) ?_
      refine lv_ishl hx hb dL_arePairs_119 ?_
      refine lv_ior hx hb dL_arePairs_120 ?_
      refine lv_topi (fun i164 ei164 => ?_)
      have h := h i164 ei164
      refine lv_istore (lv' := [(13, .int i164), (16, .int i11), (15, .int i12), (14, .int i13), (12, .ref a7), (11, .ref a5), (10, .int i4), (9, .int i3), (8, .int i2), (7, .int i1), (0, .ref v0), (2, .ref v2), (3, .ref v3), (4, .ref v4), (5, .ref v5), (6, .ref v6)]) hx hb dL_arePairs_121 hl (by decide) rfl (fun ls hl => ?_)
      exact kc123 i164 _ h (lv_sub hl [1, 2, 3, 0, 4, 5, 6, 7, 8, 9, 10, 11, 12, 13, 14, 15] rfl)
    · have h := h.1 c163
      refine lv_iconst (v := (nI 0)) hx hb dL_arePairs_112 (by decide) ?_
      refine lv_goto (tgt := 120) hx hb dL_arePairs_113 (by decide) ?_
      refine lv_ior hx hb dL_arePairs_120 ?_
      refine lv_topi (fun i165 ei165 => ?_)
      have h := h i165 ei165
      refine lv_istore (lv' := [(13, .int i165), (16, .int i11), (15, .int i12), (14, .int i13), (12, .ref a7), (11, .ref a5), (10, .int i4), (9, .int i3), (8, .int i2), (7, .int i1), (0, .ref v0), (2, .ref v2), (3, .ref v3), (4, .ref v4), (5, .ref v5), (6, .ref v6)]) hx hb dL_arePairs_121 hl (by decide) rfl (fun ls hl => ?_)
      exact kc123 i165 _ h (lv_sub hl [1, 2, 3, 0, 4, 5, 6, 7, 8, 9, 10, 11, 12, 13, 14, 15] rfl)
theorem hdS_L_isSo : yL_isSo.cls ≠ "java/lang/invoke/MethodHandle" ∧ yL_isSo.cls ≠ "java/lang/invoke/VarHandle" ∧ (parseMethodDescriptor yL_isSo.desc).map (fun d => d.parameters.length) = some 8 := by decide +kernel
set_option maxHeartbeats 4000000 in
set_option maxRecDepth 100000 in
theorem c_L_isSo (l : Launch) (D : va_G) (Y : Nat → ClassId) (L : List Nat) (S : PS) (sz : Nat) (v0 : Nat) (v1 : Int32) (v2 : Nat) (v3 : Nat) (v4 : Nat) (v5 : Nat) (v6 : Nat) (v7 : Nat) (Post : Int32 → PS → Prop) (h : wp_L_isSo S v0 v1 v2 v3 v4 v5 v6 v7 Post) : Met l yL_isSo wsL_isSo ({ frames := 7, cells := 64, slots := 768, locals := 186 }) (va_Pc [.ref v0, .int v1, .ref v2, .ref v3, .ref v4, .ref v5, .ref v6, .ref v7] (PrO D Y L S sz)) (va_Qi Post (QtO D Y (fR L sz)) (fR L sz)) 64 768 (fR L sz) := by
  refine Met.ofW (cc := cL_isSo) (maxL := 13) (ret := (some .boolean)) (by decide) rfl ?_
  intro p e s m args below meth c s₁ B hml hv
  obtain ⟨rfl, hsz, hJ, hP, hK, hD0, hZ⟩ := hv
  have hx := B.exec
  have hb := B.bytes
  have hr := B.returns
  have hts := atoms_spec (ws := wsL_isSo) B.pre
  have hown : s.vm.findClass RL = some m.cls := findClass_of_methodNamed B.named
  have hlocks := B.notSynchronized
  have CF : CallFix p m c cL_isSo 13 s ([.ref v0, .int v1, .ref v2, .ref v3, .ref v4, .ref v5, .ref v6, .ref v7] : List Value).toArray wsL_isSo RL := ⟨hx, hb, hml, hown, hts⟩
  have C : CX p m c cL_isSo 13 s ([.ref v0, .int v1, .ref v2, .ref v3, .ref v4, .ref v5, .ref v6, .ref v7] : List Value).toArray wsL_isSo RL D Y := ⟨CF, hK, hZ⟩
  have hO : HO D Y (fR L sz) s.heap S s.heap [] := HO.entry hsz hJ hP hD0
  subst hsz
  have hl := lv_entry ([.ref v0, .int v1, .ref v2, .ref v3, .ref v4, .ref v5, .ref v6, .ref v7]) (n := 13) (Nat.le_of_ble_eq_true rfl)
  rw [lg_entry_eq]
  generalize (lg_sl ([.ref v0, .int v1, .ref v2, .ref v3, .ref v4, .ref v5, .ref v6, .ref v7]) ++ List.replicate (13 - (lg_sl ([.ref v0, .int v1, .ref v2, .ref v3, .ref v4, .ref v5, .ref v6, .ref v7])).length) Slot.unset).toArray = ls at hl ⊢
  have hl : lv_has ls 13 [(0, .ref v0), (1, .int v1), (2, .ref v2), (3, .ref v3), (4, .ref v4), (5, .ref v5), (6, .ref v6), (7, .ref v7)] := hl
  unfold wp_L_isSo at h
  refine lv_iconst (v := (nI 0)) hx hb dL_isSo_0 (by decide) ?_
  refine lv_istore (lv' := [(8, .int (nI 0)), (0, .ref v0), (1, .int v1), (2, .ref v2), (3, .ref v3), (4, .ref v4), (5, .ref v5), (6, .ref v6), (7, .ref v7)]) hx hb dL_isSo_1 hl (by decide) rfl (fun ls hl => ?_)
  refine lv_iconst (v := (nI 0)) hx hb dL_isSo_3 (by decide) ?_
  refine lv_istore (lv' := [(9, .int (nI 0)), (8, .int (nI 0)), (0, .ref v0), (1, .int v1), (2, .ref v2), (3, .ref v3), (4, .ref v4), (5, .ref v5), (6, .ref v6), (7, .ref v7)]) hx hb dL_isSo_4 hl (by decide) rfl (fun ls hl => ?_)
  refine lv_iconst (v := (nI 0)) hx hb dL_isSo_6 (by decide) ?_
  refine lv_istore (lv' := [(10, .int (nI 0)), (9, .int (nI 0)), (8, .int (nI 0)), (0, .ref v0), (1, .int v1), (2, .ref v2), (3, .ref v3), (4, .ref v4), (5, .ref v5), (6, .ref v6), (7, .ref v7)]) hx hb dL_isSo_7 hl (by decide) rfl (fun ls hl => ?_)
  obtain ⟨n114, h⟩ := h
  refine lp_P (nL := 13) (fun q => [(10, .int q.1), (9, .int (nI 0)), (8, .int q.2), (0, .ref v0), (1, .int v1), (2, .ref v2), (3, .ref v3), (4, .ref v4), (5, .ref v5), (6, .ref v6), (7, .ref v7)]) h (lv_sub hl [0, 1, 2, 3, 4, 5, 6, 7, 8, 9, 10] rfl) (fun K9 ih9 q ls h hl => ?_)
  obtain ⟨i1, i2⟩ := q
  have h : wpb_L_isSo_9 S v0 v1 v2 v3 v4 v5 v6 v7 Post K9 i1 i2 := h
  have hl : lv_has ls 13 [(10, .int i1), (9, .int (nI 0)), (8, .int i2), (0, .ref v0), (1, .int v1), (2, .ref v2), (3, .ref v3), (4, .ref v4), (5, .ref v5), (6, .ref v6), (7, .ref v7)] := hl
  unfold wpb_L_isSo_9 at h
  refine lv_iload hx hb dL_isSo_9 (lv_at hl 0 rfl) ?_
  refine lv_bipush (v := (nI 12)) hx hb dL_isSo_11 (by decide) ?_
  refine lv_icmp_ge (tgt := 139) hx hb dL_isSo_13 (by decide) (fun c3 => ?_) (fun c3 => ?_)
  · have h := h.1 c3
    refine lv_iconst (v := (nI 0)) hx hb dL_isSo_139 (by decide) ?_
    refine lv_istore (lv' := [(10, .int (nI 0)), (9, .int (nI 0)), (8, .int i2), (0, .ref v0), (1, .int v1), (2, .ref v2), (3, .ref v3), (4, .ref v4), (5, .ref v5), (6, .ref v6), (7, .ref v7)]) hx hb dL_isSo_140 hl (by decide) rfl (fun ls hl => ?_)
    obtain ⟨n62, h⟩ := h
    refine lp_P (nL := 13) (fun q => [(10, .int q.1), (9, .int q.2), (8, .int i2), (0, .ref v0), (1, .int v1), (2, .ref v2), (3, .ref v3), (4, .ref v4), (5, .ref v5), (6, .ref v6), (7, .ref v7)]) h (lv_sub hl [0, 1, 2, 3, 4, 5, 6, 7, 8, 9, 10] rfl) (fun K142 ih142 q ls h hl => ?_)
    obtain ⟨i4, i5⟩ := q
    have h : wpb_L_isSo_142 S v0 v1 v2 v3 v4 v5 v6 v7 i2 Post K142 i4 i5 := h
    have hl : lv_has ls 13 [(10, .int i4), (9, .int i5), (8, .int i2), (0, .ref v0), (1, .int v1), (2, .ref v2), (3, .ref v3), (4, .ref v4), (5, .ref v5), (6, .ref v6), (7, .ref v7)] := hl
    unfold wpb_L_isSo_142 at h
    refine lv_iload hx hb dL_isSo_142 (lv_at hl 0 rfl) ?_
    refine lv_bipush (v := (nI 6)) hx hb dL_isSo_144 (by decide) ?_
    refine lv_icmp_ge (tgt := 209) hx hb dL_isSo_146 (by decide) (fun c6 => ?_) (fun c6 => ?_)
    · have h := h.1 c6
      refine lv_aload_n hx hb dL_isSo_209 rfl (lv_at hl 3 rfl) ?_
      refine lv_iconst (v := (nI 0)) hx hb dL_isSo_210 (by decide) ?_
      obtain ⟨fs9, e8, h⟩ := h
      refine cV_ri (As := [.int (nI 0)]) (rest := []) (n := 1) C hO (fun L => c_X7_count l D Y L S s.heap.size v0 (nI 0) _ h) 5 rfl e8 (cwV 1 hts gL_isSo_X7_count rfl rfl rfl ⟨rfl, hdS_X7_count⟩ ⟨Nat.le_of_ble_eq_true rfl, Nat.le_of_ble_eq_true rfl⟩) rfl hl.1 rfl (Nat.le_of_ble_eq_true rfl) dL_isSo_211 ⟨(Nat.le_of_ble_eq_true rfl), (Nat.le_of_ble_eq_true rfl)⟩ (fun i7 h => ?_)
      refine lv_aload hx hb dL_isSo_214 (lv_at hl 7 rfl) ?_
      refine cS_ri (As := [.ref v4]) (rest := [.int i7]) (n := 1) C hO (fun L => c_L_home l D Y L S s.heap.size v4 _ h) (va_cwS 1 hts gL_isSo_L_home rfl rfl rfl hdS_L_home ⟨Nat.le_of_ble_eq_true rfl, Nat.le_of_ble_eq_true rfl⟩) rfl hl.1 rfl (Nat.le_of_ble_eq_true rfl) dL_isSo_216 ⟨(Nat.le_of_ble_eq_true rfl), (Nat.le_of_ble_eq_true rfl)⟩ (fun i10 h => ?_)
      refine lv_icmp_ne (tgt := 298) hx hb dL_isSo_219 (by decide) (fun c11 => ?_) (fun c11 => ?_)
      · have h := h.2 c11
        refine lv_iconst (v := (nI 0)) hx hb dL_isSo_298 (by decide) ?_
        refine W.widen (k := 64) (n := 768) (Nat.le_of_ble_eq_true rfl) (Nat.le_of_ble_eq_true rfl) ?_
        exact W.zret hx hb hr (by decide) (fun t ht hW => ⟨⟨(nI 0), S, rfl, h, hO.q ht⟩, hO.f ht⟩) hO.lc dL_isSo_299
      · have h := h.1 c11
        refine lv_aload_n hx hb dL_isSo_222 rfl (lv_at hl 3 rfl) ?_
        refine lv_iconst (v := (nI 1)) hx hb dL_isSo_223 (by decide) ?_
        obtain ⟨fs14, e13, h⟩ := h
        refine cV_ri (As := [.int (nI 1)]) (rest := []) (n := 1) C hO (fun L => c_X7_count l D Y L S s.heap.size v0 (nI 1) _ h) 5 rfl e13 (cwV 1 hts gL_isSo_X7_count rfl rfl rfl ⟨rfl, hdS_X7_count⟩ ⟨Nat.le_of_ble_eq_true rfl, Nat.le_of_ble_eq_true rfl⟩) rfl hl.1 rfl (Nat.le_of_ble_eq_true rfl) dL_isSo_224 ⟨(Nat.le_of_ble_eq_true rfl), (Nat.le_of_ble_eq_true rfl)⟩ (fun i12 h => ?_)
        refine lv_aload hx hb dL_isSo_227 (lv_at hl 9 rfl) ?_
        refine lv_bipush (v := (nI 6)) hx hb dL_isSo_229 (by decide) ?_
        obtain ⟨n15, f16, i18, e17, e17', exi18, h⟩ := h
        refine r_iald C hO e17 e17' dL_isSo_231 ?_
        rw [exi18]
        refine lv_icmp_ne (tgt := 298) hx hb dL_isSo_232 (by decide) (fun c19 => ?_) (fun c19 => ?_)
        · have h := h.2 c19
          refine lv_iconst (v := (nI 0)) hx hb dL_isSo_298 (by decide) ?_
          refine W.widen (k := 64) (n := 768) (Nat.le_of_ble_eq_true rfl) (Nat.le_of_ble_eq_true rfl) ?_
          exact W.zret hx hb hr (by decide) (fun t ht hW => ⟨⟨(nI 0), S, rfl, h, hO.q ht⟩, hO.f ht⟩) hO.lc dL_isSo_299
        · have h := h.1 c19
          refine lv_aload_n hx hb dL_isSo_235 rfl (lv_at hl 3 rfl) ?_
          refine lv_iconst (v := (nI 2)) hx hb dL_isSo_236 (by decide) ?_
          obtain ⟨fs22, e21, h⟩ := h
          refine cV_ri (As := [.int (nI 2)]) (rest := []) (n := 1) C hO (fun L => c_X7_count l D Y L S s.heap.size v0 (nI 2) _ h) 5 rfl e21 (cwV 1 hts gL_isSo_X7_count rfl rfl rfl ⟨rfl, hdS_X7_count⟩ ⟨Nat.le_of_ble_eq_true rfl, Nat.le_of_ble_eq_true rfl⟩) rfl hl.1 rfl (Nat.le_of_ble_eq_true rfl) dL_isSo_237 ⟨(Nat.le_of_ble_eq_true rfl), (Nat.le_of_ble_eq_true rfl)⟩ (fun i20 h => ?_)
          refine lv_aload hx hb dL_isSo_240 (lv_at hl 9 rfl) ?_
          refine lv_bipush (v := (nI 7)) hx hb dL_isSo_242 (by decide) ?_
          obtain ⟨n23, f24, i26, e25, e25', exi26, h⟩ := h
          refine r_iald C hO e25 e25' dL_isSo_244 ?_
          rw [exi26]
          refine lv_icmp_ne (tgt := 298) hx hb dL_isSo_245 (by decide) (fun c27 => ?_) (fun c27 => ?_)
          · have h := h.2 c27
            refine lv_iconst (v := (nI 0)) hx hb dL_isSo_298 (by decide) ?_
            refine W.widen (k := 64) (n := 768) (Nat.le_of_ble_eq_true rfl) (Nat.le_of_ble_eq_true rfl) ?_
            exact W.zret hx hb hr (by decide) (fun t ht hW => ⟨⟨(nI 0), S, rfl, h, hO.q ht⟩, hO.f ht⟩) hO.lc dL_isSo_299
          · have h := h.1 c27
            refine lv_aload_n hx hb dL_isSo_248 rfl (lv_at hl 3 rfl) ?_
            refine lv_iconst (v := (nI 3)) hx hb dL_isSo_249 (by decide) ?_
            obtain ⟨fs30, e29, h⟩ := h
            refine cV_ri (As := [.int (nI 3)]) (rest := []) (n := 1) C hO (fun L => c_X7_count l D Y L S s.heap.size v0 (nI 3) _ h) 5 rfl e29 (cwV 1 hts gL_isSo_X7_count rfl rfl rfl ⟨rfl, hdS_X7_count⟩ ⟨Nat.le_of_ble_eq_true rfl, Nat.le_of_ble_eq_true rfl⟩) rfl hl.1 rfl (Nat.le_of_ble_eq_true rfl) dL_isSo_250 ⟨(Nat.le_of_ble_eq_true rfl), (Nat.le_of_ble_eq_true rfl)⟩ (fun i28 h => ?_)
            refine lv_iload hx hb dL_isSo_253 (lv_at hl 2 rfl) ?_
            refine lv_icmp_ne (tgt := 298) hx hb dL_isSo_255 (by decide) (fun c31 => ?_) (fun c31 => ?_)
            · have h := h.2 c31
              refine lv_iconst (v := (nI 0)) hx hb dL_isSo_298 (by decide) ?_
              refine W.widen (k := 64) (n := 768) (Nat.le_of_ble_eq_true rfl) (Nat.le_of_ble_eq_true rfl) ?_
              exact W.zret hx hb hr (by decide) (fun t ht hW => ⟨⟨(nI 0), S, rfl, h, hO.q ht⟩, hO.f ht⟩) hO.lc dL_isSo_299
            · have h := h.1 c31
              refine lv_aload_n hx hb dL_isSo_258 rfl (lv_at hl 3 rfl) ?_
              refine lv_iconst (v := (nI 4)) hx hb dL_isSo_259 (by decide) ?_
              obtain ⟨fs34, e33, h⟩ := h
              refine cV_ri (As := [.int (nI 4)]) (rest := []) (n := 1) C hO (fun L => c_X7_count l D Y L S s.heap.size v0 (nI 4) _ h) 5 rfl e33 (cwV 1 hts gL_isSo_X7_count rfl rfl rfl ⟨rfl, hdS_X7_count⟩ ⟨Nat.le_of_ble_eq_true rfl, Nat.le_of_ble_eq_true rfl⟩) rfl hl.1 rfl (Nat.le_of_ble_eq_true rfl) dL_isSo_260 ⟨(Nat.le_of_ble_eq_true rfl), (Nat.le_of_ble_eq_true rfl)⟩ (fun i32 h => ?_)
              refine lv_iload hx hb dL_isSo_263 (lv_at hl 1 rfl) ?_
              refine lv_icmp_ne (tgt := 298) hx hb dL_isSo_265 (by decide) (fun c35 => ?_) (fun c35 => ?_)
              · have h := h.2 c35
                refine lv_iconst (v := (nI 0)) hx hb dL_isSo_298 (by decide) ?_
                refine W.widen (k := 64) (n := 768) (Nat.le_of_ble_eq_true rfl) (Nat.le_of_ble_eq_true rfl) ?_
                exact W.zret hx hb hr (by decide) (fun t ht hW => ⟨⟨(nI 0), S, rfl, h, hO.q ht⟩, hO.f ht⟩) hO.lc dL_isSo_299
              · have h := h.1 c35
                refine lv_aload_n hx hb dL_isSo_268 rfl (lv_at hl 3 rfl) ?_
                refine lv_iload_n hx hb dL_isSo_269 rfl (lv_at hl 4 rfl) ?_
                refine lv_bipush (v := (nI 6)) hx hb dL_isSo_270 (by decide) ?_
                refine cS_si (As := [.int v1, .int (nI 6)]) (rest := [.ref v0]) (n := 2) CF hZ (c_L_low l v1 (nI 6) _ h) (va_cwS 2 hts gL_isSo_L_low rfl rfl rfl hdS_L_low ⟨Nat.le_of_ble_eq_true rfl, Nat.le_of_ble_eq_true rfl⟩) rfl hl.1 rfl (Nat.le_of_ble_eq_true rfl) dL_isSo_272 ⟨(Nat.le_of_ble_eq_true rfl), (Nat.le_of_ble_eq_true rfl)⟩ (fun i36 h => ?_)
                refine lv_iload_n hx hb dL_isSo_275 rfl (lv_at hl 4 rfl) ?_
                refine lv_iconst (v := (nI 3)) hx hb dL_isSo_276 (by decide) ?_
                refine lv_ishr hx hb dL_isSo_277 ?_
                refine lv_aload_n hx hb dL_isSo_278 rfl (lv_at hl 5 rfl) ?_
                refine lv_aload_n hx hb dL_isSo_279 rfl (lv_at hl 6 rfl) ?_
                refine lv_aload hx hb dL_isSo_280 (lv_at hl 7 rfl) ?_
                refine lv_aload hx hb dL_isSo_282 (lv_at hl 8 rfl) ?_
                refine lv_aload hx hb dL_isSo_284 (lv_at hl 9 rfl) ?_
                refine lv_aload hx hb dL_isSo_286 (lv_at hl 10 rfl) ?_
                refine cS_wi (As := [.ref v0, .int i36, .int (v1 >>> ((nI 3) &&& 31)), .ref v2, .ref v3, .ref v4, .ref v5, .ref v6, .ref v7]) (rest := []) (n := 9) C hO (fun L => c_L_isDraft l D Y L S s.heap.size v0 i36 ((v1 >>> ((nI 3) &&& 31))) v2 v3 v4 v5 v6 v7 _ h) (va_cwS 9 hts gL_isSo_L_isDraft rfl rfl rfl hdS_L_isDraft ⟨Nat.le_of_ble_eq_true rfl, Nat.le_of_ble_eq_true rfl⟩) rfl hl.1 rfl (Nat.le_of_ble_eq_true rfl) dL_isSo_288 ⟨(Nat.le_of_ble_eq_true rfl), (Nat.le_of_ble_eq_true rfl)⟩ (fun i37 S38 H locs h hO => ?_)
                refine lv_if_eq (tgt := 298) hx hb dL_isSo_291 (by decide) (fun c39 => ?_) (fun c39 => ?_)
                · have h := h.1 c39
                  refine lv_iconst (v := (nI 0)) hx hb dL_isSo_298 (by decide) ?_
                  exact W.zret hx hb hr (by decide) (fun t ht hW => ⟨⟨(nI 0), S38, rfl, h, hO.q ht⟩, hO.f ht⟩) hO.lc dL_isSo_299
                · have h := h.2 c39
                  refine lv_iconst (v := (nI 1)) hx hb dL_isSo_294 (by decide) ?_
                  refine lv_goto (tgt := 299) hx hb dL_isSo_295 (by decide) ?_
                  exact W.zret hx hb hr (by decide) (fun t ht hW => ⟨⟨(nI 1), S38, rfl, h, hO.q ht⟩, hO.f ht⟩) hO.lc dL_isSo_299
    · have h := h.2 c6
      refine lv_iload hx hb dL_isSo_149 (lv_at hl 1 rfl) ?_
      refine lv_aload hx hb dL_isSo_151 (lv_at hl 9 rfl) ?_
      refine lv_iload hx hb dL_isSo_153 (lv_at hl 0 rfl) ?_
      obtain ⟨n40, f41, i43, e42, e42', exi43, h⟩ := h
      refine r_iald C hO e42 e42' dL_isSo_155 ?_
      rw [exi43]
      refine cut_P (nL := 13) (fun (q : Int32) => wpk_L_isSo_170 S v0 v2 v3 i4 Post K142 q) (fun q => [(10, .int i4), (9, .int q), (8, .int i2), (0, .ref v0), (1, .int v1), (2, .ref v2), (3, .ref v3), (4, .ref v4), (5, .ref v5), (6, .ref v6), (7, .ref v7)]) 170 ?_ (fun kc170 => ?_)
      · intro q ls h hl
        obtain ⟨i44, rfl⟩ : ∃ z, z = q := ⟨q, rfl⟩
        have h : wpk_L_isSo_170 S v0 v2 v3 i4 Post K142 i44 := h
        have hl : lv_has ls 13 [(10, .int i4), (9, .int i44), (8, .int i2), (0, .ref v0), (1, .int v1), (2, .ref v2), (3, .ref v3), (4, .ref v4), (5, .ref v5), (6, .ref v6), (7, .ref v7)] := hl
        unfold wpk_L_isSo_170 at h
        refine lv_aload_n hx hb dL_isSo_170 rfl (lv_at hl 3 rfl) ?_
        refine lv_iload hx hb dL_isSo_171 (lv_at hl 0 rfl) ?_
        refine lv_iconst (v := (nI 0)) hx hb dL_isSo_173 (by decide) ?_
        obtain ⟨fs47, e46, h⟩ := h
        refine cV_ri (As := [.int i4, .int (nI 0)]) (rest := []) (n := 2) C hO (fun L => c_X7_treadle l D Y L S s.heap.size v0 i4 (nI 0) _ h) 5 rfl e46 (cwV 2 hts gL_isSo_X7_treadle rfl rfl rfl ⟨rfl, hdS_X7_treadle⟩ ⟨Nat.le_of_ble_eq_true rfl, Nat.le_of_ble_eq_true rfl⟩) rfl hl.1 rfl (Nat.le_of_ble_eq_true rfl) dL_isSo_174 ⟨(Nat.le_of_ble_eq_true rfl), (Nat.le_of_ble_eq_true rfl)⟩ (fun i45 h => ?_)
        refine lv_aload_n hx hb dL_isSo_177 rfl (lv_at hl 6 rfl) ?_
        refine lv_iload hx hb dL_isSo_178 (lv_at hl 0 rfl) ?_
        obtain ⟨n48, f49, i51, e50, e50', exi51, h⟩ := h
        refine r_iald C hO e50 e50' dL_isSo_180 ?_
        rw [exi51]
        refine lv_icmp_ne (tgt := 201) hx hb dL_isSo_181 (by decide) (fun c52 => ?_) (fun c52 => ?_)
        · have h := h.2 c52
          refine lv_iconst (v := (nI 0)) hx hb dL_isSo_201 (by decide) ?_
          refine W.widen (k := 64) (n := 768) (Nat.le_of_ble_eq_true rfl) (Nat.le_of_ble_eq_true rfl) ?_
          exact W.zret hx hb hr (by decide) (fun t ht hW => ⟨⟨(nI 0), S, rfl, h, hO.q ht⟩, hO.f ht⟩) hO.lc dL_isSo_202
        · have h := h.1 c52
          refine lv_aload_n hx hb dL_isSo_184 rfl (lv_at hl 3 rfl) ?_
          refine lv_iload hx hb dL_isSo_185 (lv_at hl 0 rfl) ?_
          refine lv_iconst (v := (nI 1)) hx hb dL_isSo_187 (by decide) ?_
          obtain ⟨fs55, e54, h⟩ := h
          refine cV_ri (As := [.int i4, .int (nI 1)]) (rest := []) (n := 2) C hO (fun L => c_X7_treadle l D Y L S s.heap.size v0 i4 (nI 1) _ h) 5 rfl e54 (cwV 2 hts gL_isSo_X7_treadle rfl rfl rfl ⟨rfl, hdS_X7_treadle⟩ ⟨Nat.le_of_ble_eq_true rfl, Nat.le_of_ble_eq_true rfl⟩) rfl hl.1 rfl (Nat.le_of_ble_eq_true rfl) dL_isSo_188 ⟨(Nat.le_of_ble_eq_true rfl), (Nat.le_of_ble_eq_true rfl)⟩ (fun i53 h => ?_)
          refine lv_iload hx hb dL_isSo_191 (lv_at hl 0 rfl) ?_
          refine lv_aload_n hx hb dL_isSo_193 rfl (lv_at hl 5 rfl) ?_
          refine lv_aload_n hx hb dL_isSo_194 rfl (lv_at hl 6 rfl) ?_
          refine cS_ri (As := [.int i4, .ref v2, .ref v3]) (rest := [.int i53]) (n := 3) C hO (fun L => c_L_raised l D Y L S s.heap.size i4 v2 v3 _ h) (va_cwS 3 hts gL_isSo_L_raised rfl rfl rfl hdS_L_raised ⟨Nat.le_of_ble_eq_true rfl, Nat.le_of_ble_eq_true rfl⟩) rfl hl.1 rfl (Nat.le_of_ble_eq_true rfl) dL_isSo_195 ⟨(Nat.le_of_ble_eq_true rfl), (Nat.le_of_ble_eq_true rfl)⟩ (fun i56 h => ?_)
          refine lv_icmp_eq (tgt := 203) hx hb dL_isSo_198 (by decide) (fun c57 => ?_) (fun c57 => ?_)
          · have h := h.1 c57
            obtain ⟨i58, ei58⟩ : ∃ y : Int32, y = i4 + (nI 1) := ⟨_, rfl⟩
            have h := h i58 ei58
            refine lv_iinc (v := i58) (lv' := [(10, .int i58), (9, .int i44), (8, .int i2), (0, .ref v0), (1, .int v1), (2, .ref v2), (3, .ref v3), (4, .ref v4), (5, .ref v5), (6, .ref v6), (7, .ref v7)]) hx hb dL_isSo_203 hl (k := 0) rfl (by rw [ei58]; rfl) (by decide) rfl (fun ls hl => ?_)
            refine lv_goto (tgt := 142) hx hb dL_isSo_206 (by decide) ?_
            exact ih142 (i58, i44) _ h (lv_sub hl [0, 1, 2, 3, 4, 5, 6, 7, 8, 9, 10] rfl)
          · have h := h.2 c57
            refine lv_iconst (v := (nI 0)) hx hb dL_isSo_201 (by decide) ?_
            refine W.widen (k := 64) (n := 768) (Nat.le_of_ble_eq_true rfl) (Nat.le_of_ble_eq_true rfl) ?_
            exact W.zret hx hb hr (by decide) (fun t ht hW => ⟨⟨(nI 0), S, rfl, h, hO.q ht⟩, hO.f ht⟩) hO.lc dL_isSo_202
      refine lv_if_le (tgt := 166) hx hb dL_isSo_156 (by decide) (fun c59 => ?_) (fun c59 => ?_)
      · have h := h.1 c59
        refine lv_iconst (v := (nI 0)) hx hb dL_isSo_166 (by decide) ?_
        refine lv_ior hx hb dL_isSo_167 ?_
        refine lv_topi (fun i60 ei60 => ?_)
        have h := h i60 ei60
        refine lv_istore (lv' := [(9, .int i60), (10, .int i4), (8, .int i2), (0, .ref v0), (1, .int v1), (2, .ref v2), (3, .ref v3), (4, .ref v4), (5, .ref v5), (6, .ref v6), (7, .ref v7)]) hx hb dL_isSo_168 hl (by decide) rfl (fun ls hl => ?_)
        exact kc170 i60 _ h (lv_sub hl [1, 0, 2, 3, 4, 5, 6, 7, 8, 9, 10] rfl)
      · have h := h.2 c59
        refine lv_iconst (v := (nI 1)) hx hb dL_isSo_159 (by decide) ?_
        refine lv_iload hx hb dL_isSo_160 (lv_at hl 0 rfl) ?_
        refine lv_ishl hx hb dL_isSo_162 ?_
        refine lv_goto (tgt := 167) hx hb dL_isSo_163 (by decide) ?_
        refine lv_ior hx hb dL_isSo_167 ?_
        refine lv_topi (fun i61 ei61 => ?_)
        have h := h i61 ei61
        refine lv_istore (lv' := [(9, .int i61), (10, .int i4), (8, .int i2), (0, .ref v0), (1, .int v1), (2, .ref v2), (3, .ref v3), (4, .ref v4), (5, .ref v5), (6, .ref v6), (7, .ref v7)]) hx hb dL_isSo_168 hl (by decide) rfl (fun ls hl => ?_)
        exact kc170 i61 _ h (lv_sub hl [1, 0, 2, 3, 4, 5, 6, 7, 8, 9, 10] rfl)
  · have h := h.2 c3
    refine lv_iconst (v := (nI 0)) hx hb dL_isSo_16 (by decide) ?_
    refine lv_istore (lv' := [(11, .int (nI 0)), (10, .int i1), (9, .int (nI 0)), (8, .int i2), (0, .ref v0), (1, .int v1), (2, .ref v2), (3, .ref v3), (4, .ref v4), (5, .ref v5), (6, .ref v6), (7, .ref v7)]) hx hb dL_isSo_17 hl (by decide) rfl (fun ls hl => ?_)
    refine lv_iconst (v := (nI 0)) hx hb dL_isSo_19 (by decide) ?_
    refine lv_istore (lv' := [(12, .int (nI 0)), (11, .int (nI 0)), (10, .int i1), (9, .int (nI 0)), (8, .int i2), (0, .ref v0), (1, .int v1), (2, .ref v2), (3, .ref v3), (4, .ref v4), (5, .ref v5), (6, .ref v6), (7, .ref v7)]) hx hb dL_isSo_20 hl (by decide) rfl (fun ls hl => ?_)
    obtain ⟨n113, h⟩ := h
    refine lp_P (nL := 13) (fun q => [(12, .int q.1), (11, .int q.2), (10, .int i1), (9, .int (nI 0)), (8, .int i2), (0, .ref v0), (1, .int v1), (2, .ref v2), (3, .ref v3), (4, .ref v4), (5, .ref v5), (6, .ref v6), (7, .ref v7)]) h (lv_sub hl [0, 1, 2, 3, 4, 5, 6, 7, 8, 9, 10, 11, 12] rfl) (fun K22 ih22 q ls h hl => ?_)
    obtain ⟨i63, i64⟩ := q
    have h : wpb_L_isSo_22 S v0 v2 v3 v4 v5 i1 i2 Post K9 K22 i63 i64 := h
    have hl : lv_has ls 13 [(12, .int i63), (11, .int i64), (10, .int i1), (9, .int (nI 0)), (8, .int i2), (0, .ref v0), (1, .int v1), (2, .ref v2), (3, .ref v3), (4, .ref v4), (5, .ref v5), (6, .ref v6), (7, .ref v7)] := hl
    unfold wpb_L_isSo_22 at h
    refine lv_iload hx hb dL_isSo_22 (lv_at hl 0 rfl) ?_
    refine lv_bipush (v := (nI 6)) hx hb dL_isSo_24 (by decide) ?_
    refine lv_icmp_ge (tgt := 54) hx hb dL_isSo_26 (by decide) (fun c65 => ?_) (fun c65 => ?_)
    · have h := h.1 c65
      refine lv_iload hx hb dL_isSo_54 (lv_at hl 4 rfl) ?_
      refine lv_iload hx hb dL_isSo_56 (lv_at hl 1 rfl) ?_
      refine cut_P (nL := 13) (fun (q : Int32) => wpk_L_isSo_72 S v0 v2 v4 v5 i1 i64 Post K9 q) (fun q => [(11, .int i64), (10, .int i1), (9, .int (nI 0)), (8, .int q), (0, .ref v0), (1, .int v1), (2, .ref v2), (3, .ref v3), (4, .ref v4), (5, .ref v5), (6, .ref v6), (7, .ref v7)]) 72 ?_ (fun kc72 => ?_)
      · intro q ls h hl
        obtain ⟨i66, rfl⟩ : ∃ z, z = q := ⟨q, rfl⟩
        have h : wpk_L_isSo_72 S v0 v2 v4 v5 i1 i64 Post K9 i66 := h
        have hl : lv_has ls 13 [(11, .int i64), (10, .int i1), (9, .int (nI 0)), (8, .int i66), (0, .ref v0), (1, .int v1), (2, .ref v2), (3, .ref v3), (4, .ref v4), (5, .ref v5), (6, .ref v6), (7, .ref v7)] := hl
        unfold wpk_L_isSo_72 at h
        refine lv_aload_n hx hb dL_isSo_72 rfl (lv_at hl 4 rfl) ?_
        refine lv_iload hx hb dL_isSo_73 (lv_at hl 1 rfl) ?_
        refine lv_iconst (v := (nI 0)) hx hb dL_isSo_75 (by decide) ?_
        obtain ⟨fs69, e68, h⟩ := h
        refine cV_ri (As := [.int i1, .int (nI 0)]) (rest := []) (n := 2) C hO (fun L => c_X7_place l D Y L S s.heap.size v0 i1 (nI 0) _ h) 5 rfl e68 (cwV 2 hts gL_isSo_X7_place rfl rfl rfl ⟨rfl, hdS_X7_place⟩ ⟨Nat.le_of_ble_eq_true rfl, Nat.le_of_ble_eq_true rfl⟩) rfl hl.1 rfl (Nat.le_of_ble_eq_true rfl) dL_isSo_76 ⟨(Nat.le_of_ble_eq_true rfl), (Nat.le_of_ble_eq_true rfl)⟩ (fun i67 h => ?_)
        refine lv_aload_n hx hb dL_isSo_79 rfl (lv_at hl 6 rfl) ?_
        refine lv_iload hx hb dL_isSo_80 (lv_at hl 1 rfl) ?_
        obtain ⟨n70, f71, i73, e72, e72', exi73, h⟩ := h
        refine r_iald C hO e72 e72' dL_isSo_82 ?_
        rw [exi73]
        refine lv_icmp_ne (tgt := 131) hx hb dL_isSo_83 (by decide) (fun c74 => ?_) (fun c74 => ?_)
        · have h := h.2 c74
          refine lv_iconst (v := (nI 0)) hx hb dL_isSo_131 (by decide) ?_
          refine W.widen (k := 64) (n := 768) (Nat.le_of_ble_eq_true rfl) (Nat.le_of_ble_eq_true rfl) ?_
          exact W.zret hx hb hr (by decide) (fun t ht hW => ⟨⟨(nI 0), S, rfl, h, hO.q ht⟩, hO.f ht⟩) hO.lc dL_isSo_132
        · have h := h.1 c74
          refine lv_aload_n hx hb dL_isSo_86 rfl (lv_at hl 4 rfl) ?_
          refine lv_iload hx hb dL_isSo_87 (lv_at hl 1 rfl) ?_
          refine lv_iconst (v := (nI 1)) hx hb dL_isSo_89 (by decide) ?_
          obtain ⟨fs77, e76, h⟩ := h
          refine cV_ri (As := [.int i1, .int (nI 1)]) (rest := []) (n := 2) C hO (fun L => c_X7_place l D Y L S s.heap.size v0 i1 (nI 1) _ h) 5 rfl e76 (cwV 2 hts gL_isSo_X7_place rfl rfl rfl ⟨rfl, hdS_X7_place⟩ ⟨Nat.le_of_ble_eq_true rfl, Nat.le_of_ble_eq_true rfl⟩) rfl hl.1 rfl (Nat.le_of_ble_eq_true rfl) dL_isSo_90 ⟨(Nat.le_of_ble_eq_true rfl), (Nat.le_of_ble_eq_true rfl)⟩ (fun i75 h => ?_)
          refine lv_aload hx hb dL_isSo_93 (lv_at hl 8 rfl) ?_
          refine lv_iload hx hb dL_isSo_95 (lv_at hl 1 rfl) ?_
          obtain ⟨n78, f79, i81, e80, e80', exi81, h⟩ := h
          refine r_iald C hO e80 e80' dL_isSo_97 ?_
          rw [exi81]
          refine lv_icmp_ne (tgt := 131) hx hb dL_isSo_98 (by decide) (fun c82 => ?_) (fun c82 => ?_)
          · have h := h.2 c82
            refine lv_iconst (v := (nI 0)) hx hb dL_isSo_131 (by decide) ?_
            refine W.widen (k := 64) (n := 768) (Nat.le_of_ble_eq_true rfl) (Nat.le_of_ble_eq_true rfl) ?_
            exact W.zret hx hb hr (by decide) (fun t ht hW => ⟨⟨(nI 0), S, rfl, h, hO.q ht⟩, hO.f ht⟩) hO.lc dL_isSo_132
          · have h := h.1 c82
            refine lv_aload_n hx hb dL_isSo_101 rfl (lv_at hl 4 rfl) ?_
            refine lv_iload hx hb dL_isSo_102 (lv_at hl 1 rfl) ?_
            refine lv_iconst (v := (nI 2)) hx hb dL_isSo_104 (by decide) ?_
            obtain ⟨fs85, e84, h⟩ := h
            refine cV_ri (As := [.int i1, .int (nI 2)]) (rest := []) (n := 2) C hO (fun L => c_X7_place l D Y L S s.heap.size v0 i1 (nI 2) _ h) 5 rfl e84 (cwV 2 hts gL_isSo_X7_place rfl rfl rfl ⟨rfl, hdS_X7_place⟩ ⟨Nat.le_of_ble_eq_true rfl, Nat.le_of_ble_eq_true rfl⟩) rfl hl.1 rfl (Nat.le_of_ble_eq_true rfl) dL_isSo_105 ⟨(Nat.le_of_ble_eq_true rfl), (Nat.le_of_ble_eq_true rfl)⟩ (fun i83 h => ?_)
            refine lv_aload hx hb dL_isSo_108 (lv_at hl 9 rfl) ?_
            refine lv_aload hx hb dL_isSo_110 (lv_at hl 8 rfl) ?_
            refine lv_iload hx hb dL_isSo_112 (lv_at hl 1 rfl) ?_
            obtain ⟨n86, f87, i89, e88, e88', exi89, h⟩ := h
            refine r_iald C hO e88 e88' dL_isSo_114 ?_
            rw [exi89]
            obtain ⟨n90, f91, i93, e92, e92', exi93, h⟩ := h
            refine r_iald C hO e92 e92' dL_isSo_115 ?_
            rw [exi93]
            refine lv_icmp_ne (tgt := 131) hx hb dL_isSo_116 (by decide) (fun c94 => ?_) (fun c94 => ?_)
            · have h := h.2 c94
              refine lv_iconst (v := (nI 0)) hx hb dL_isSo_131 (by decide) ?_
              refine W.widen (k := 64) (n := 768) (Nat.le_of_ble_eq_true rfl) (Nat.le_of_ble_eq_true rfl) ?_
              exact W.zret hx hb hr (by decide) (fun t ht hW => ⟨⟨(nI 0), S, rfl, h, hO.q ht⟩, hO.f ht⟩) hO.lc dL_isSo_132
            · have h := h.1 c94
              refine lv_aload_n hx hb dL_isSo_119 rfl (lv_at hl 4 rfl) ?_
              refine lv_iload hx hb dL_isSo_120 (lv_at hl 1 rfl) ?_
              refine lv_iconst (v := (nI 3)) hx hb dL_isSo_122 (by decide) ?_
              obtain ⟨fs97, e96, h⟩ := h
              refine cV_ri (As := [.int i1, .int (nI 3)]) (rest := []) (n := 2) C hO (fun L => c_X7_place l D Y L S s.heap.size v0 i1 (nI 3) _ h) 5 rfl e96 (cwV 2 hts gL_isSo_X7_place rfl rfl rfl ⟨rfl, hdS_X7_place⟩ ⟨Nat.le_of_ble_eq_true rfl, Nat.le_of_ble_eq_true rfl⟩) rfl hl.1 rfl (Nat.le_of_ble_eq_true rfl) dL_isSo_123 ⟨(Nat.le_of_ble_eq_true rfl), (Nat.le_of_ble_eq_true rfl)⟩ (fun i95 h => ?_)
              refine lv_iload hx hb dL_isSo_126 (lv_at hl 0 rfl) ?_
              refine lv_icmp_eq (tgt := 133) hx hb dL_isSo_128 (by decide) (fun c98 => ?_) (fun c98 => ?_)
              · have h := h.1 c98
                obtain ⟨i99, ei99⟩ : ∃ y : Int32, y = i1 + (nI 1) := ⟨_, rfl⟩
                have h := h i99 ei99
                refine lv_iinc (v := i99) (lv' := [(10, .int i99), (11, .int i64), (9, .int (nI 0)), (8, .int i66), (0, .ref v0), (1, .int v1), (2, .ref v2), (3, .ref v3), (4, .ref v4), (5, .ref v5), (6, .ref v6), (7, .ref v7)]) hx hb dL_isSo_133 hl (k := 1) rfl (by rw [ei99]; rfl) (by decide) rfl (fun ls hl => ?_)
                refine lv_goto (tgt := 9) hx hb dL_isSo_136 (by decide) ?_
                exact ih9 (i99, i66) _ h (lv_sub hl [0, 2, 3, 4, 5, 6, 7, 8, 9, 10, 11] rfl)
              · have h := h.2 c98
                refine lv_iconst (v := (nI 0)) hx hb dL_isSo_131 (by decide) ?_
                refine W.widen (k := 64) (n := 768) (Nat.le_of_ble_eq_true rfl) (Nat.le_of_ble_eq_true rfl) ?_
                exact W.zret hx hb hr (by decide) (fun t ht hW => ⟨⟨(nI 0), S, rfl, h, hO.q ht⟩, hO.f ht⟩) hO.lc dL_isSo_132
      refine lv_if_ne (tgt := 68) hx hb dL_isSo_58 (by decide) (fun c100 => ?_) (fun c100 => ?_)
      · have h := h.2 c100
        refine lv_iconst (v := (nI 0)) hx hb dL_isSo_68 (by decide) ?_
        refine lv_ior hx hb dL_isSo_69 ?_
        refine lv_topi (fun i101 ei101 => ?_)
        have h := h i101 ei101
        refine lv_istore (lv' := [(8, .int i101), (12, .int i63), (11, .int i64), (10, .int i1), (9, .int (nI 0)), (0, .ref v0), (1, .int v1), (2, .ref v2), (3, .ref v3), (4, .ref v4), (5, .ref v5), (6, .ref v6), (7, .ref v7)]) hx hb dL_isSo_70 hl (by decide) rfl (fun ls hl => ?_)
        exact kc72 i101 _ h (lv_sub hl [2, 3, 4, 0, 5, 6, 7, 8, 9, 10, 11, 12] rfl)
      · have h := h.1 c100
        refine lv_iconst (v := (nI 1)) hx hb dL_isSo_61 (by decide) ?_
        refine lv_iload hx hb dL_isSo_62 (lv_at hl 2 rfl) ?_
        refine lv_ishl hx hb dL_isSo_64 ?_
        refine lv_goto (tgt := 69) hx hb dL_isSo_65 (by decide) ?_
        refine lv_ior hx hb dL_isSo_69 ?_
        refine lv_topi (fun i102 ei102 => ?_)
        have h := h i102 ei102
        refine lv_istore (lv' := [(8, .int i102), (12, .int i63), (11, .int i64), (10, .int i1), (9, .int (nI 0)), (0, .ref v0), (1, .int v1), (2, .ref v2), (3, .ref v3), (4, .ref v4), (5, .ref v5), (6, .ref v6), (7, .ref v7)]) hx hb dL_isSo_70 hl (by decide) rfl (fun ls hl => ?_)
        exact kc72 i102 _ h (lv_sub hl [2, 3, 4, 0, 5, 6, 7, 8, 9, 10, 11, 12] rfl)
    · have h := h.2 c65
      refine lv_iload hx hb dL_isSo_29 (lv_at hl 1 rfl) ?_
      refine lv_aload_n hx hb dL_isSo_31 rfl (lv_at hl 8 rfl) ?_
      refine lv_iload hx hb dL_isSo_32 (lv_at hl 0 rfl) ?_
      obtain ⟨n103, f104, i106, e105, e105', exi106, h⟩ := h
      refine r_iald C hO e105 e105' dL_isSo_34 ?_
      rw [exi106]
      refine lv_aload_n hx hb dL_isSo_35 rfl (lv_at hl 7 rfl) ?_
      refine lv_iload hx hb dL_isSo_36 (lv_at hl 2 rfl) ?_
      obtain ⟨n107, f108, i110, e109, e109', exi110, h⟩ := h
      refine r_iald C hO e109 e109' dL_isSo_38 ?_
      rw [exi110]
      refine lv_ishr hx hb dL_isSo_39 ?_
      refine lv_iconst (v := (nI 1)) hx hb dL_isSo_40 (by decide) ?_
      refine lv_iand hx hb dL_isSo_41 ?_
      refine lv_iload hx hb dL_isSo_42 (lv_at hl 0 rfl) ?_
      refine lv_ishl hx hb dL_isSo_44 ?_
      refine lv_ior hx hb dL_isSo_45 ?_
      refine lv_topi (fun i111 ei111 => ?_)
      have h := h i111 ei111
      refine lv_istore (lv' := [(11, .int i111), (12, .int i63), (10, .int i1), (9, .int (nI 0)), (8, .int i2), (0, .ref v0), (1, .int v1), (2, .ref v2), (3, .ref v3), (4, .ref v4), (5, .ref v5), (6, .ref v6), (7, .ref v7)]) hx hb dL_isSo_46 hl (by decide) rfl (fun ls hl => ?_)
      obtain ⟨i112, ei112⟩ : ∃ y : Int32, y = i63 + (nI 1) := ⟨_, rfl⟩
      have h := h i112 ei112
      refine lv_iinc (v := i112) (lv' := [(12, .int i112), (11, .int i111), (10, .int i1), (9, .int (nI 0)), (8, .int i2), (0, .ref v0), (1, .int v1), (2, .ref v2), (3, .ref v3), (4, .ref v4), (5, .ref v5), (6, .ref v6), (7, .ref v7)]) hx hb dL_isSo_48 hl (k := 1) rfl (by rw [ei112]; rfl) (by decide) rfl (fun ls hl => ?_)
      refine lv_goto (tgt := 22) hx hb dL_isSo_51 (by decide) ?_
      exact ih22 (i112, i111) _ h (lv_sub hl [0, 1, 2, 3, 4, 5, 6, 7, 8, 9, 10, 11, 12] rfl)
