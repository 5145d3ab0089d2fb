theorem hdS_L_due : yL_due.cls ≠ "java/lang/invoke/MethodHandle" ∧ yL_due.cls ≠ "java/lang/invoke/VarHandle" ∧ (parseMethodDescriptor yL_due.desc).map (fun d => d.parameters.length) = some 12 := by decide +kernel
set_option maxHeartbeats 4000000 in
set_option maxRecDepth 100000 in
theorem c_L_due (l : Launch) (D : va_G) (Y : Nat → ClassId) (L : List Nat) (S : PS) (sz : Nat) (v0 : Int32) (v1 : Int32) (v2 : Int32) (v3 : Int32) (v4 : Int32) (v5 : Nat) (v6 : Nat) (v7 : Nat) (v8 : Nat) (v9 : Nat) (v10 : Nat) (v11 : Nat) (Post : Int32 → PS → Prop) (h : wp_L_due S v0 v1 v2 v3 v4 v5 v6 v7 v8 v9 v10 v11 Post) : Met l yL_due wsL_due ({ frames := 3, cells := 1003, slots := 12036, locals := 80 }) (va_Pc [.int v0, .int v1, .int v2, .int v3, .int v4, .ref v5, .ref v6, .ref v7, .ref v8, .ref v9, .ref v10, .ref v11] (PrO D Y L S sz)) (va_Qi Post (QtO D Y (fR L sz)) (fR L sz)) 1003 12036 (fR L sz) := by
  refine Met.ofW (cc := cL_due) (maxL := 16) (ret := (some .int)) (by decide) rfl ?_
  intro p e s m args below meth c s₁ B hml hv
  obtain ⟨rfl, hsz, hJ, hP, hK, hD0, hZ⟩ := hv
  have hx := B.exec
  have hb := B.bytes
  have hr := B.returns
  have hts := atoms_spec (ws := wsL_due) B.pre
  have hown : s.vm.findClass RL = some m.cls := findClass_of_methodNamed B.named
  have hlocks := B.notSynchronized
  have CF : CallFix p m c cL_due 16 s ([.int v0, .int v1, .int v2, .int v3, .int v4, .ref v5, .ref v6, .ref v7, .ref v8, .ref v9, .ref v10, .ref v11] : List Value).toArray wsL_due RL := ⟨hx, hb, hml, hown, hts⟩
  have C : CX p m c cL_due 16 s ([.int v0, .int v1, .int v2, .int v3, .int v4, .ref v5, .ref v6, .ref v7, .ref v8, .ref v9, .ref v10, .ref v11] : List Value).toArray wsL_due RL D Y := ⟨CF, hK, hZ⟩
  have hO : HO D Y (fR L sz) s.heap S s.heap [] := HO.entry hsz hJ hP hD0
  subst hsz
  have hl := lv_entry ([.int v0, .int v1, .int v2, .int v3, .int v4, .ref v5, .ref v6, .ref v7, .ref v8, .ref v9, .ref v10, .ref v11]) (n := 16) (Nat.le_of_ble_eq_true rfl)
  rw [lg_entry_eq]
  generalize (lg_sl ([.int v0, .int v1, .int v2, .int v3, .int v4, .ref v5, .ref v6, .ref v7, .ref v8, .ref v9, .ref v10, .ref v11]) ++ List.replicate (16 - (lg_sl ([.int v0, .int v1, .int v2, .int v3, .int v4, .ref v5, .ref v6, .ref v7, .ref v8, .ref v9, .ref v10, .ref v11])).length) Slot.unset).toArray = ls at hl ⊢
  have hl : lv_has ls 16 [(0, .int v0), (1, .int v1), (2, .int v2), (3, .int v3), (4, .int v4), (5, .ref v5), (6, .ref v6), (7, .ref v7), (8, .ref v8), (9, .ref v9), (10, .ref v10), (11, .ref v11)] := hl
  unfold wp_L_due at h
  refine lv_iload_n hx hb dL_due_0 rfl (lv_at hl 1 rfl) ?_
  refine lv_if_ne (tgt := 18) hx hb dL_due_1 (by decide) (fun c1 => ?_) (fun c1 => ?_)
  · have h := h.2 c1
    refine lv_iload_n hx hb dL_due_18 rfl (lv_at hl 1 rfl) ?_
    refine lv_iconst (v := (nI 1)) hx hb dL_due_19 (by decide) ?_
    refine lv_icmp_ne (tgt := 40) hx hb dL_due_20 (by decide) (fun c2 => ?_) (fun c2 => ?_)
    · have h := h.2 c2
      refine lv_iload_n hx hb dL_due_40 rfl (lv_at hl 1 rfl) ?_
      refine lv_iconst (v := (nI 2)) hx hb dL_due_41 (by decide) ?_
      refine lv_icmp_ne (tgt := 62) hx hb dL_due_42 (by decide) (fun c3 => ?_) (fun c3 => ?_)
      · have h := h.2 c3
        refine lv_iload_n hx hb dL_due_62 rfl (lv_at hl 1 rfl) ?_
        refine lv_bipush (v := (nI 6)) hx hb dL_due_63 (by decide) ?_
        refine lv_icmp_ne (tgt := 139) hx hb dL_due_65 (by decide) (fun c4 => ?_) (fun c4 => ?_)
        · have h := h.2 c4
          refine lv_iload_n hx hb dL_due_139 rfl (lv_at hl 1 rfl) ?_
          refine lv_bipush (v := (nI 7)) hx hb dL_due_140 (by decide) ?_
          refine lv_icmp_ne (tgt := 159) hx hb dL_due_142 (by decide) (fun c5 => ?_) (fun c5 => ?_)
          · have h := h.2 c5
            refine lv_iload_n hx hb dL_due_159 rfl (lv_at hl 1 rfl) ?_
            refine lv_iconst (v := (nI 3)) hx hb dL_due_160 (by decide) ?_
            refine cut_P (nL := 16) (fun (q : Int32) => wpk_L_due_198 S v1 v2 v3 v4 v9 v10 Post q) (fun q => [(1, .int v1), (2, .int v2), (3, .int v3), (4, .int v4), (9, .ref v9), (10, .ref v10), (12, .int q)]) 198 ?_ (fun kc198 => ?_)
            · intro q ls h hl
              obtain ⟨i6, rfl⟩ : ∃ z, z = q := ⟨q, rfl⟩
              have h : wpk_L_due_198 S v1 v2 v3 v4 v9 v10 Post i6 := h
              have hl : lv_has ls 16 [(1, .int v1), (2, .int v2), (3, .int v3), (4, .int v4), (9, .ref v9), (10, .ref v10), (12, .int i6)] := hl
              unfold wpk_L_due_198 at h
              refine lv_iload hx hb dL_due_198 (lv_at hl 6 rfl) ?_
              refine lv_bipush (v := (nI 24)) hx hb dL_due_200 (by decide) ?_
              refine lv_icmp_le (tgt := 208) hx hb dL_due_202 (by decide) (fun c7 => ?_) (fun c7 => ?_)
              · have h := h.1 c7
                refine lv_bipush (v := (nI 24)) hx hb dL_due_208 (by decide) ?_
                refine r_newa (k := 1) (ty := .int) (N' := 24) C hO (by intro C h; cases h) rfl rfl (List.mem_of_getElem? (i := 1) (by decide +kernel)) (24, .inl (fun _ => 0)) (fun _ => rfl) (by decide) (by decide) (Nat.le_of_ble_eq_true rfl) (Nat.le_of_ble_eq_true rfl) (Nat.le_of_ble_eq_true rfl) dL_due_210 (fun a8 H hqa8 hO => ?_)
                obtain ⟨S9, eS9⟩ : ∃ Sx, Sx = va_up S a8 (aI 24 (fun _ => 0)) := ⟨_, rfl⟩
                have hO := (show HO D Y (fR L s.heap.size) s.heap (va_up S a8 (aI 24 (fun _ => 0))) H _ from hO)
                rw [← eS9] at hO
                have h := h a8 hqa8 S9 eS9
                refine lv_astore (lv' := [(13, .ref a8), (1, .int v1), (2, .int v2), (3, .int v3), (4, .int v4), (9, .ref v9), (10, .ref v10), (12, .int i6)]) hx hb dL_due_212 hl (by decide) rfl (fun ls hl => ?_)
                refine lv_iconst (v := (nI 0)) hx hb dL_due_214 (by decide) ?_
                refine lv_istore (lv' := [(12, .int (nI 0)), (13, .ref a8), (1, .int v1), (2, .int v2), (3, .int v3), (4, .int v4), (9, .ref v9), (10, .ref v10)]) hx hb dL_due_215 hl (by decide) rfl (fun ls hl => ?_)
                refine lv_iload_n hx hb dL_due_217 rfl (lv_at hl 2 rfl) ?_
                refine lv_iconst (v := (nI 4)) hx hb dL_due_218 (by decide) ?_
                refine cut_W D Y (fR L s.heap.size) s.heap (nL := 16) (fun (q : Int32 × PS) => wpk_L_due_346 v2 v9 v10 a8 Post q.1 q.2) (fun q => [(12, .int q.1), (13, .ref a8), (2, .int v2), (9, .ref v9), (10, .ref v10)]) (fun q => q.2) 346 ?_ (fun kc346 => ?_)
                · intro q ls H locs h hl hO
                  obtain ⟨i10, S11⟩ := q
                  have h : wpk_L_due_346 v2 v9 v10 a8 Post i10 S11 := h
                  have hl : lv_has ls 16 [(12, .int i10), (13, .ref a8), (2, .int v2), (9, .ref v9), (10, .ref v10)] := hl
                  have hO : HO D Y (fR L s.heap.size) s.heap S11 H locs := hO
                  unfold wpk_L_due_346 at h
                  refine lv_iload_n hx hb dL_due_346 rfl (lv_at hl 2 rfl) ?_
                  refine lv_aload hx hb dL_due_347 (lv_at hl 1 rfl) ?_
                  refine lv_iload hx hb dL_due_349 (lv_at hl 0 rfl) ?_
                  refine lv_aload hx hb dL_due_351 (lv_at hl 3 rfl) ?_
                  refine lv_aload hx hb dL_due_353 (lv_at hl 4 rfl) ?_
                  refine cS_wv (As := [.int v2, .ref a8, .int i10, .ref v9, .ref v10]) (rest := []) (n := 5) C hO (fun L => c_L_makes l D Y L S11 H.size v2 a8 i10 v9 v10 _ h) (va_cwS 5 hts gL_due_L_makes rfl rfl rfl hdS_L_makes ⟨Nat.le_of_ble_eq_true rfl, Nat.le_of_ble_eq_true rfl⟩) rfl hl.1 rfl (Nat.le_of_ble_eq_true rfl) dL_due_355 ⟨(Nat.le_of_ble_eq_true rfl), (Nat.le_of_ble_eq_true rfl)⟩ (fun S12 H locs h hO => ?_)
                  refine lv_iload hx hb dL_due_358 (lv_at hl 0 rfl) ?_
                  refine W.widen (k := 1003) (n := 12036) (Nat.le_of_ble_eq_true rfl) (Nat.le_of_ble_eq_true rfl) ?_
                  exact W.iret hx hb hr (fun t ht hW => ⟨⟨i10, S12, rfl, h, hO.q ht⟩, hO.f ht⟩) hO.lc dL_due_360
                refine lv_icmp_ne (tgt := 291) hx hb dL_due_219 (by decide) (fun c13 => ?_) (fun c13 => ?_)
                · have h := h.2 c13
                  refine lv_iconst (v := (nI 0)) hx hb dL_due_291 (by decide) ?_
                  refine lv_istore (lv' := [(14, .int (nI 0)), (12, .int (nI 0)), (13, .ref a8), (1, .int v1), (2, .int v2), (3, .int v3), (4, .int v4), (9, .ref v9), (10, .ref v10)]) hx hb dL_due_292 hl (by decide) rfl (fun ls hl => ?_)
                  obtain ⟨n32, h⟩ := h
                  refine lp_W (nL := 16) (fun q => [(14, .int q.1), (12, .int q.2.1), (13, .ref a8), (1, .int v1), (2, .int v2), (3, .int v3), (4, .int v4), (9, .ref v9), (10, .ref v10)]) (fun q => q.2.2) h (lv_sub hl [0, 1, 2, 3, 4, 5, 6, 7, 8] rfl) hO (fun K294 ih294 q ls H locs h hl hO => ?_)
                  obtain ⟨i14, i15, S16⟩ := q
                  have h : wpb_L_due_294 v1 v2 v3 v4 v9 v10 a8 Post K294 i14 i15 S16 := h
                  have hl : lv_has ls 16 [(14, .int i14), (12, .int i15), (13, .ref a8), (1, .int v1), (2, .int v2), (3, .int v3), (4, .int v4), (9, .ref v9), (10, .ref v10)] := hl
                  have hO : HO D Y (fR L s.heap.size) s.heap S16 H locs := hO
                  unfold wpb_L_due_294 at h
                  refine lv_iload hx hb dL_due_294 (lv_at hl 0 rfl) ?_
                  refine lv_iload_n hx hb dL_due_296 rfl (lv_at hl 3 rfl) ?_
                  refine lv_iconst (v := (nI 3)) hx hb dL_due_297 (by decide) ?_
                  refine cut_W D Y (fR L s.heap.size) s.heap (nL := 16) (fun (q : PS) => wpk_L_due_310 v1 v3 v4 v9 v10 a8 i14 i15 K294 q) (fun q => [(14, .int i14), (12, .int i15), (13, .ref a8), (1, .int v1), (2, .int v2), (3, .int v3), (4, .int v4), (9, .ref v9), (10, .ref v10)]) (fun q => q) 310 ?_ (fun kc310 => ?_)
                  · intro q ls H locs h hl hO
                    obtain ⟨S17, rfl⟩ : ∃ z, z = q := ⟨q, rfl⟩
                    have h : wpk_L_due_310 v1 v3 v4 v9 v10 a8 i14 i15 K294 S17 := h
                    have hl : lv_has ls 16 [(14, .int i14), (12, .int i15), (13, .ref a8), (1, .int v1), (2, .int v2), (3, .int v3), (4, .int v4), (9, .ref v9), (10, .ref v10)] := hl
                    have hO : HO D Y (fR L s.heap.size) s.heap S17 H locs := hO
                    unfold wpk_L_due_310 at h
                    refine lv_iload_n hx hb dL_due_310 rfl (lv_at hl 3 rfl) ?_
                    refine lv_iconst (v := (nI 3)) hx hb dL_due_311 (by decide) ?_
                    refine lv_icmp_ne (tgt := 326) hx hb dL_due_312 (by decide) (fun c18 => ?_) (fun c18 => ?_)
                    · have h := h.2 c18
                      refine lv_iload_n hx hb dL_due_326 rfl (lv_at hl 5 rfl) ?_
                      refine lv_iload hx hb dL_due_327 (lv_at hl 1 rfl) ?_
                      refine lv_aload hx hb dL_due_329 (lv_at hl 7 rfl) ?_
                      refine lv_aload hx hb dL_due_331 (lv_at hl 8 rfl) ?_
                      refine lv_aload hx hb dL_due_333 (lv_at hl 2 rfl) ?_
                      refine cS_wi (As := [.int v3, .int i15, .ref v9, .ref v10, .ref a8]) (rest := []) (n := 5) C hO (fun L => c_L_puts l D Y L S17 H.size v3 i15 v9 v10 a8 _ h) (va_cwS 5 hts gL_due_L_puts rfl rfl rfl hdS_L_puts ⟨Nat.le_of_ble_eq_true rfl, Nat.le_of_ble_eq_true rfl⟩) rfl hl.1 rfl (Nat.le_of_ble_eq_true rfl) dL_due_335 ⟨(Nat.le_of_ble_eq_true rfl), (Nat.le_of_ble_eq_true rfl)⟩ (fun i19 S20 H locs h hO => ?_)
                      refine lv_istore (lv' := [(12, .int i19), (14, .int i14), (13, .ref a8), (1, .int v1), (2, .int v2), (3, .int v3), (4, .int v4), (9, .ref v9), (10, .ref v10)]) hx hb dL_due_338 hl (by decide) rfl (fun ls hl => ?_)
                      obtain ⟨i21, ei21⟩ : ∃ y : Int32, y = i14 + (nI 1) := ⟨_, rfl⟩
                      have h := h i21 ei21
                      refine lv_iinc (v := i21) (lv' := [(14, .int i21), (12, .int i19), (13, .ref a8), (1, .int v1), (2, .int v2), (3, .int v3), (4, .int v4), (9, .ref v9), (10, .ref v10)]) hx hb dL_due_340 hl (k := 1) rfl (by rw [ei21]; rfl) (by decide) rfl (fun ls hl => ?_)
                      refine lv_goto (tgt := 294) hx hb dL_due_343 (by decide) ?_
                      exact ih294 (i21, i19, S20) _ _ _ h (lv_sub hl [0, 1, 2, 3, 4, 5, 6, 7, 8] rfl) hO
                    · have h := h.1 c18
                      refine lv_iload hx hb dL_due_315 (lv_at hl 0 rfl) ?_
                      refine lv_iconst (v := (nI 1)) hx hb dL_due_317 (by decide) ?_
                      refine lv_icmp_ne (tgt := 326) hx hb dL_due_318 (by decide) (fun c22 => ?_) (fun c22 => ?_)
                      · have h := h.2 c22
                        refine lv_iload_n hx hb dL_due_326 rfl (lv_at hl 5 rfl) ?_
                        refine lv_iload hx hb dL_due_327 (lv_at hl 1 rfl) ?_
                        refine lv_aload hx hb dL_due_329 (lv_at hl 7 rfl) ?_
                        refine lv_aload hx hb dL_due_331 (lv_at hl 8 rfl) ?_
                        refine lv_aload hx hb dL_due_333 (lv_at hl 2 rfl) ?_
                        refine cS_wi (As := [.int v3, .int i15, .ref v9, .ref v10, .ref a8]) (rest := []) (n := 5) C hO (fun L => c_L_puts l D Y L S17 H.size v3 i15 v9 v10 a8 _ h) (va_cwS 5 hts gL_due_L_puts rfl rfl rfl hdS_L_puts ⟨Nat.le_of_ble_eq_true rfl, Nat.le_of_ble_eq_true rfl⟩) rfl hl.1 rfl (Nat.le_of_ble_eq_true rfl) dL_due_335 ⟨(Nat.le_of_ble_eq_true rfl), (Nat.le_of_ble_eq_true rfl)⟩ (fun i23 S24 H locs h hO => ?_)
                        refine lv_istore (lv' := [(12, .int i23), (14, .int i14), (13, .ref a8), (1, .int v1), (2, .int v2), (3, .int v3), (4, .int v4), (9, .ref v9), (10, .ref v10)]) hx hb dL_due_338 hl (by decide) rfl (fun ls hl => ?_)
                        obtain ⟨i25, ei25⟩ : ∃ y : Int32, y = i14 + (nI 1) := ⟨_, rfl⟩
                        have h := h i25 ei25
                        refine lv_iinc (v := i25) (lv' := [(14, .int i25), (12, .int i23), (13, .ref a8), (1, .int v1), (2, .int v2), (3, .int v3), (4, .int v4), (9, .ref v9), (10, .ref v10)]) hx hb dL_due_340 hl (k := 1) rfl (by rw [ei25]; rfl) (by decide) rfl (fun ls hl => ?_)
                        refine lv_goto (tgt := 294) hx hb dL_due_343 (by decide) ?_
                        exact ih294 (i25, i23, S24) _ _ _ h (lv_sub hl [0, 1, 2, 3, 4, 5, 6, 7, 8] rfl) hO
                      · have h := h.1 c22
                        refine lv_iload hx hb dL_due_321 (lv_at hl 6 rfl) ?_
                        refine lv_goto (tgt := 327) hx hb dL_due_323 (by decide) ?_
                        refine lv_iload hx hb dL_due_327 (lv_at hl 1 rfl) ?_
                        refine lv_aload hx hb dL_due_329 (lv_at hl 7 rfl) ?_
                        refine lv_aload hx hb dL_due_331 (lv_at hl 8 rfl) ?_
                        refine lv_aload hx hb dL_due_333 (lv_at hl 2 rfl) ?_
                        refine cS_wi (As := [.int v4, .int i15, .ref v9, .ref v10, .ref a8]) (rest := []) (n := 5) C hO (fun L => c_L_puts l D Y L S17 H.size v4 i15 v9 v10 a8 _ h) (va_cwS 5 hts gL_due_L_puts rfl rfl rfl hdS_L_puts ⟨Nat.le_of_ble_eq_true rfl, Nat.le_of_ble_eq_true rfl⟩) rfl hl.1 rfl (Nat.le_of_ble_eq_true rfl) dL_due_335 ⟨(Nat.le_of_ble_eq_true rfl), (Nat.le_of_ble_eq_true rfl)⟩ (fun i26 S27 H locs h hO => ?_)
                        refine lv_istore (lv' := [(12, .int i26), (14, .int i14), (13, .ref a8), (1, .int v1), (2, .int v2), (3, .int v3), (4, .int v4), (9, .ref v9), (10, .ref v10)]) hx hb dL_due_338 hl (by decide) rfl (fun ls hl => ?_)
                        obtain ⟨i28, ei28⟩ : ∃ y : Int32, y = i14 + (nI 1) := ⟨_, rfl⟩
                        have h := h i28 ei28
                        refine lv_iinc (v := i28) (lv' := [(14, .int i28), (12, .int i26), (13, .ref a8), (1, .int v1), (2, .int v2), (3, .int v3), (4, .int v4), (9, .ref v9), (10, .ref v10)]) hx hb dL_due_340 hl (k := 1) rfl (by rw [ei28]; rfl) (by decide) rfl (fun ls hl => ?_)
                        refine lv_goto (tgt := 294) hx hb dL_due_343 (by decide) ?_
                        exact ih294 (i28, i26, S27) _ _ _ h (lv_sub hl [0, 1, 2, 3, 4, 5, 6, 7, 8] rfl) hO
                  refine lv_icmp_ne (tgt := 305) hx hb dL_due_298 (by decide) (fun c29 => ?_) (fun c29 => ?_)
                  · have h := h.2 c29
                    refine lv_iload hx hb dL_due_305 (lv_at hl 6 rfl) ?_
                    refine lv_icmp_ge (tgt := 346) hx hb dL_due_307 (by decide) (fun c30 => ?_) (fun c30 => ?_)
                    · have h := h.1 c30
                      exact kc346 (i15, S16) _ _ _ h (lv_sub hl [1, 2, 4, 7, 8] rfl) hO
                    · have h := h.2 c30
                      exact kc310 S16 _ _ _ h (lv_sub hl [0, 1, 2, 3, 4, 5, 6, 7, 8] rfl) hO
                  · have h := h.1 c29
                    refine lv_iconst (v := (nI 2)) hx hb dL_due_301 (by decide) ?_
                    refine lv_goto (tgt := 307) hx hb dL_due_302 (by decide) ?_
                    refine lv_icmp_ge (tgt := 346) hx hb dL_due_307 (by decide) (fun c31 => ?_) (fun c31 => ?_)
                    · have h := h.1 c31
                      exact kc346 (i15, S16) _ _ _ h (lv_sub hl [1, 2, 4, 7, 8] rfl) hO
                    · have h := h.2 c31
                      exact kc310 S16 _ _ _ h (lv_sub hl [0, 1, 2, 3, 4, 5, 6, 7, 8] rfl) hO
                · have h := h.1 c13
                  refine lv_iconst (v := (nI 0)) hx hb dL_due_222 (by decide) ?_
                  refine lv_istore (lv' := [(14, .int (nI 0)), (12, .int (nI 0)), (13, .ref a8), (1, .int v1), (2, .int v2), (3, .int v3), (4, .int v4), (9, .ref v9), (10, .ref v10)]) hx hb dL_due_223 hl (by decide) rfl (fun ls hl => ?_)
                  obtain ⟨n60, h⟩ := h
                  refine lp_W (nL := 16) (fun q => [(14, .int q.1), (13, .ref a8), (2, .int v2), (3, .int v3), (9, .ref v9), (10, .ref v10)]) (fun q => q.2) h (lv_sub hl [0, 2, 4, 5, 7, 8] rfl) hO (fun K225 ih225 q ls H locs h hl hO => ?_)
                  obtain ⟨i33, S34⟩ := q
                  have h : wpb_L_due_225 v2 v3 v9 v10 a8 Post K225 i33 S34 := h
                  have hl : lv_has ls 16 [(14, .int i33), (13, .ref a8), (2, .int v2), (3, .int v3), (9, .ref v9), (10, .ref v10)] := hl
                  have hO : HO D Y (fR L s.heap.size) s.heap S34 H locs := hO
                  unfold wpb_L_due_225 at h
                  refine lv_iload hx hb dL_due_225 (lv_at hl 0 rfl) ?_
                  refine lv_aload hx hb dL_due_227 (lv_at hl 4 rfl) ?_
                  refine lv_iload_n hx hb dL_due_229 rfl (lv_at hl 3 rfl) ?_
                  obtain ⟨n35, f36, i38, e37, e37', exi38, h⟩ := h
                  refine r_iald C hO e37 e37' dL_due_230 ?_
                  rw [exi38]
                  refine lv_icmp_ge (tgt := 282) hx hb dL_due_231 (by decide) (fun c39 => ?_) (fun c39 => ?_)
                  · have h := h.1 c39
                    refine lv_aload hx hb dL_due_282 (lv_at hl 4 rfl) ?_
                    refine lv_iload_n hx hb dL_due_284 rfl (lv_at hl 3 rfl) ?_
                    obtain ⟨n40, f41, i43, e42, e42', exi43, h⟩ := h
                    refine r_iald C hO e42 e42' dL_due_285 ?_
                    rw [exi43]
                    refine lv_istore (lv' := [(12, .int i43), (14, .int i33), (13, .ref a8), (2, .int v2), (3, .int v3), (9, .ref v9), (10, .ref v10)]) hx hb dL_due_286 hl (by decide) rfl (fun ls hl => ?_)
                    refine lv_goto (tgt := 346) hx hb dL_due_288 (by decide) ?_
                    exact kc346 (i43, S34) _ _ _ h (lv_sub hl [0, 2, 3, 5, 6] rfl) hO
                  · have h := h.2 c39
                    refine lv_iload_n hx hb dL_due_234 rfl (lv_at hl 3 rfl) ?_
                    refine lv_aload hx hb dL_due_235 (lv_at hl 4 rfl) ?_
                    refine lv_iload_n hx hb dL_due_237 rfl (lv_at hl 3 rfl) ?_
                    obtain ⟨n44, f45, i47, e46, e46', exi47, h⟩ := h
                    refine r_iald C hO e46 e46' dL_due_238 ?_
                    rw [exi47]
                    refine lv_iconst (v := (nI 1)) hx hb dL_due_239 (by decide) ?_
                    refine lv_isub hx hb dL_due_240 ?_
                    refine lv_iload hx hb dL_due_241 (lv_at hl 0 rfl) ?_
                    refine lv_isub hx hb dL_due_243 ?_
                    refine lv_aload hx hb dL_due_244 (lv_at hl 5 rfl) ?_
                    refine cS_ri (As := [.int v3, .int ((i47 - (nI 1)) - i33), .ref v10]) (rest := []) (n := 3) C hO (fun L => c_L_pressAt l D Y L S34 H.size v3 (((i47 - (nI 1)) - i33)) v10 _ h) (va_cwS 3 hts gL_due_L_pressAt rfl rfl rfl hdS_L_pressAt ⟨Nat.le_of_ble_eq_true rfl, Nat.le_of_ble_eq_true rfl⟩) rfl hl.1 rfl (Nat.le_of_ble_eq_true rfl) dL_due_246 ⟨(Nat.le_of_ble_eq_true rfl), (Nat.le_of_ble_eq_true rfl)⟩ (fun i48 h => ?_)
                    refine lv_istore (lv' := [(15, .int i48), (14, .int i33), (13, .ref a8), (2, .int v2), (3, .int v3), (9, .ref v9), (10, .ref v10)]) hx hb dL_due_249 hl (by decide) rfl (fun ls hl => ?_)
                    refine lv_aload hx hb dL_due_251 (lv_at hl 2 rfl) ?_
                    refine lv_iload hx hb dL_due_253 (lv_at hl 1 rfl) ?_
                    refine lv_iload hx hb dL_due_255 (lv_at hl 0 rfl) ?_
                    refine lv_bipush (v := (nI 6)) hx hb dL_due_257 (by decide) ?_
                    refine lv_icmp_ge (tgt := 270) hx hb dL_due_259 (by decide) (fun c49 => ?_) (fun c49 => ?_)
                    · have h := h.1 c49
                      refine lv_iload hx hb dL_due_270 (lv_at hl 0 rfl) ?_
                      refine lv_bipush (v := (nI 6)) hx hb dL_due_272 (by decide) ?_
                      refine lv_isub hx hb dL_due_274 ?_
                      obtain ⟨n50, f51, e52, e52', h⟩ := h
                      refine r_iast C hO e52 e52' dL_due_275 (fun H locs hO => ?_)
                      obtain ⟨S53, eS53⟩ : ∃ Sx, Sx = va_up S34 a8 (aI n50 (upd f51 (i33).toNatClampNeg (i48 - (nI 6)))) := ⟨_, rfl⟩
                      rw [← eS53] at hO
                      have h := h S53 eS53
                      obtain ⟨i54, ei54⟩ : ∃ y : Int32, y = i33 + (nI 1) := ⟨_, rfl⟩
                      have h := h i54 ei54
                      refine lv_iinc (v := i54) (lv' := [(14, .int i54), (15, .int i48), (13, .ref a8), (2, .int v2), (3, .int v3), (9, .ref v9), (10, .ref v10)]) hx hb dL_due_276 hl (k := 1) rfl (by rw [ei54]; rfl) (by decide) rfl (fun ls hl => ?_)
                      refine lv_goto (tgt := 225) hx hb dL_due_279 (by decide) ?_
                      exact ih225 (i54, S53) _ _ _ h (lv_sub hl [0, 2, 3, 4, 5, 6] rfl) hO
                    · have h := h.2 c49
                      refine lv_iload hx hb dL_due_262 (lv_at hl 0 rfl) ?_
                      refine lv_bipush (v := (nI 6)) hx hb dL_due_264 (by decide) ?_
                      refine lv_iadd hx hb dL_due_266 ?_
                      refine lv_goto (tgt := 275) hx hb dL_due_267 (by decide) ?_
                      obtain ⟨n55, f56, e57, e57', h⟩ := h
                      refine r_iast C hO e57 e57' dL_due_275 (fun H locs hO => ?_)
                      obtain ⟨S58, eS58⟩ : ∃ Sx, Sx = va_up S34 a8 (aI n55 (upd f56 (i33).toNatClampNeg (i48 + (nI 6)))) := ⟨_, rfl⟩
                      rw [← eS58] at hO
                      have h := h S58 eS58
                      obtain ⟨i59, ei59⟩ : ∃ y : Int32, y = i33 + (nI 1) := ⟨_, rfl⟩
                      have h := h i59 ei59
                      refine lv_iinc (v := i59) (lv' := [(14, .int i59), (15, .int i48), (13, .ref a8), (2, .int v2), (3, .int v3), (9, .ref v9), (10, .ref v10)]) hx hb dL_due_276 hl (k := 1) rfl (by rw [ei59]; rfl) (by decide) rfl (fun ls hl => ?_)
                      refine lv_goto (tgt := 225) hx hb dL_due_279 (by decide) ?_
                      exact ih225 (i59, S58) _ _ _ h (lv_sub hl [0, 2, 3, 4, 5, 6] rfl) hO
              · have h := h.2 c7
                refine lv_bipush (v := (-4 : Int32)) hx hb dL_due_205 (by decide) ?_
                refine W.widen (k := 1003) (n := 12036) (Nat.le_of_ble_eq_true rfl) (Nat.le_of_ble_eq_true rfl) ?_
                exact W.iret hx hb hr (fun t ht hW => ⟨⟨(-4 : Int32), S, rfl, h, hO.q ht⟩, hO.f ht⟩) hO.lc dL_due_207
            refine lv_icmp_ne (tgt := 177) hx hb dL_due_161 (by decide) (fun c61 => ?_) (fun c61 => ?_)
            · have h := h.2 c61
              refine lv_iload_n hx hb dL_due_177 rfl (lv_at hl 1 rfl) ?_
              refine lv_iconst (v := (nI 4)) hx hb dL_due_178 (by decide) ?_
              refine lv_icmp_ne (tgt := 189) hx hb dL_due_179 (by decide) (fun c62 => ?_) (fun c62 => ?_)
              · have h := h.2 c62
                refine lv_iload hx hb dL_due_189 (lv_at hl 4 rfl) ?_
                refine lv_aload hx hb dL_due_191 (lv_at hl 9 rfl) ?_
                refine lv_iload_n hx hb dL_due_193 rfl (lv_at hl 3 rfl) ?_
                obtain ⟨n63, f64, i66, e65, e65', exi66, h⟩ := h
                refine r_iald C hO e65 e65' dL_due_194 ?_
                rw [exi66]
                refine lv_imul hx hb dL_due_195 ?_
                refine lv_topi (fun i67 ei67 => ?_)
                have h := h i67 ei67
                refine lv_istore (lv' := [(12, .int i67), (0, .int v0), (1, .int v1), (2, .int v2), (3, .int v3), (4, .int v4), (5, .ref v5), (6, .ref v6), (7, .ref v7), (8, .ref v8), (9, .ref v9), (10, .ref v10), (11, .ref v11)]) hx hb dL_due_196 hl (by decide) rfl (fun ls hl => ?_)
                exact kc198 i67 _ h (lv_sub hl [2, 3, 4, 5, 10, 11, 0] rfl)
              · have h := h.1 c62
                refine lv_aload hx hb dL_due_182 (lv_at hl 9 rfl) ?_
                refine lv_iload_n hx hb dL_due_184 rfl (lv_at hl 3 rfl) ?_
                obtain ⟨n68, f69, i71, e70, e70', exi71, h⟩ := h
                refine r_iald C hO e70 e70' dL_due_185 ?_
                rw [exi71]
                refine lv_goto (tgt := 196) hx hb dL_due_186 (by decide) ?_
                refine lv_istore (lv' := [(12, .int i71), (0, .int v0), (1, .int v1), (2, .int v2), (3, .int v3), (4, .int v4), (5, .ref v5), (6, .ref v6), (7, .ref v7), (8, .ref v8), (9, .ref v9), (10, .ref v10), (11, .ref v11)]) hx hb dL_due_196 hl (by decide) rfl (fun ls hl => ?_)
                exact kc198 i71 _ h (lv_sub hl [2, 3, 4, 5, 10, 11, 0] rfl)
            · have h := h.1 c61
              refine lv_aload hx hb dL_due_164 (lv_at hl 9 rfl) ?_
              refine lv_iload_n hx hb dL_due_166 rfl (lv_at hl 3 rfl) ?_
              obtain ⟨n72, f73, i75, e74, e74', exi75, h⟩ := h
              refine r_iald C hO e74 e74' dL_due_167 ?_
              rw [exi75]
              refine lv_aload hx hb dL_due_168 (lv_at hl 9 rfl) ?_
              refine lv_iload hx hb dL_due_170 (lv_at hl 4 rfl) ?_
              obtain ⟨n76, f77, i79, e78, e78', exi79, h⟩ := h
              refine r_iald C hO e78 e78' dL_due_172 ?_
              rw [exi79]
              refine lv_iadd hx hb dL_due_173 ?_
              refine lv_goto (tgt := 196) hx hb dL_due_174 (by decide) ?_
              refine lv_topi (fun i80 ei80 => ?_)
              have h := h i80 ei80
              refine lv_istore (lv' := [(12, .int i80), (0, .int v0), (1, .int v1), (2, .int v2), (3, .int v3), (4, .int v4), (5, .ref v5), (6, .ref v6), (7, .ref v7), (8, .ref v8), (9, .ref v9), (10, .ref v10), (11, .ref v11)]) hx hb dL_due_196 hl (by decide) rfl (fun ls hl => ?_)
              exact kc198 i80 _ h (lv_sub hl [2, 3, 4, 5, 10, 11, 0] rfl)
          · have h := h.1 c5
            refine lv_aload hx hb dL_due_145 (lv_at hl 8 rfl) ?_
            refine lv_iload_n hx hb dL_due_147 rfl (lv_at hl 2 rfl) ?_
            obtain ⟨n81, f82, i84, e83, e83', exi84, h⟩ := h
            refine r_iald C hO e83 e83' dL_due_148 ?_
            rw [exi84]
            refine lv_istore (lv' := [(12, .int i84), (0, .int v0), (1, .int v1), (2, .int v2), (3, .int v3), (4, .int v4), (5, .ref v5), (6, .ref v6), (7, .ref v7), (8, .ref v8), (9, .ref v9), (10, .ref v10), (11, .ref v11)]) hx hb dL_due_149 hl (by decide) rfl (fun ls hl => ?_)
            refine lv_aload hx hb dL_due_151 (lv_at hl 9 rfl) ?_
            refine lv_iload_n hx hb dL_due_153 rfl (lv_at hl 3 rfl) ?_
            refine lv_iload_n hx hb dL_due_154 rfl (lv_at hl 4 rfl) ?_
            obtain ⟨n85, f86, e87, e87', h⟩ := h
            refine r_iast C hO e87 e87' dL_due_155 (fun H locs hO => ?_)
            obtain ⟨S88, eS88⟩ : ∃ Sx, Sx = va_up S v8 (aI n85 (upd f86 (v2).toNatClampNeg v3)) := ⟨_, rfl⟩
            rw [← eS88] at hO
            have h := h S88 eS88
            refine lv_iload hx hb dL_due_156 (lv_at hl 0 rfl) ?_
            refine W.widen (k := 1003) (n := 12036) (Nat.le_of_ble_eq_true rfl) (Nat.le_of_ble_eq_true rfl) ?_
            exact W.iret hx hb hr (fun t ht hW => ⟨⟨i84, S88, rfl, h, hO.q ht⟩, hO.f ht⟩) hO.lc dL_due_158
        · have h := h.1 c4
          refine lv_bipush (v := (nI 12)) hx hb dL_due_68 (by decide) ?_
          refine r_newa (k := 1) (ty := .int) (N' := 12) C hO (by intro C h; cases h) rfl rfl (List.mem_of_getElem? (i := 1) (by decide +kernel)) (12, .inl (fun _ => 0)) (fun _ => rfl) (by decide) (by decide) (Nat.le_of_ble_eq_true rfl) (Nat.le_of_ble_eq_true rfl) (Nat.le_of_ble_eq_true rfl) dL_due_70 (fun a89 H hqa89 hO => ?_)
          obtain ⟨S90, eS90⟩ : ∃ Sx, Sx = va_up S a89 (aI 12 (fun _ => 0)) := ⟨_, rfl⟩
          have hO := (show HO D Y (fR L s.heap.size) s.heap (va_up S a89 (aI 12 (fun _ => 0))) H _ from hO)
          rw [← eS90] at hO
          have h := h a89 hqa89 S90 eS90
          refine lv_astore (lv' := [(12, .ref a89), (0, .int v0), (1, .int v1), (2, .int v2), (3, .int v3), (4, .int v4), (5, .ref v5), (6, .ref v6), (7, .ref v7), (8, .ref v8), (9, .ref v9), (10, .ref v10), (11, .ref v11)]) hx hb dL_due_72 hl (by decide) rfl (fun ls hl => ?_)
          refine lv_iload_n hx hb dL_due_74 rfl (lv_at hl 3 rfl) ?_
          refine lv_aload hx hb dL_due_75 (lv_at hl 6 rfl) ?_
          refine lv_aload hx hb dL_due_77 (lv_at hl 7 rfl) ?_
          refine lv_aload hx hb dL_due_79 (lv_at hl 10 rfl) ?_
          refine lv_aload hx hb dL_due_81 (lv_at hl 11 rfl) ?_
          refine lv_aload hx hb dL_due_83 (lv_at hl 0 rfl) ?_
          refine cS_wv (As := [.int v2, .ref v5, .ref v6, .ref v9, .ref v10, .ref a89]) (rest := []) (n := 6) C hO (fun L => c_L_lay l D Y L S90 H.size v2 v5 v6 v9 v10 a89 _ h) (va_cwS 6 hts gL_due_L_lay rfl rfl rfl hdS_L_lay ⟨Nat.le_of_ble_eq_true rfl, Nat.le_of_ble_eq_true rfl⟩) rfl hl.1 rfl (Nat.le_of_ble_eq_true rfl) dL_due_85 ⟨(Nat.le_of_ble_eq_true rfl), (Nat.le_of_ble_eq_true rfl)⟩ (fun S91 H locs h hO => ?_)
          refine lv_iconst (v := (nI 0)) hx hb dL_due_88 (by decide) ?_
          refine lv_istore (lv' := [(13, .int (nI 0)), (12, .ref a89), (0, .int v0), (1, .int v1), (2, .int v2), (3, .int v3), (4, .int v4), (5, .ref v5), (6, .ref v6), (7, .ref v7), (8, .ref v8), (9, .ref v9), (10, .ref v10), (11, .ref v11)]) hx hb dL_due_89 hl (by decide) rfl (fun ls hl => ?_)
          refine lp_WA (nL := 16) 1001 1 12 (fun q => [(13, .int q.1), (12, .ref a89), (2, .int v2), (3, .int v3), (7, .ref v7), (9, .ref v9)]) (fun q => q.2) h (lv_sub hl [0, 1, 4, 5, 9, 11] rfl) hO (fun cz91 sz91 hz91 hs91 K91 ih91 q ls H locs h hl hO => ?_)
          obtain ⟨i92, S93⟩ := q
          have h : wpb_L_due_91 v2 v3 v7 v9 a89 Post K91 i92 S93 := h
          have hl : lv_has ls 16 [(13, .int i92), (12, .ref a89), (2, .int v2), (3, .int v3), (7, .ref v7), (9, .ref v9)] := hl
          have hO : HO D Y (fR L s.heap.size) s.heap S93 H locs := hO
          unfold wpb_L_due_91 at h
          refine lv_iload hx hb dL_due_91 (lv_at hl 0 rfl) ?_
          refine lv_iload_n hx hb dL_due_93 rfl (lv_at hl 3 rfl) ?_
          refine lv_icmp_ge (tgt := 110) hx hb dL_due_94 (by decide) (fun c94 => ?_) (fun c94 => ?_)
          · have h := h.1 c94
            refine W.widen (k := 1003) (n := 12036) (by omega) (by omega) ?_
            refine lv_aload hx hb dL_due_110 (lv_at hl 5 rfl) ?_
            refine lv_bipush (v := (nI 6)) hx hb dL_due_112 (by decide) ?_
            refine lv_dup2_11 hx hb dL_due_114 rfl rfl ?_
            obtain ⟨n95, f96, i98, e97, e97', exi98, h⟩ := h
            refine r_iald C hO e97 e97' dL_due_115 ?_
            rw [exi98]
            refine lv_iload_n hx hb dL_due_116 rfl (lv_at hl 3 rfl) ?_
            refine lv_aload hx hb dL_due_117 (lv_at hl 5 rfl) ?_
            refine lv_iload_n hx hb dL_due_119 rfl (lv_at hl 2 rfl) ?_
            obtain ⟨n99, f100, i102, e101, e101', exi102, h⟩ := h
            refine r_iald C hO e101 e101' dL_due_120 ?_
            rw [exi102]
            refine lv_imul hx hb dL_due_121 ?_
            refine lv_iadd hx hb dL_due_122 ?_
            obtain ⟨n103, f104, e105, e105', h⟩ := h
            refine r_iast C hO e105 e105' dL_due_123 (fun H locs hO => ?_)
            obtain ⟨S106, eS106⟩ : ∃ Sx, Sx = va_up S93 v9 (aI n103 (upd f104 ((nI 6)).toNatClampNeg (i98 + (v3 * i102)))) := ⟨_, rfl⟩
            rw [← eS106] at hO
            have h := h S106 eS106
            refine lv_aload hx hb dL_due_124 (lv_at hl 5 rfl) ?_
            refine lv_bipush (v := (nI 7)) hx hb dL_due_126 (by decide) ?_
            refine lv_dup2_11 hx hb dL_due_128 rfl rfl ?_
            obtain ⟨n107, f108, i110, e109, e109', exi110, h⟩ := h
            refine r_iald C hO e109 e109' dL_due_129 ?_
            rw [exi110]
            refine lv_iload_n hx hb dL_due_130 rfl (lv_at hl 3 rfl) ?_
            refine lv_iadd hx hb dL_due_131 ?_
            obtain ⟨n111, f112, e113, e113', h⟩ := h
            refine r_iast C hO e113 e113' dL_due_132 (fun H locs hO => ?_)
            obtain ⟨S114, eS114⟩ : ∃ Sx, Sx = va_up S106 v9 (aI n111 (upd f112 ((nI 7)).toNatClampNeg (i110 + v3))) := ⟨_, rfl⟩
            rw [← eS114] at hO
            have h := h S114 eS114
            refine lv_aload hx hb dL_due_133 (lv_at hl 4 rfl) ?_
            refine cS_ri (As := [.ref v7]) (rest := []) (n := 1) C hO (fun L => c_L_home l D Y L S114 H.size v7 _ h) (va_cwS 1 hts gL_due_L_home rfl rfl rfl hdS_L_home ⟨Nat.le_of_ble_eq_true rfl, Nat.le_of_ble_eq_true rfl⟩) rfl hl.1 rfl (Nat.le_of_ble_eq_true rfl) dL_due_135 ⟨(Nat.le_of_ble_eq_true rfl), (Nat.le_of_ble_eq_true rfl)⟩ (fun i115 h => ?_)
            exact W.iret hx hb hr (fun t ht hW => ⟨⟨i115, S114, rfl, h, hO.q ht⟩, hO.f ht⟩) hO.lc dL_due_138
          · have h := h.2 c94
            refine lv_aload hx hb dL_due_97 (lv_at hl 1 rfl) ?_
            refine lv_aload hx hb dL_due_99 (lv_at hl 4 rfl) ?_
            refine cS_wv (As := [.ref a89, .ref v7]) (rest := []) (n := 2) C hO (fun L => c_L_weaves l D Y L S93 H.size a89 v7 _ h) (va_cwS 2 hts gL_due_L_weaves rfl rfl rfl hdS_L_weaves ⟨Nat.le_of_ble_eq_true rfl, Nat.le_of_ble_eq_true rfl⟩) rfl hl.1 rfl (Nat.le_of_ble_eq_true rfl) dL_due_101 ⟨(show cz91 + 0 + 1 ≤ 1003 by omega), (show sz91 + 0 + 12 ≤ 12036 by omega)⟩ (fun S116 H locs h hO => ?_)
            obtain ⟨i117, ei117⟩ : ∃ y : Int32, y = i92 + (nI 1) := ⟨_, rfl⟩
            have h := h i117 ei117
            refine lv_iinc (v := i117) (lv' := [(13, .int i117), (12, .ref a89), (2, .int v2), (3, .int v3), (7, .ref v7), (9, .ref v9)]) hx hb dL_due_104 hl (k := 0) rfl (by rw [ei117]; rfl) (by decide) rfl (fun ls hl => ?_)
            refine lv_goto (tgt := 91) hx hb dL_due_107 (by decide) ?_
            refine W.widen (k := cz91 + 1) (n := sz91 + 12) (by omega) (by omega) ?_
            exact ih91 (i117, S116) _ _ _ h (lv_sub hl [0, 1, 2, 3, 4, 5] rfl) hO
      · have h := h.1 c3
        refine lv_iload_n hx hb dL_due_45 rfl (lv_at hl 0 rfl) ?_
        refine lv_if_le (tgt := 60) hx hb dL_due_46 (by decide) (fun c119 => ?_) (fun c119 => ?_)
        · have h := h.1 c119
          refine lv_iload_n hx hb dL_due_60 rfl (lv_at hl 0 rfl) ?_
          refine W.widen (k := 1003) (n := 12036) (Nat.le_of_ble_eq_true rfl) (Nat.le_of_ble_eq_true rfl) ?_
          exact W.iret hx hb hr (fun t ht hW => ⟨⟨v0, S, rfl, h, hO.q ht⟩, hO.f ht⟩) hO.lc dL_due_61
        · have h := h.2 c119
          refine lv_iload_n hx hb dL_due_49 rfl (lv_at hl 2 rfl) ?_
          refine lv_aload hx hb dL_due_50 (lv_at hl 11 rfl) ?_
          refine lv_iload_n hx hb dL_due_52 rfl (lv_at hl 0 rfl) ?_
          refine lv_aload hx hb dL_due_53 (lv_at hl 9 rfl) ?_
          refine lv_aload hx hb dL_due_55 (lv_at hl 10 rfl) ?_
          refine cS_wv (As := [.int v2, .ref v11, .int v0, .ref v9, .ref v10]) (rest := []) (n := 5) C hO (fun L => c_L_makes l D Y L S s.heap.size v2 v11 v0 v9 v10 _ h) (va_cwS 5 hts gL_due_L_makes rfl rfl rfl hdS_L_makes ⟨Nat.le_of_ble_eq_true rfl, Nat.le_of_ble_eq_true rfl⟩) rfl hl.1 rfl (Nat.le_of_ble_eq_true rfl) dL_due_57 ⟨(Nat.le_of_ble_eq_true rfl), (Nat.le_of_ble_eq_true rfl)⟩ (fun S120 H locs h hO => ?_)
          refine lv_iload_n hx hb dL_due_60 rfl (lv_at hl 0 rfl) ?_
          refine W.widen (k := 1003) (n := 12036) (Nat.le_of_ble_eq_true rfl) (Nat.le_of_ble_eq_true rfl) ?_
          exact W.iret hx hb hr (fun t ht hW => ⟨⟨v0, S120, rfl, h, hO.q ht⟩, hO.f ht⟩) hO.lc dL_due_61
    · have h := h.1 c2
      refine lv_aload hx hb dL_due_23 (lv_at hl 6 rfl) ?_
      refine lv_iload_n hx hb dL_due_25 rfl (lv_at hl 2 rfl) ?_
      refine lv_iload_n hx hb dL_due_26 rfl (lv_at hl 3 rfl) ?_
      obtain ⟨n121, f122, e123, e123', h⟩ := h
      refine r_iast C hO e123 e123' dL_due_27 (fun H locs hO => ?_)
      obtain ⟨S124, eS124⟩ : ∃ Sx, Sx = va_up S v6 (aI n121 (upd f122 (v2).toNatClampNeg v3)) := ⟨_, rfl⟩
      rw [← eS124] at hO
      have h := h S124 eS124
      refine lv_iload_n hx hb dL_due_28 rfl (lv_at hl 2 rfl) ?_
      refine lv_aload hx hb dL_due_29 (lv_at hl 5 rfl) ?_
      refine lv_aload hx hb dL_due_31 (lv_at hl 6 rfl) ?_
      refine cS_ri (As := [.int v2, .ref v5, .ref v6]) (rest := []) (n := 3) C hO (fun L => c_L_raised l D Y L S124 H.size v2 v5 v6 _ h) (va_cwS 3 hts gL_due_L_raised rfl rfl rfl hdS_L_raised ⟨Nat.le_of_ble_eq_true rfl, Nat.le_of_ble_eq_true rfl⟩) rfl hl.1 rfl (Nat.le_of_ble_eq_true rfl) dL_due_33 ⟨(Nat.le_of_ble_eq_true rfl), (Nat.le_of_ble_eq_true rfl)⟩ (fun i125 h => ?_)
      refine cS_si (As := [.int i125]) (rest := []) (n := 1) CF hZ (c_L_ones l i125 _ h) (va_cwS 1 hts gL_due_L_ones rfl rfl rfl hdS_L_ones ⟨Nat.le_of_ble_eq_true rfl, Nat.le_of_ble_eq_true rfl⟩) rfl hl.1 rfl (Nat.le_of_ble_eq_true rfl) dL_due_36 ⟨(Nat.le_of_ble_eq_true rfl), (Nat.le_of_ble_eq_true rfl)⟩ (fun i126 h => ?_)
      refine W.widen (k := 1003) (n := 12036) (Nat.le_of_ble_eq_true rfl) (Nat.le_of_ble_eq_true rfl) ?_
      exact W.iret hx hb hr (fun t ht hW => ⟨⟨i126, S124, rfl, h, hO.q ht⟩, hO.f ht⟩) hO.lc dL_due_39
  · have h := h.1 c1
    refine lv_aload hx hb dL_due_4 (lv_at hl 5 rfl) ?_
    refine lv_iload_n hx hb dL_due_6 rfl (lv_at hl 2 rfl) ?_
    obtain ⟨n127, f128, i130, e129, e129', exi130, h⟩ := h
    refine r_iald C hO e129 e129' dL_due_7 ?_
    rw [exi130]
    refine lv_istore (lv' := [(12, .int i130), (0, .int v0), (1, .int v1), (2, .int v2), (3, .int v3), (4, .int v4), (5, .ref v5), (6, .ref v6), (7, .ref v7), (8, .ref v8), (9, .ref v9), (10, .ref v10), (11, .ref v11)]) hx hb dL_due_8 hl (by decide) rfl (fun ls hl => ?_)
    refine lv_aload hx hb dL_due_10 (lv_at hl 6 rfl) ?_
    refine lv_iload_n hx hb dL_due_12 rfl (lv_at hl 3 rfl) ?_
    refine lv_iload_n hx hb dL_due_13 rfl (lv_at hl 4 rfl) ?_
    obtain ⟨n131, f132, e133, e133', h⟩ := h
    refine r_iast C hO e133 e133' dL_due_14 (fun H locs hO => ?_)
    obtain ⟨S134, eS134⟩ : ∃ Sx, Sx = va_up S v5 (aI n131 (upd f132 (v2).toNatClampNeg v3)) := ⟨_, rfl⟩
    rw [← eS134] at hO
    have h := h S134 eS134
    refine lv_iload hx hb dL_due_15 (lv_at hl 0 rfl) ?_
    refine W.widen (k := 1003) (n := 12036) (Nat.le_of_ble_eq_true rfl) (Nat.le_of_ble_eq_true rfl) ?_
    exact W.iret hx hb hr (fun t ht hW => ⟨⟨i130, S134, rfl, h, hO.q ht⟩, hO.f ht⟩) hO.lc dL_due_17
