theorem hdS_L_presses : yL_presses.cls ≠ "java/lang/invoke/MethodHandle" ∧ yL_presses.cls ≠ "java/lang/invoke/VarHandle" ∧ (parseMethodDescriptor yL_presses.desc).map (fun d => d.parameters.length) = some 4 := by decide +kernel
set_option maxHeartbeats 4000000 in
set_option maxRecDepth 100000 in
theorem c_L_presses (l : Launch) (D : va_G) (Y : Nat → ClassId) (L : List Nat) (S : PS) (sz : Nat) (v0 : Int32) (v1 : Nat) (v2 : Nat) (v3 : Nat) (Post : PS → Prop) (h : wp_L_presses S v0 v1 v2 v3 Post) : Met l yL_presses wsL_presses ({ frames := 1, cells := 0, slots := 0, locals := 24 }) (va_Pc [.int v0, .ref v1, .ref v2, .ref v3] (PrO D Y L S sz)) (va_Qv Post (QtO D Y (fR L sz)) (fR L sz)) 0 0 (fR L sz) := by
  refine Met.ofW (cc := cL_presses) (maxL := 10) (ret := none) (by decide) rfl ?_
  intro p e s m args below meth c s₁ B hml hv
  obtain ⟨rfl, hsz, hJ, hP, hK, hD0, hZ⟩ := hv
  have hx := B.exec
  have hb := B.bytes
  have hr := B.returns
  have hts := atoms_spec (ws := wsL_presses) B.pre
  have hown : s.vm.findClass RL = some m.cls := findClass_of_methodNamed B.named
  have hlocks := B.notSynchronized
  have CF : CallFix p m c cL_presses 10 s ([.int v0, .ref v1, .ref v2, .ref v3] : List Value).toArray wsL_presses RL := ⟨hx, hb, hml, hown, hts⟩
  have C : CX p m c cL_presses 10 s ([.int v0, .ref v1, .ref v2, .ref v3] : List Value).toArray wsL_presses RL D Y := ⟨CF, hK, hZ⟩
  have hO : HO D Y (fR L sz) s.heap S s.heap [] := HO.entry hsz hJ hP hD0
  subst hsz
  have hl := lv_entry ([.int v0, .ref v1, .ref v2, .ref v3]) (n := 10) (Nat.le_of_ble_eq_true rfl)
  rw [lg_entry_eq]
  generalize (lg_sl ([.int v0, .ref v1, .ref v2, .ref v3]) ++ List.replicate (10 - (lg_sl ([.int v0, .ref v1, .ref v2, .ref v3])).length) Slot.unset).toArray = ls at hl ⊢
  have hl : lv_has ls 10 [(0, .int v0), (1, .ref v1), (2, .ref v2), (3, .ref v3)] := hl
  unfold wp_L_presses at h
  refine lv_iload_n hx hb dL_presses_0 rfl (lv_at hl 0 rfl) ?_
  refine lv_bipush (v := (nI 6)) hx hb dL_presses_1 (by decide) ?_
  refine lv_irem hx hb dL_presses_3 (by decide) ?_
  refine lv_aload_n hx hb dL_presses_4 rfl (lv_at hl 1 rfl) ?_
  refine lv_aload_n hx hb dL_presses_5 rfl (lv_at hl 2 rfl) ?_
  refine cS_ri (As := [.int (v0 - v0 / (nI 6) * (nI 6)), .ref v1, .ref v2]) (rest := []) (n := 3) C hO (fun L => c_L_raised l D Y L S s.heap.size ((v0 - v0 / (nI 6) * (nI 6))) v1 v2 _ h) (va_cwS 3 hts gL_presses_L_raised rfl rfl rfl hdS_L_raised ⟨Nat.le_of_ble_eq_true rfl, Nat.le_of_ble_eq_true rfl⟩) rfl hl.1 rfl (Nat.le_of_ble_eq_true rfl) dL_presses_6 ⟨(Nat.le_of_ble_eq_true rfl), (Nat.le_of_ble_eq_true rfl)⟩ (fun i1 h => ?_)
  refine lv_istore (lv' := [(4, .int i1), (0, .int v0), (1, .ref v1), (2, .ref v2), (3, .ref v3)]) hx hb dL_presses_9 hl (by decide) rfl (fun ls hl => ?_)
  refine lv_iconst (v := (-1 : Int32)) hx hb dL_presses_11 (by decide) ?_
  refine lv_istore (lv' := [(5, .int (-1 : Int32)), (4, .int i1), (0, .int v0), (1, .ref v1), (2, .ref v2), (3, .ref v3)]) hx hb dL_presses_12 hl (by decide) rfl (fun ls hl => ?_)
  refine lv_iconst (v := (-1 : Int32)) hx hb dL_presses_14 (by decide) ?_
  refine lv_istore (lv' := [(6, .int (-1 : Int32)), (5, .int (-1 : Int32)), (4, .int i1), (0, .int v0), (1, .ref v1), (2, .ref v2), (3, .ref v3)]) hx hb dL_presses_15 hl (by decide) rfl (fun ls hl => ?_)
  refine lv_iconst (v := (nI 0)) hx hb dL_presses_17 (by decide) ?_
  refine lv_istore (lv' := [(7, .int (nI 0)), (6, .int (-1 : Int32)), (5, .int (-1 : Int32)), (4, .int i1), (0, .int v0), (1, .ref v1), (2, .ref v2), (3, .ref v3)]) hx hb dL_presses_18 hl (by decide) rfl (fun ls hl => ?_)
  obtain ⟨n56, h⟩ := h
  refine lp_P (nL := 10) (fun q => [(7, .int q.1), (6, .int q.2.1), (5, .int q.2.2), (4, .int i1), (0, .int v0), (3, .ref v3)]) h (lv_sub hl [0, 1, 2, 3, 4, 7] rfl) (fun K20 ih20 q ls h hl => ?_)
  obtain ⟨i2, i3, i4⟩ := q
  have h : wpb_L_presses_20 S v0 v3 i1 Post K20 i2 i3 i4 := h
  have hl : lv_has ls 10 [(7, .int i2), (6, .int i3), (5, .int i4), (4, .int i1), (0, .int v0), (3, .ref v3)] := hl
  unfold wpb_L_presses_20 at h
  refine lv_iload hx hb dL_presses_20 (lv_at hl 0 rfl) ?_
  refine lv_bipush (v := (nI 12)) hx hb dL_presses_22 (by decide) ?_
  refine lv_icmp_ge (tgt := 78) hx hb dL_presses_24 (by decide) (fun c5 => ?_) (fun c5 => ?_)
  · have h := h.1 c5
    refine lv_iload hx hb dL_presses_78 (lv_at hl 2 rfl) ?_
    refine lv_if_ge (tgt := 84) hx hb dL_presses_80 (by decide) (fun c6 => ?_) (fun c6 => ?_)
    · have h := h.1 c6
      refine lv_iload_n hx hb dL_presses_84 rfl (lv_at hl 4 rfl) ?_
      refine lv_bipush (v := (nI 6)) hx hb dL_presses_85 (by decide) ?_
      refine cut_P (nL := 10) (fun (q : Int32) => wpk_L_presses_103 S v0 v3 i1 i3 i4 Post q) (fun q => [(7, .int q), (6, .int i3), (5, .int i4), (4, .int i1), (0, .int v0), (3, .ref v3)]) 103 ?_ (fun kc103 => ?_)
      · intro q ls h hl
        obtain ⟨i7, rfl⟩ : ∃ z, z = q := ⟨q, rfl⟩
        have h : wpk_L_presses_103 S v0 v3 i1 i3 i4 Post i7 := h
        have hl : lv_has ls 10 [(7, .int i7), (6, .int i3), (5, .int i4), (4, .int i1), (0, .int v0), (3, .ref v3)] := hl
        unfold wpk_L_presses_103 at h
        refine lv_iload_n hx hb dL_presses_103 rfl (lv_at hl 4 rfl) ?_
        refine lv_bipush (v := (nI 6)) hx hb dL_presses_104 (by decide) ?_
        refine lv_icmp_ge (tgt := 156) hx hb dL_presses_106 (by decide) (fun c8 => ?_) (fun c8 => ?_)
        · have h := h.1 c8
          refine lv_iload hx hb dL_presses_156 (lv_at hl 1 rfl) ?_
          refine lv_istore (lv' := [(8, .int i3), (7, .int i7), (6, .int i3), (5, .int i4), (4, .int i1), (0, .int v0), (3, .ref v3)]) hx hb dL_presses_158 hl (by decide) rfl (fun ls hl => ?_)
          obtain ⟨n24, h⟩ := h
          refine lp_W (nL := 10) (fun q => [(8, .int q.1), (7, .int q.2.1), (5, .int i4), (4, .int i1), (3, .ref v3)]) (fun q => q.2.2) h (lv_sub hl [0, 1, 3, 4, 6] rfl) hO (fun K160 ih160 q ls H locs h hl hO => ?_)
          obtain ⟨i9, i10, S11⟩ := q
          have h : wpb_L_presses_160 v3 i1 i4 Post K160 i9 i10 S11 := h
          have hl : lv_has ls 10 [(8, .int i9), (7, .int i10), (5, .int i4), (4, .int i1), (3, .ref v3)] := hl
          have hO : HO D Y (fR L s.heap.size) s.heap S11 H locs := hO
          unfold wpb_L_presses_160 at h
          refine lv_iload hx hb dL_presses_160 (lv_at hl 0 rfl) ?_
          refine lv_iload hx hb dL_presses_162 (lv_at hl 2 rfl) ?_
          refine lv_icmp_lt (tgt := 200) hx hb dL_presses_164 (by decide) (fun c12 => ?_) (fun c12 => ?_)
          · have h := h.1 c12
            exact W.vret hx hb hr (fun t ht hW => ⟨⟨S11, rfl, h, hO.q ht⟩, hO.f ht⟩) hO.lc dL_presses_200
          · have h := h.2 c12
            refine lv_iload hx hb dL_presses_167 (lv_at hl 3 rfl) ?_
            refine lv_iload hx hb dL_presses_169 (lv_at hl 0 rfl) ?_
            refine lv_ishr hx hb dL_presses_171 ?_
            refine lv_iconst (v := (nI 1)) hx hb dL_presses_172 (by decide) ?_
            refine lv_iand hx hb dL_presses_173 ?_
            refine lv_iconst (v := (nI 1)) hx hb dL_presses_174 (by decide) ?_
            refine lv_icmp_ne (tgt := 194) hx hb dL_presses_175 (by decide) (fun c13 => ?_) (fun c13 => ?_)
            · have h := h.2 c13
              obtain ⟨i14, ei14⟩ : ∃ y : Int32, y = i9 + (-1 : Int32) := ⟨_, rfl⟩
              have h := h i14 ei14
              refine lv_iinc (v := i14) (lv' := [(8, .int i14), (7, .int i10), (5, .int i4), (4, .int i1), (3, .ref v3)]) hx hb dL_presses_194 hl (k := 0) rfl (by rw [ei14]; rfl) (by decide) rfl (fun ls hl => ?_)
              refine lv_goto (tgt := 160) hx hb dL_presses_197 (by decide) ?_
              exact ih160 (i14, i10, S11) _ _ _ h (lv_sub hl [0, 1, 2, 3, 4] rfl) hO
            · have h := h.1 c13
              refine lv_aload_n hx hb dL_presses_178 rfl (lv_at hl 4 rfl) ?_
              refine lv_iload hx hb dL_presses_179 (lv_at hl 0 rfl) ?_
              obtain ⟨n15, f16, i18, e17, e17', exi18, h⟩ := h
              refine r_iald C hO e17 e17' dL_presses_181 ?_
              rw [exi18]
              refine lv_istore (lv' := [(9, .int i18), (8, .int i9), (7, .int i10), (5, .int i4), (4, .int i1), (3, .ref v3)]) hx hb dL_presses_182 hl (by decide) rfl (fun ls hl => ?_)
              refine lv_aload_n hx hb dL_presses_184 rfl (lv_at hl 5 rfl) ?_
              refine lv_iload hx hb dL_presses_185 (lv_at hl 1 rfl) ?_
              refine lv_iload hx hb dL_presses_187 (lv_at hl 2 rfl) ?_
              obtain ⟨n19, f20, e21, e21', h⟩ := h
              refine r_iast C hO e21 e21' dL_presses_189 (fun H locs hO => ?_)
              obtain ⟨S22, eS22⟩ : ∃ Sx, Sx = va_up S11 v3 (aI n19 (upd f20 (i9).toNatClampNeg i10)) := ⟨_, rfl⟩
              rw [← eS22] at hO
              have h := h S22 eS22
              refine lv_iload hx hb dL_presses_190 (lv_at hl 0 rfl) ?_
              refine lv_istore (lv' := [(7, .int i18), (9, .int i18), (8, .int i9), (5, .int i4), (4, .int i1), (3, .ref v3)]) hx hb dL_presses_192 hl (by decide) rfl (fun ls hl => ?_)
              obtain ⟨i23, ei23⟩ : ∃ y : Int32, y = i9 + (-1 : Int32) := ⟨_, rfl⟩
              have h := h i23 ei23
              refine lv_iinc (v := i23) (lv' := [(8, .int i23), (7, .int i18), (9, .int i18), (5, .int i4), (4, .int i1), (3, .ref v3)]) hx hb dL_presses_194 hl (k := 2) rfl (by rw [ei23]; rfl) (by decide) rfl (fun ls hl => ?_)
              refine lv_goto (tgt := 160) hx hb dL_presses_197 (by decide) ?_
              exact ih160 (i23, i18, S22) _ _ _ h (lv_sub hl [0, 1, 3, 4, 5] rfl) hO
        · have h := h.2 c8
          refine lv_iload hx hb dL_presses_109 (lv_at hl 2 rfl) ?_
          refine lv_istore (lv' := [(8, .int i4), (7, .int i7), (6, .int i3), (5, .int i4), (4, .int i1), (0, .int v0), (3, .ref v3)]) hx hb dL_presses_111 hl (by decide) rfl (fun ls hl => ?_)
          obtain ⟨n40, h⟩ := h
          refine lp_W (nL := 10) (fun q => [(8, .int q.1), (7, .int q.2.1), (6, .int i3), (4, .int i1), (3, .ref v3)]) (fun q => q.2.2) h (lv_sub hl [0, 1, 2, 4, 6] rfl) hO (fun K113 ih113 q ls H locs h hl hO => ?_)
          obtain ⟨i25, i26, S27⟩ := q
          have h : wpb_L_presses_113 v3 i1 i3 Post K113 i25 i26 S27 := h
          have hl : lv_has ls 10 [(8, .int i25), (7, .int i26), (6, .int i3), (4, .int i1), (3, .ref v3)] := hl
          have hO : HO D Y (fR L s.heap.size) s.heap S27 H locs := hO
          unfold wpb_L_presses_113 at h
          refine lv_iload hx hb dL_presses_113 (lv_at hl 0 rfl) ?_
          refine lv_iload hx hb dL_presses_115 (lv_at hl 2 rfl) ?_
          refine lv_icmp_gt (tgt := 153) hx hb dL_presses_117 (by decide) (fun c28 => ?_) (fun c28 => ?_)
          · have h := h.1 c28
            refine lv_goto (tgt := 200) hx hb dL_presses_153 (by decide) ?_
            exact W.vret hx hb hr (fun t ht hW => ⟨⟨S27, rfl, h, hO.q ht⟩, hO.f ht⟩) hO.lc dL_presses_200
          · have h := h.2 c28
            refine lv_iload hx hb dL_presses_120 (lv_at hl 3 rfl) ?_
            refine lv_iload hx hb dL_presses_122 (lv_at hl 0 rfl) ?_
            refine lv_ishr hx hb dL_presses_124 ?_
            refine lv_iconst (v := (nI 1)) hx hb dL_presses_125 (by decide) ?_
            refine lv_iand hx hb dL_presses_126 ?_
            refine lv_iconst (v := (nI 1)) hx hb dL_presses_127 (by decide) ?_
            refine lv_icmp_ne (tgt := 147) hx hb dL_presses_128 (by decide) (fun c29 => ?_) (fun c29 => ?_)
            · have h := h.2 c29
              obtain ⟨i30, ei30⟩ : ∃ y : Int32, y = i25 + (nI 1) := ⟨_, rfl⟩
              have h := h i30 ei30
              refine lv_iinc (v := i30) (lv' := [(8, .int i30), (7, .int i26), (6, .int i3), (4, .int i1), (3, .ref v3)]) hx hb dL_presses_147 hl (k := 0) rfl (by rw [ei30]; rfl) (by decide) rfl (fun ls hl => ?_)
              refine lv_goto (tgt := 113) hx hb dL_presses_150 (by decide) ?_
              exact ih113 (i30, i26, S27) _ _ _ h (lv_sub hl [0, 1, 2, 3, 4] rfl) hO
            · have h := h.1 c29
              refine lv_aload_n hx hb dL_presses_131 rfl (lv_at hl 4 rfl) ?_
              refine lv_iload hx hb dL_presses_132 (lv_at hl 0 rfl) ?_
              obtain ⟨n31, f32, i34, e33, e33', exi34, h⟩ := h
              refine r_iald C hO e33 e33' dL_presses_134 ?_
              rw [exi34]
              refine lv_istore (lv' := [(9, .int i34), (8, .int i25), (7, .int i26), (6, .int i3), (4, .int i1), (3, .ref v3)]) hx hb dL_presses_135 hl (by decide) rfl (fun ls hl => ?_)
              refine lv_aload_n hx hb dL_presses_137 rfl (lv_at hl 5 rfl) ?_
              refine lv_iload hx hb dL_presses_138 (lv_at hl 1 rfl) ?_
              refine lv_iload hx hb dL_presses_140 (lv_at hl 2 rfl) ?_
              obtain ⟨n35, f36, e37, e37', h⟩ := h
              refine r_iast C hO e37 e37' dL_presses_142 (fun H locs hO => ?_)
              obtain ⟨S38, eS38⟩ : ∃ Sx, Sx = va_up S27 v3 (aI n35 (upd f36 (i25).toNatClampNeg i26)) := ⟨_, rfl⟩
              rw [← eS38] at hO
              have h := h S38 eS38
              refine lv_iload hx hb dL_presses_143 (lv_at hl 0 rfl) ?_
              refine lv_istore (lv' := [(7, .int i34), (9, .int i34), (8, .int i25), (6, .int i3), (4, .int i1), (3, .ref v3)]) hx hb dL_presses_145 hl (by decide) rfl (fun ls hl => ?_)
              obtain ⟨i39, ei39⟩ : ∃ y : Int32, y = i25 + (nI 1) := ⟨_, rfl⟩
              have h := h i39 ei39
              refine lv_iinc (v := i39) (lv' := [(8, .int i39), (7, .int i34), (9, .int i34), (6, .int i3), (4, .int i1), (3, .ref v3)]) hx hb dL_presses_147 hl (k := 2) rfl (by rw [ei39]; rfl) (by decide) rfl (fun ls hl => ?_)
              refine lv_goto (tgt := 113) hx hb dL_presses_150 (by decide) ?_
              exact ih113 (i39, i34, S38) _ _ _ h (lv_sub hl [0, 1, 3, 4, 5] rfl) hO
      refine lv_icmp_ge (tgt := 97) hx hb dL_presses_87 (by decide) (fun c41 => ?_) (fun c41 => ?_)
      · have h := h.1 c41
        refine lv_aload_n hx hb dL_presses_97 rfl (lv_at hl 5 rfl) ?_
        refine lv_iload hx hb dL_presses_98 (lv_at hl 2 rfl) ?_
        obtain ⟨n42, f43, i45, e44, e44', exi45, h⟩ := h
        refine r_iald C hO e44 e44' dL_presses_100 ?_
        rw [exi45]
        refine lv_istore (lv' := [(7, .int i45), (6, .int i3), (5, .int i4), (4, .int i1), (0, .int v0), (3, .ref v3)]) hx hb dL_presses_101 hl (by decide) rfl (fun ls hl => ?_)
        exact kc103 i45 _ h (lv_sub hl [0, 1, 2, 3, 4, 5] rfl)
      · have h := h.2 c41
        refine lv_aload_n hx hb dL_presses_90 rfl (lv_at hl 5 rfl) ?_
        refine lv_iload hx hb dL_presses_91 (lv_at hl 1 rfl) ?_
        obtain ⟨n46, f47, i49, e48, e48', exi49, h⟩ := h
        refine r_iald C hO e48 e48' dL_presses_93 ?_
        rw [exi49]
        refine lv_goto (tgt := 101) hx hb dL_presses_94 (by decide) ?_
        refine lv_istore (lv' := [(7, .int i49), (6, .int i3), (5, .int i4), (4, .int i1), (0, .int v0), (3, .ref v3)]) hx hb dL_presses_101 hl (by decide) rfl (fun ls hl => ?_)
        exact kc103 i49 _ h (lv_sub hl [0, 1, 2, 3, 4, 5] rfl)
    · have h := h.2 c6
      exact W.vret hx hb hr (fun t ht hW => ⟨⟨S, rfl, h, hO.q ht⟩, hO.f ht⟩) hO.lc dL_presses_83
  · have h := h.2 c5
    refine lv_iload hx hb dL_presses_27 (lv_at hl 3 rfl) ?_
    refine lv_iload hx hb dL_presses_29 (lv_at hl 0 rfl) ?_
    refine lv_ishr hx hb dL_presses_31 ?_
    refine lv_iconst (v := (nI 1)) hx hb dL_presses_32 (by decide) ?_
    refine lv_iand hx hb dL_presses_33 ?_
    refine lv_iconst (v := (nI 1)) hx hb dL_presses_34 (by decide) ?_
    refine cut_P (nL := 10) (fun (q : Int32) => wpk_L_presses_52 i1 i2 i3 K20 q) (fun q => [(7, .int i2), (6, .int i3), (5, .int q), (4, .int i1), (0, .int v0), (3, .ref v3)]) 52 ?_ (fun kc52 => ?_)
    · intro q ls h hl
      obtain ⟨i50, rfl⟩ : ∃ z, z = q := ⟨q, rfl⟩
      have h : wpk_L_presses_52 i1 i2 i3 K20 i50 := h
      have hl : lv_has ls 10 [(7, .int i2), (6, .int i3), (5, .int i50), (4, .int i1), (0, .int v0), (3, .ref v3)] := hl
      unfold wpk_L_presses_52 at h
      refine lv_iload hx hb dL_presses_52 (lv_at hl 3 rfl) ?_
      refine lv_iload hx hb dL_presses_54 (lv_at hl 0 rfl) ?_
      refine lv_ishr hx hb dL_presses_56 ?_
      refine lv_iconst (v := (nI 1)) hx hb dL_presses_57 (by decide) ?_
      refine lv_iand hx hb dL_presses_58 ?_
      refine lv_iconst (v := (nI 1)) hx hb dL_presses_59 (by decide) ?_
      refine cut_P (nL := 10) (fun (q : Int32) => wpk_L_presses_72 i2 i50 K20 q) (fun q => [(7, .int i2), (6, .int q), (5, .int i50), (4, .int i1), (0, .int v0), (3, .ref v3)]) 72 ?_ (fun kc72 => ?_)
      · intro q ls h hl
        obtain ⟨i51, rfl⟩ : ∃ z, z = q := ⟨q, rfl⟩
        have h : wpk_L_presses_72 i2 i50 K20 i51 := h
        have hl : lv_has ls 10 [(7, .int i2), (6, .int i51), (5, .int i50), (4, .int i1), (0, .int v0), (3, .ref v3)] := hl
        unfold wpk_L_presses_72 at h
        obtain ⟨i52, ei52⟩ : ∃ y : Int32, y = i2 + (nI 1) := ⟨_, rfl⟩
        have h := h i52 ei52
        refine lv_iinc (v := i52) (lv' := [(7, .int i52), (6, .int i51), (5, .int i50), (4, .int i1), (0, .int v0), (3, .ref v3)]) hx hb dL_presses_72 hl (k := 0) rfl (by rw [ei52]; rfl) (by decide) rfl (fun ls hl => ?_)
        refine lv_goto (tgt := 20) hx hb dL_presses_75 (by decide) ?_
        exact ih20 (i52, i51, i50) _ h (lv_sub hl [0, 1, 2, 3, 4, 5] rfl)
      refine lv_icmp_ne (tgt := 68) hx hb dL_presses_60 (by decide) (fun c53 => ?_) (fun c53 => ?_)
      · have h := h.2 c53
        refine lv_iload hx hb dL_presses_68 (lv_at hl 1 rfl) ?_
        refine lv_istore (lv' := [(6, .int i3), (7, .int i2), (5, .int i50), (4, .int i1), (0, .int v0), (3, .ref v3)]) hx hb dL_presses_70 hl (by decide) rfl (fun ls hl => ?_)
        exact kc72 i3 _ h (lv_sub hl [1, 0, 2, 3, 4, 5] rfl)
      · have h := h.1 c53
        refine lv_iload hx hb dL_presses_63 (lv_at hl 0 rfl) ?_
        refine lv_goto (tgt := 70) hx hb dL_presses_65 (by decide) ?_
        refine lv_istore (lv' := [(6, .int i2), (7, .int i2), (5, .int i50), (4, .int i1), (0, .int v0), (3, .ref v3)]) hx hb dL_presses_70 hl (by decide) rfl (fun ls hl => ?_)
        exact kc72 i2 _ h (lv_sub hl [1, 0, 2, 3, 4, 5] rfl)
    refine lv_icmp_ne (tgt := 48) hx hb dL_presses_35 (by decide) (fun c54 => ?_) (fun c54 => ?_)
    · have h := h.2 c54
      refine lv_iload hx hb dL_presses_48 (lv_at hl 2 rfl) ?_
      refine lv_istore (lv' := [(5, .int i4), (7, .int i2), (6, .int i3), (4, .int i1), (0, .int v0), (3, .ref v3)]) hx hb dL_presses_50 hl (by decide) rfl (fun ls hl => ?_)
      exact kc52 i4 _ h (lv_sub hl [1, 2, 0, 3, 4, 5] rfl)
    · have h := h.1 c54
      refine lv_iload hx hb dL_presses_38 (lv_at hl 2 rfl) ?_
      refine lv_if_ge (tgt := 48) hx hb dL_presses_40 (by decide) (fun c55 => ?_) (fun c55 => ?_)
      · have h := h.1 c55
        refine lv_iload hx hb dL_presses_48 (lv_at hl 2 rfl) ?_
        refine lv_istore (lv' := [(5, .int i4), (7, .int i2), (6, .int i3), (4, .int i1), (0, .int v0), (3, .ref v3)]) hx hb dL_presses_50 hl (by decide) rfl (fun ls hl => ?_)
        exact kc52 i4 _ h (lv_sub hl [1, 2, 0, 3, 4, 5] rfl)
      · have h := h.2 c55
        refine lv_iload hx hb dL_presses_43 (lv_at hl 0 rfl) ?_
        refine lv_goto (tgt := 50) hx hb dL_presses_45 (by decide) ?_
        refine lv_istore (lv' := [(5, .int i2), (7, .int i2), (6, .int i3), (4, .int i1), (0, .int v0), (3, .ref v3)]) hx hb dL_presses_50 hl (by decide) rfl (fun ls hl => ?_)
        exact kc52 i2 _ h (lv_sub hl [1, 2, 0, 3, 4, 5] rfl)
theorem hdS_L_lay : yL_lay.cls ≠ "java/lang/invoke/MethodHandle" ∧ yL_lay.cls ≠ "java/lang/invoke/VarHandle" ∧ (parseMethodDescriptor yL_lay.desc).map (fun d => d.parameters.length) = some 6 := by decide +kernel
set_option maxHeartbeats 4000000 in
set_option maxRecDepth 100000 in
theorem c_L_lay (l : Launch) (D : va_G) (Y : Nat → ClassId) (L : List Nat) (S : PS) (sz : Nat) (v0 : Int32) (v1 : Nat) (v2 : Nat) (v3 : Nat) (v4 : Nat) (v5 : Nat) (Post : PS → Prop) (h : wp_L_lay S v0 v1 v2 v3 v4 v5 Post) : Met l yL_lay wsL_lay ({ frames := 2, cells := 1, slots := 12, locals := 53 }) (va_Pc [.int v0, .ref v1, .ref v2, .ref v3, .ref v4, .ref v5] (PrO D Y L S sz)) (va_Qv Post (QtO D Y (fR L sz)) (fR L sz)) 1 12 (fR L sz) := by
  refine Met.ofW (cc := cL_lay) (maxL := 8) (ret := none) (by decide) rfl ?_
  intro p e s m args below meth c s₁ B hml hv
  obtain ⟨rfl, hsz, hJ, hP, hK, hD0, hZ⟩ := hv
  have hx := B.exec
  have hb := B.bytes
  have hr := B.returns
  have hts := atoms_spec (ws := wsL_lay) B.pre
  have hown : s.vm.findClass RL = some m.cls := findClass_of_methodNamed B.named
  have hlocks := B.notSynchronized
  have CF : CallFix p m c cL_lay 8 s ([.int v0, .ref v1, .ref v2, .ref v3, .ref v4, .ref v5] : List Value).toArray wsL_lay RL := ⟨hx, hb, hml, hown, hts⟩
  have C : CX p m c cL_lay 8 s ([.int v0, .ref v1, .ref v2, .ref v3, .ref v4, .ref v5] : List Value).toArray wsL_lay RL D Y := ⟨CF, hK, hZ⟩
  have hO : HO D Y (fR L sz) s.heap S s.heap [] := HO.entry hsz hJ hP hD0
  subst hsz
  have hl := lv_entry ([.int v0, .ref v1, .ref v2, .ref v3, .ref v4, .ref v5]) (n := 8) (Nat.le_of_ble_eq_true rfl)
  rw [lg_entry_eq]
  generalize (lg_sl ([.int v0, .ref v1, .ref v2, .ref v3, .ref v4, .ref v5]) ++ List.replicate (8 - (lg_sl ([.int v0, .ref v1, .ref v2, .ref v3, .ref v4, .ref v5])).length) Slot.unset).toArray = ls at hl ⊢
  have hl : lv_has ls 8 [(0, .int v0), (1, .ref v1), (2, .ref v2), (3, .ref v3), (4, .ref v4), (5, .ref v5)] := hl
  unfold wp_L_lay at h
  refine lv_bipush (v := (nI 12)) hx hb dL_lay_0 (by decide) ?_
  refine r_newa (k := 1) (ty := .int) (N' := 12) C hO (by intro C h; cases h) rfl rfl (List.mem_of_getElem? (i := 1) (by decide +kernel)) (12, .inl (fun _ => 0)) (fun _ => rfl) (by decide) (by decide) (Nat.le_of_ble_eq_true rfl) (Nat.le_of_ble_eq_true rfl) (Nat.le_of_ble_eq_true rfl) dL_lay_2 (fun a1 H hqa1 hO => ?_)
  obtain ⟨S2, eS2⟩ : ∃ Sx, Sx = va_up S a1 (aI 12 (fun _ => 0)) := ⟨_, rfl⟩
  have hO := (show HO D Y (fR L s.heap.size) s.heap (va_up S a1 (aI 12 (fun _ => 0))) H _ from hO)
  rw [← eS2] at hO
  have h := h a1 hqa1 S2 eS2
  refine lv_astore (lv' := [(6, .ref a1), (0, .int v0), (1, .ref v1), (2, .ref v2), (3, .ref v3), (4, .ref v4), (5, .ref v5)]) hx hb dL_lay_4 hl (by decide) rfl (fun ls hl => ?_)
  refine lv_iconst (v := (nI 0)) hx hb dL_lay_6 (by decide) ?_
  refine lv_istore (lv' := [(7, .int (nI 0)), (6, .ref a1), (0, .int v0), (1, .ref v1), (2, .ref v2), (3, .ref v3), (4, .ref v4), (5, .ref v5)]) hx hb dL_lay_7 hl (by decide) rfl (fun ls hl => ?_)
  obtain ⟨n35, h⟩ := h
  refine lp_W (nL := 8) (fun q => [(7, .int q.1), (6, .ref a1), (0, .int v0), (1, .ref v1), (2, .ref v2), (3, .ref v3), (4, .ref v4), (5, .ref v5)]) (fun q => q.2) h (lv_sub hl [0, 1, 2, 3, 4, 5, 6, 7] rfl) hO (fun K9 ih9 q ls H locs h hl hO => ?_)
  obtain ⟨i3, S4⟩ := q
  have h : wpb_L_lay_9 v0 v1 v2 v3 v4 v5 a1 Post K9 i3 S4 := h
  have hl : lv_has ls 8 [(7, .int i3), (6, .ref a1), (0, .int v0), (1, .ref v1), (2, .ref v2), (3, .ref v3), (4, .ref v4), (5, .ref v5)] := hl
  have hO : HO D Y (fR L s.heap.size) s.heap S4 H locs := hO
  unfold wpb_L_lay_9 at h
  refine lv_iload hx hb dL_lay_9 (lv_at hl 0 rfl) ?_
  refine lv_bipush (v := (nI 12)) hx hb dL_lay_11 (by decide) ?_
  refine lv_icmp_ge (tgt := 29) hx hb dL_lay_13 (by decide) (fun c5 => ?_) (fun c5 => ?_)
  · have h := h.1 c5
    refine lv_iconst (v := (nI 0)) hx hb dL_lay_29 (by decide) ?_
    refine lv_istore (lv' := [(7, .int (nI 0)), (6, .ref a1), (0, .int v0), (1, .ref v1), (2, .ref v2), (3, .ref v3), (4, .ref v4), (5, .ref v5)]) hx hb dL_lay_30 hl (by decide) rfl (fun ls hl => ?_)
    obtain ⟨n29, h⟩ := h
    refine lp_W (nL := 8) (fun q => [(7, .int q.1), (6, .ref a1), (0, .int v0), (1, .ref v1), (2, .ref v2), (3, .ref v3), (4, .ref v4), (5, .ref v5)]) (fun q => q.2) h (lv_sub hl [0, 1, 2, 3, 4, 5, 6, 7] rfl) hO (fun K32 ih32 q ls H locs h hl hO => ?_)
    obtain ⟨i6, S7⟩ := q
    have h : wpb_L_lay_32 v0 v1 v2 v3 v4 v5 a1 Post K32 i6 S7 := h
    have hl : lv_has ls 8 [(7, .int i6), (6, .ref a1), (0, .int v0), (1, .ref v1), (2, .ref v2), (3, .ref v3), (4, .ref v4), (5, .ref v5)] := hl
    have hO : HO D Y (fR L s.heap.size) s.heap S7 H locs := hO
    unfold wpb_L_lay_32 at h
    refine lv_iload hx hb dL_lay_32 (lv_at hl 0 rfl) ?_
    refine lv_aload_n hx hb dL_lay_34 rfl (lv_at hl 5 rfl) ?_
    refine lv_iload_n hx hb dL_lay_35 rfl (lv_at hl 2 rfl) ?_
    obtain ⟨n8, f9, i11, e10, e10', exi11, h⟩ := h
    refine r_iald C hO e10 e10' dL_lay_36 ?_
    rw [exi11]
    refine lv_icmp_ge (tgt := 61) hx hb dL_lay_37 (by decide) (fun c12 => ?_) (fun c12 => ?_)
    · have h := h.1 c12
      refine lv_iconst (v := (nI 0)) hx hb dL_lay_61 (by decide) ?_
      refine lv_istore (lv' := [(7, .int (nI 0)), (6, .ref a1), (0, .int v0), (1, .ref v1), (2, .ref v2), (3, .ref v3), (4, .ref v4), (5, .ref v5)]) hx hb dL_lay_62 hl (by decide) rfl (fun ls hl => ?_)
      obtain ⟨n25, h⟩ := h
      refine lp_W (nL := 8) (fun q => [(7, .int q.1), (6, .ref a1), (5, .ref v5)]) (fun q => q.2) h (lv_sub hl [0, 1, 7] rfl) hO (fun K64 ih64 q ls H locs h hl hO => ?_)
      obtain ⟨i13, S14⟩ := q
      have h : wpb_L_lay_64 v5 a1 Post K64 i13 S14 := h
      have hl : lv_has ls 8 [(7, .int i13), (6, .ref a1), (5, .ref v5)] := hl
      have hO : HO D Y (fR L s.heap.size) s.heap S14 H locs := hO
      unfold wpb_L_lay_64 at h
      refine lv_iload hx hb dL_lay_64 (lv_at hl 0 rfl) ?_
      refine lv_bipush (v := (nI 12)) hx hb dL_lay_66 (by decide) ?_
      refine lv_icmp_ge (tgt := 87) hx hb dL_lay_68 (by decide) (fun c15 => ?_) (fun c15 => ?_)
      · have h := h.1 c15
        exact W.vret hx hb hr (fun t ht hW => ⟨⟨S14, rfl, h, hO.q ht⟩, hO.f ht⟩) hO.lc dL_lay_87
      · have h := h.2 c15
        refine lv_aload hx hb dL_lay_71 (lv_at hl 2 rfl) ?_
        refine lv_aload hx hb dL_lay_73 (lv_at hl 1 rfl) ?_
        refine lv_iload hx hb dL_lay_75 (lv_at hl 0 rfl) ?_
        obtain ⟨n16, f17, i19, e18, e18', exi19, h⟩ := h
        refine r_iald C hO e18 e18' dL_lay_77 ?_
        rw [exi19]
        refine lv_iload hx hb dL_lay_78 (lv_at hl 0 rfl) ?_
        obtain ⟨n20, f21, e22, e22', h⟩ := h
        refine r_iast C hO e22 e22' dL_lay_80 (fun H locs hO => ?_)
        obtain ⟨S23, eS23⟩ : ∃ Sx, Sx = va_up S14 v5 (aI n20 (upd f21 (i19).toNatClampNeg i13)) := ⟨_, rfl⟩
        rw [← eS23] at hO
        have h := h S23 eS23
        obtain ⟨i24, ei24⟩ : ∃ y : Int32, y = i13 + (nI 1) := ⟨_, rfl⟩
        have h := h i24 ei24
        refine lv_iinc (v := i24) (lv' := [(7, .int i24), (6, .ref a1), (5, .ref v5)]) hx hb dL_lay_81 hl (k := 0) rfl (by rw [ei24]; rfl) (by decide) rfl (fun ls hl => ?_)
        refine lv_goto (tgt := 64) hx hb dL_lay_84 (by decide) ?_
        exact ih64 (i24, S23) _ _ _ h (lv_sub hl [0, 1, 2] rfl) hO
    · have h := h.2 c12
      refine lv_iload_n hx hb dL_lay_40 rfl (lv_at hl 2 rfl) ?_
      refine lv_iload hx hb dL_lay_41 (lv_at hl 0 rfl) ?_
      refine lv_aload hx hb dL_lay_43 (lv_at hl 6 rfl) ?_
      refine cS_ri (As := [.int v0, .int i6, .ref v4]) (rest := []) (n := 3) C hO (fun L => c_L_pressAt l D Y L S7 H.size v0 i6 v4 _ h) (va_cwS 3 hts gL_lay_L_pressAt rfl rfl rfl hdS_L_pressAt ⟨Nat.le_of_ble_eq_true rfl, Nat.le_of_ble_eq_true rfl⟩) rfl hl.1 rfl (Nat.le_of_ble_eq_true rfl) dL_lay_45 ⟨(Nat.le_of_ble_eq_true rfl), (Nat.le_of_ble_eq_true rfl)⟩ (fun i26 h => ?_)
      refine lv_aload_n hx hb dL_lay_48 rfl (lv_at hl 3 rfl) ?_
      refine lv_aload_n hx hb dL_lay_49 rfl (lv_at hl 4 rfl) ?_
      refine lv_aload hx hb dL_lay_50 (lv_at hl 1 rfl) ?_
      refine cS_wv (As := [.int i26, .ref v1, .ref v2, .ref a1]) (rest := []) (n := 4) C hO (fun L => c_L_presses l D Y L S7 H.size i26 v1 v2 a1 _ h) (va_cwS 4 hts gL_lay_L_presses rfl rfl rfl hdS_L_presses ⟨Nat.le_of_ble_eq_true rfl, Nat.le_of_ble_eq_true rfl⟩) rfl hl.1 rfl (Nat.le_of_ble_eq_true rfl) dL_lay_52 ⟨(Nat.le_of_ble_eq_true rfl), (Nat.le_of_ble_eq_true rfl)⟩ (fun S27 H locs h hO => ?_)
      obtain ⟨i28, ei28⟩ : ∃ y : Int32, y = i6 + (nI 1) := ⟨_, rfl⟩
      have h := h i28 ei28
      refine lv_iinc (v := i28) (lv' := [(7, .int i28), (6, .ref a1), (0, .int v0), (1, .ref v1), (2, .ref v2), (3, .ref v3), (4, .ref v4), (5, .ref v5)]) hx hb dL_lay_55 hl (k := 0) rfl (by rw [ei28]; rfl) (by decide) rfl (fun ls hl => ?_)
      refine lv_goto (tgt := 32) hx hb dL_lay_58 (by decide) ?_
      exact ih32 (i28, S27) _ _ _ h (lv_sub hl [0, 1, 2, 3, 4, 5, 6, 7] rfl) hO
  · have h := h.2 c5
    refine lv_aload hx hb dL_lay_16 (lv_at hl 1 rfl) ?_
    refine lv_iload hx hb dL_lay_18 (lv_at hl 0 rfl) ?_
    refine lv_iload hx hb dL_lay_20 (lv_at hl 0 rfl) ?_
    obtain ⟨n30, f31, e32, e32', h⟩ := h
    refine r_iast C hO e32 e32' dL_lay_22 (fun H locs hO => ?_)
    obtain ⟨S33, eS33⟩ : ∃ Sx, Sx = va_up S4 a1 (aI n30 (upd f31 (i3).toNatClampNeg i3)) := ⟨_, rfl⟩
    rw [← eS33] at hO
    have h := h S33 eS33
    obtain ⟨i34, ei34⟩ : ∃ y : Int32, y = i3 + (nI 1) := ⟨_, rfl⟩
    have h := h i34 ei34
    refine lv_iinc (v := i34) (lv' := [(7, .int i34), (6, .ref a1), (0, .int v0), (1, .ref v1), (2, .ref v2), (3, .ref v3), (4, .ref v4), (5, .ref v5)]) hx hb dL_lay_23 hl (k := 0) rfl (by rw [ei34]; rfl) (by decide) rfl (fun ls hl => ?_)
    refine lv_goto (tgt := 9) hx hb dL_lay_26 (by decide) ?_
    exact ih9 (i34, S33) _ _ _ h (lv_sub hl [0, 1, 2, 3, 4, 5, 6, 7] rfl) hO
theorem hdS_L_weaves : yL_weaves.cls ≠ "java/lang/invoke/MethodHandle" ∧ yL_weaves.cls ≠ "java/lang/invoke/VarHandle" ∧ (parseMethodDescriptor yL_weaves.desc).map (fun d => d.parameters.length) = some 2 := by decide +kernel
set_option maxHeartbeats 4000000 in
set_option maxRecDepth 100000 in
theorem c_L_weaves (l : Launch) (D : va_G) (Y : Nat → ClassId) (L : List Nat) (S : PS) (sz : Nat) (v0 : Nat) (v1 : Nat) (Post : PS → Prop) (h : wp_L_weaves S v0 v1 Post) : Met l yL_weaves wsL_weaves ({ frames := 0, cells := 1, slots := 12, locals := 0 }) (va_Pc [.ref v0, .ref v1] (PrO D Y L S sz)) (va_Qv Post (QtO D Y (fR L sz)) (fR L sz)) 1 12 (fR L sz) := by
  refine Met.ofW (cc := cL_weaves) (maxL := 4) (ret := none) (by decide) rfl ?_
  intro p e s m args below meth c s₁ B hml hv
  obtain ⟨rfl, hsz, hJ, hP, hK, hD0, hZ⟩ := hv
  have hx := B.exec
  have hb := B.bytes
  have hr := B.returns
  have hts := atoms_spec (ws := wsL_weaves) B.pre
  have hown : s.vm.findClass RL = some m.cls := findClass_of_methodNamed B.named
  have hlocks := B.notSynchronized
  have CF : CallFix p m c cL_weaves 4 s ([.ref v0, .ref v1] : List Value).toArray wsL_weaves RL := ⟨hx, hb, hml, hown, hts⟩
  have C : CX p m c cL_weaves 4 s ([.ref v0, .ref v1] : List Value).toArray wsL_weaves RL D Y := ⟨CF, hK, hZ⟩
  have hO : HO D Y (fR L sz) s.heap S s.heap [] := HO.entry hsz hJ hP hD0
  subst hsz
  have hl := lv_entry ([.ref v0, .ref v1]) (n := 4) (Nat.le_of_ble_eq_true rfl)
  rw [lg_entry_eq]
  generalize (lg_sl ([.ref v0, .ref v1]) ++ List.replicate (4 - (lg_sl ([.ref v0, .ref v1])).length) Slot.unset).toArray = ls at hl ⊢
  have hl : lv_has ls 4 [(0, .ref v0), (1, .ref v1)] := hl
  unfold wp_L_weaves at h
  refine lv_bipush (v := (nI 12)) hx hb dL_weaves_0 (by decide) ?_
  refine r_newa (k := 1) (ty := .int) (N' := 12) C hO (by intro C h; cases h) rfl rfl (List.mem_of_getElem? (i := 1) (by decide +kernel)) (12, .inl (fun _ => 0)) (fun _ => rfl) (by decide) (by decide) (Nat.le_of_ble_eq_true rfl) (Nat.le_of_ble_eq_true rfl) (Nat.le_of_ble_eq_true rfl) dL_weaves_2 (fun a1 H hqa1 hO => ?_)
  obtain ⟨S2, eS2⟩ : ∃ Sx, Sx = va_up S a1 (aI 12 (fun _ => 0)) := ⟨_, rfl⟩
  have hO := (show HO D Y (fR L s.heap.size) s.heap (va_up S a1 (aI 12 (fun _ => 0))) H _ from hO)
  rw [← eS2] at hO
  have h := h a1 hqa1 S2 eS2
  refine lv_astore_n (lv' := [(2, .ref a1), (0, .ref v0), (1, .ref v1)]) hx hb dL_weaves_4 rfl hl (by decide) rfl (fun ls hl => ?_)
  refine lv_iconst (v := (nI 0)) hx hb dL_weaves_5 (by decide) ?_
  refine lv_istore_n (lv' := [(3, .int (nI 0)), (2, .ref a1), (0, .ref v0), (1, .ref v1)]) hx hb dL_weaves_6 rfl hl (by decide) rfl (fun ls hl => ?_)
  obtain ⟨n32, h⟩ := h
  refine lp_W (nL := 4) (fun q => [(3, .int q.1), (2, .ref a1), (0, .ref v0), (1, .ref v1)]) (fun q => q.2) h (lv_sub hl [0, 1, 2, 3] rfl) hO (fun K7 ih7 q ls H locs h hl hO => ?_)
  obtain ⟨i3, S4⟩ := q
  have h : wpb_L_weaves_7 v0 v1 a1 Post K7 i3 S4 := h
  have hl : lv_has ls 4 [(3, .int i3), (2, .ref a1), (0, .ref v0), (1, .ref v1)] := hl
  have hO : HO D Y (fR L s.heap.size) s.heap S4 H locs := hO
  unfold wpb_L_weaves_7 at h
  refine lv_iload_n hx hb dL_weaves_7 rfl (lv_at hl 0 rfl) ?_
  refine lv_bipush (v := (nI 12)) hx hb dL_weaves_8 (by decide) ?_
  refine lv_icmp_ge (tgt := 25) hx hb dL_weaves_10 (by decide) (fun c5 => ?_) (fun c5 => ?_)
  · have h := h.1 c5
    refine lv_iconst (v := (nI 0)) hx hb dL_weaves_25 (by decide) ?_
    refine lv_istore_n (lv' := [(3, .int (nI 0)), (2, .ref a1), (0, .ref v0), (1, .ref v1)]) hx hb dL_weaves_26 rfl hl (by decide) rfl (fun ls hl => ?_)
    obtain ⟨n22, h⟩ := h
    refine lp_W (nL := 4) (fun q => [(3, .int q.1), (2, .ref a1), (0, .ref v0), (1, .ref v1)]) (fun q => q.2) h (lv_sub hl [0, 1, 2, 3] rfl) hO (fun K27 ih27 q ls H locs h hl hO => ?_)
    obtain ⟨i6, S7⟩ := q
    have h : wpb_L_weaves_27 v0 v1 a1 Post K27 i6 S7 := h
    have hl : lv_has ls 4 [(3, .int i6), (2, .ref a1), (0, .ref v0), (1, .ref v1)] := hl
    have hO : HO D Y (fR L s.heap.size) s.heap S7 H locs := hO
    unfold wpb_L_weaves_27 at h
    refine lv_iload_n hx hb dL_weaves_27 rfl (lv_at hl 0 rfl) ?_
    refine lv_bipush (v := (nI 12)) hx hb dL_weaves_28 (by decide) ?_
    refine lv_icmp_ge (tgt := 47) hx hb dL_weaves_30 (by decide) (fun c8 => ?_) (fun c8 => ?_)
    · have h := h.1 c8
      exact W.vret hx hb hr (fun t ht hW => ⟨⟨S7, rfl, h, hO.q ht⟩, hO.f ht⟩) hO.lc dL_weaves_47
    · have h := h.2 c8
      refine lv_aload_n hx hb dL_weaves_33 rfl (lv_at hl 3 rfl) ?_
      refine lv_aload_n hx hb dL_weaves_34 rfl (lv_at hl 2 rfl) ?_
      refine lv_iload_n hx hb dL_weaves_35 rfl (lv_at hl 0 rfl) ?_
      obtain ⟨n9, f10, i12, e11, e11', exi12, h⟩ := h
      refine r_iald C hO e11 e11' dL_weaves_36 ?_
      rw [exi12]
      refine lv_aload_n hx hb dL_weaves_37 rfl (lv_at hl 1 rfl) ?_
      refine lv_iload_n hx hb dL_weaves_38 rfl (lv_at hl 0 rfl) ?_
      obtain ⟨n13, f14, i16, e15, e15', exi16, h⟩ := h
      refine r_iald C hO e15 e15' dL_weaves_39 ?_
      rw [exi16]
      obtain ⟨n17, f18, e19, e19', h⟩ := h
      refine r_iast C hO e19 e19' dL_weaves_40 (fun H locs hO => ?_)
      obtain ⟨S20, eS20⟩ : ∃ Sx, Sx = va_up S7 v1 (aI n17 (upd f18 (i12).toNatClampNeg i16)) := ⟨_, rfl⟩
      rw [← eS20] at hO
      have h := h S20 eS20
      obtain ⟨i21, ei21⟩ : ∃ y : Int32, y = i6 + (nI 1) := ⟨_, rfl⟩
      have h := h i21 ei21
      refine lv_iinc (v := i21) (lv' := [(3, .int i21), (2, .ref a1), (0, .ref v0), (1, .ref v1)]) hx hb dL_weaves_41 hl (k := 0) rfl (by rw [ei21]; rfl) (by decide) rfl (fun ls hl => ?_)
      refine lv_goto (tgt := 27) hx hb dL_weaves_44 (by decide) ?_
      exact ih27 (i21, S20) _ _ _ h (lv_sub hl [0, 1, 2, 3] rfl) hO
  · have h := h.2 c5
    refine lv_aload_n hx hb dL_weaves_13 rfl (lv_at hl 1 rfl) ?_
    refine lv_iload_n hx hb dL_weaves_14 rfl (lv_at hl 0 rfl) ?_
    refine lv_aload_n hx hb dL_weaves_15 rfl (lv_at hl 3 rfl) ?_
    refine lv_iload_n hx hb dL_weaves_16 rfl (lv_at hl 0 rfl) ?_
    obtain ⟨n23, f24, i26, e25, e25', exi26, h⟩ := h
    refine r_iald C hO e25 e25' dL_weaves_17 ?_
    rw [exi26]
    obtain ⟨n27, f28, e29, e29', h⟩ := h
    refine r_iast C hO e29 e29' dL_weaves_18 (fun H locs hO => ?_)
    obtain ⟨S30, eS30⟩ : ∃ Sx, Sx = va_up S4 a1 (aI n27 (upd f28 (i3).toNatClampNeg i26)) := ⟨_, rfl⟩
    rw [← eS30] at hO
    have h := h S30 eS30
    obtain ⟨i31, ei31⟩ : ∃ y : Int32, y = i3 + (nI 1) := ⟨_, rfl⟩
    have h := h i31 ei31
    refine lv_iinc (v := i31) (lv' := [(3, .int i31), (2, .ref a1), (0, .ref v0), (1, .ref v1)]) hx hb dL_weaves_19 hl (k := 0) rfl (by rw [ei31]; rfl) (by decide) rfl (fun ls hl => ?_)
    refine lv_goto (tgt := 7) hx hb dL_weaves_22 (by decide) ?_
    exact ih7 (i31, S30) _ _ _ h (lv_sub hl [0, 1, 2, 3] rfl) hO
theorem hdS_L_home : yL_home.cls ≠ "java/lang/invoke/MethodHandle" ∧ yL_home.cls ≠ "java/lang/invoke/VarHandle" ∧ (parseMethodDescriptor yL_home.desc).map (fun d => d.parameters.length) = some 1 := by decide +kernel
set_option maxHeartbeats 4000000 in
set_option maxRecDepth 100000 in
theorem c_L_home (l : Launch) (D : va_G) (Y : Nat → ClassId) (L : List Nat) (S : PS) (sz : Nat) (v0 : Nat) (Post : Int32 → Prop) (h : wp_L_home S v0 Post) : Met l yL_home wsL_home ({ frames := 0, cells := 0, slots := 0, locals := 0 }) (va_Pc [.ref v0] (PrO D Y L S sz)) (vp_Si Post) 0 0 (fun _ => False) := by
  refine Met.ofW (cc := cL_home) (maxL := 3) (ret := (some .int)) (by decide) rfl ?_
  intro p e s m args below meth c s₁ B hml hv
  obtain ⟨rfl, hsz, hJ, hP, hK, hD0, hZ⟩ := hv
  have hx := B.exec
  have hb := B.bytes
  have hr := B.returns
  have hts := atoms_spec (ws := wsL_home) B.pre
  have hown : s.vm.findClass RL = some m.cls := findClass_of_methodNamed B.named
  have hlocks := B.notSynchronized
  have CF : CallFix p m c cL_home 3 s ([.ref v0] : List Value).toArray wsL_home RL := ⟨hx, hb, hml, hown, hts⟩
  have C : CX p m c cL_home 3 s ([.ref v0] : List Value).toArray wsL_home RL D Y := ⟨CF, hK, hZ⟩
  have hO : HO D Y (fR L sz) s.heap S s.heap [] := HO.entry hsz hJ hP hD0
  subst hsz
  have hl := lv_entry ([.ref v0]) (n := 3) (Nat.le_of_ble_eq_true rfl)
  rw [lg_entry_eq]
  generalize (lg_sl ([.ref v0]) ++ List.replicate (3 - (lg_sl ([.ref v0])).length) Slot.unset).toArray = ls at hl ⊢
  have hl : lv_has ls 3 [(0, .ref v0)] := hl
  unfold wp_L_home at h
  refine lv_iconst (v := (nI 0)) hx hb dL_home_0 (by decide) ?_
  refine lv_istore_n (lv' := [(1, .int (nI 0)), (0, .ref v0)]) hx hb dL_home_1 rfl hl (by decide) rfl (fun ls hl => ?_)
  refine lv_iconst (v := (nI 0)) hx hb dL_home_2 (by decide) ?_
  refine lv_istore_n (lv' := [(2, .int (nI 0)), (1, .int (nI 0)), (0, .ref v0)]) hx hb dL_home_3 rfl hl (by decide) rfl (fun ls hl => ?_)
  obtain ⟨n13, h⟩ := h
  refine lp_P (nL := 3) (fun q => [(2, .int q.1), (1, .int q.2), (0, .ref v0)]) h (lv_sub hl [0, 1, 2] rfl) (fun K4 ih4 q ls h hl => ?_)
  obtain ⟨i1, i2⟩ := q
  have h : wpb_L_home_4 S v0 Post K4 i1 i2 := h
  have hl : lv_has ls 3 [(2, .int i1), (1, .int i2), (0, .ref v0)] := hl
  unfold wpb_L_home_4 at h
  refine lv_iload_n hx hb dL_home_4 rfl (lv_at hl 0 rfl) ?_
  refine lv_bipush (v := (nI 12)) hx hb dL_home_5 (by decide) ?_
  refine lv_icmp_ge (tgt := 31) hx hb dL_home_7 (by decide) (fun c3 => ?_) (fun c3 => ?_)
  · have h := h.1 c3
    refine lv_iload_n hx hb dL_home_31 rfl (lv_at hl 1 rfl) ?_
    exact W.iret hx hb hr (fun t ht hW => ⟨i2, rfl, h, ht⟩) no_locs dL_home_32
  · have h := h.2 c3
    refine lv_iload_n hx hb dL_home_10 rfl (lv_at hl 1 rfl) ?_
    refine lv_aload_n hx hb dL_home_11 rfl (lv_at hl 2 rfl) ?_
    refine lv_iload_n hx hb dL_home_12 rfl (lv_at hl 0 rfl) ?_
    obtain ⟨n4, f5, i7, e6, e6', exi7, h⟩ := h
    refine r_iald C hO e6 e6' dL_home_13 ?_
    rw [exi7]
    refine lv_iload_n hx hb dL_home_14 rfl (lv_at hl 0 rfl) ?_
    refine lv_icmp_ne (tgt := 22) hx hb dL_home_15 (by decide) (fun c8 => ?_) (fun c8 => ?_)
    · have h := h.2 c8
      refine lv_iconst (v := (nI 0)) hx hb dL_home_22 (by decide) ?_
      refine lv_iadd hx hb dL_home_23 ?_
      refine lv_topi (fun i9 ei9 => ?_)
      have h := h i9 ei9
      refine lv_istore_n (lv' := [(1, .int i9), (2, .int i1), (0, .ref v0)]) hx hb dL_home_24 rfl hl (by decide) rfl (fun ls hl => ?_)
      obtain ⟨i10, ei10⟩ : ∃ y : Int32, y = i1 + (nI 1) := ⟨_, rfl⟩
      have h := h i10 ei10
      refine lv_iinc (v := i10) (lv' := [(2, .int i10), (1, .int i9), (0, .ref v0)]) hx hb dL_home_25 hl (k := 1) rfl (by rw [ei10]; rfl) (by decide) rfl (fun ls hl => ?_)
      refine lv_goto (tgt := 4) hx hb dL_home_28 (by decide) ?_
      exact ih4 (i10, i9) _ h (lv_sub hl [0, 1, 2] rfl)
    · have h := h.1 c8
      refine lv_iconst (v := (nI 1)) hx hb dL_home_18 (by decide) ?_
      refine lv_goto (tgt := 23) hx hb dL_home_19 (by decide) ?_
      refine lv_iadd hx hb dL_home_23 ?_
      refine lv_topi (fun i11 ei11 => ?_)
      have h := h i11 ei11
      refine lv_istore_n (lv' := [(1, .int i11), (2, .int i1), (0, .ref v0)]) hx hb dL_home_24 rfl hl (by decide) rfl (fun ls hl => ?_)
      obtain ⟨i12, ei12⟩ : ∃ y : Int32, y = i1 + (nI 1) := ⟨_, rfl⟩
      have h := h i12 ei12
      refine lv_iinc (v := i12) (lv' := [(2, .int i12), (1, .int i11), (0, .ref v0)]) hx hb dL_home_25 hl (k := 1) rfl (by rw [ei12]; rfl) (by decide) rfl (fun ls hl => ?_)
      refine lv_goto (tgt := 4) hx hb dL_home_28 (by decide) ?_
      exact ih4 (i12, i11) _ h (lv_sub hl [0, 1, 2] rfl)
theorem hdS_L_makes : yL_makes.cls ≠ "java/lang/invoke/MethodHandle" ∧ yL_makes.cls ≠ "java/lang/invoke/VarHandle" ∧ (parseMethodDescriptor yL_makes.desc).map (fun d => d.parameters.length) = some 5 := by decide +kernel
set_option maxHeartbeats 4000000 in
set_option maxRecDepth 100000 in
theorem c_L_makes (l : Launch) (D : va_G) (Y : Nat → ClassId) (L : List Nat) (S : PS) (sz : Nat) (v0 : Int32) (v1 : Nat) (v2 : Int32) (v3 : Nat) (v4 : Nat) (Post : PS → Prop) (h : wp_L_makes S v0 v1 v2 v3 v4 Post) : Met l yL_makes wsL_makes ({ frames := 0, cells := 0, slots := 0, locals := 0 }) (va_Pc [.int v0, .ref v1, .int v2, .ref v3, .ref v4] (PrO D Y L S sz)) (va_Qv Post (QtO D Y (fR L sz)) (fR L sz)) 0 0 (fR L sz) := by
  refine Met.ofW (cc := cL_makes) (maxL := 6) (ret := none) (by decide) rfl ?_
  intro p e s m args below meth c s₁ B hml hv
  obtain ⟨rfl, hsz, hJ, hP, hK, hD0, hZ⟩ := hv
  have hx := B.exec
  have hb := B.bytes
  have hr := B.returns
  have hts := atoms_spec (ws := wsL_makes) B.pre
  have hown : s.vm.findClass RL = some m.cls := findClass_of_methodNamed B.named
  have hlocks := B.notSynchronized
  have CF : CallFix p m c cL_makes 6 s ([.int v0, .ref v1, .int v2, .ref v3, .ref v4] : List Value).toArray wsL_makes RL := ⟨hx, hb, hml, hown, hts⟩
  have C : CX p m c cL_makes 6 s ([.int v0, .ref v1, .int v2, .ref v3, .ref v4] : List Value).toArray wsL_makes RL D Y := ⟨CF, hK, hZ⟩
  have hO : HO D Y (fR L sz) s.heap S s.heap [] := HO.entry hsz hJ hP hD0
  subst hsz
  have hl := lv_entry ([.int v0, .ref v1, .int v2, .ref v3, .ref v4]) (n := 6) (Nat.le_of_ble_eq_true rfl)
  rw [lg_entry_eq]
  generalize (lg_sl ([.int v0, .ref v1, .int v2, .ref v3, .ref v4]) ++ List.replicate (6 - (lg_sl ([.int v0, .ref v1, .int v2, .ref v3, .ref v4])).length) Slot.unset).toArray = ls at hl ⊢
  have hl : lv_has ls 6 [(0, .int v0), (1, .ref v1), (2, .int v2), (3, .ref v3), (4, .ref v4)] := hl
  unfold wp_L_makes at h
  refine lv_aload_n hx hb dL_makes_0 rfl (lv_at hl 3 rfl) ?_
  refine lv_iload_n hx hb dL_makes_1 rfl (lv_at hl 0 rfl) ?_
  refine lv_iload_n hx hb dL_makes_2 rfl (lv_at hl 2 rfl) ?_
  obtain ⟨n1, f2, e3, e3', h⟩ := h
  refine r_iast C hO e3 e3' dL_makes_3 (fun H locs hO => ?_)
  obtain ⟨S4, eS4⟩ : ∃ Sx, Sx = va_up S v3 (aI n1 (upd f2 (v0).toNatClampNeg v2)) := ⟨_, rfl⟩
  rw [← eS4] at hO
  have h := h S4 eS4
  refine lv_iconst (v := (nI 0)) hx hb dL_makes_4 (by decide) ?_
  refine lv_istore (lv' := [(5, .int (nI 0)), (0, .int v0), (1, .ref v1), (2, .int v2), (3, .ref v3), (4, .ref v4)]) hx hb dL_makes_5 hl (by decide) rfl (fun ls hl => ?_)
  obtain ⟨n31, h⟩ := h
  refine lp_W (nL := 6) (fun q => [(5, .int q.1), (0, .int v0), (1, .ref v1), (2, .int v2), (4, .ref v4)]) (fun q => q.2) h (lv_sub hl [0, 1, 2, 3, 5] rfl) hO (fun K7 ih7 q ls H locs h hl hO => ?_)
  obtain ⟨i5, S6⟩ := q
  have h : wpb_L_makes_7 v0 v1 v2 v4 Post K7 i5 S6 := h
  have hl : lv_has ls 6 [(5, .int i5), (0, .int v0), (1, .ref v1), (2, .int v2), (4, .ref v4)] := hl
  have hO : HO D Y (fR L s.heap.size) s.heap S6 H locs := hO
  unfold wpb_L_makes_7 at h
  refine lv_iload hx hb dL_makes_7 (lv_at hl 0 rfl) ?_
  refine lv_iconst (v := (nI 3)) hx hb dL_makes_9 (by decide) ?_
  refine lv_icmp_ge (tgt := 29) hx hb dL_makes_10 (by decide) (fun c7 => ?_) (fun c7 => ?_)
  · have h := h.1 c7
    refine lv_iconst (v := (nI 0)) hx hb dL_makes_29 (by decide) ?_
    refine lv_istore (lv' := [(5, .int (nI 0)), (0, .int v0), (1, .ref v1), (2, .int v2), (4, .ref v4)]) hx hb dL_makes_30 hl (by decide) rfl (fun ls hl => ?_)
    obtain ⟨n25, h⟩ := h
    refine lp_W (nL := 6) (fun q => [(5, .int q.1), (0, .int v0), (1, .ref v1), (2, .int v2), (4, .ref v4)]) (fun q => q.2) h (lv_sub hl [0, 1, 2, 3, 4] rfl) hO (fun K32 ih32 q ls H locs h hl hO => ?_)
    obtain ⟨i8, S9⟩ := q
    have h : wpb_L_makes_32 v0 v1 v2 v4 Post K32 i8 S9 := h
    have hl : lv_has ls 6 [(5, .int i8), (0, .int v0), (1, .ref v1), (2, .int v2), (4, .ref v4)] := hl
    have hO : HO D Y (fR L s.heap.size) s.heap S9 H locs := hO
    unfold wpb_L_makes_32 at h
    refine lv_iload hx hb dL_makes_32 (lv_at hl 0 rfl) ?_
    refine lv_iload_n hx hb dL_makes_34 rfl (lv_at hl 3 rfl) ?_
    refine lv_icmp_ge (tgt := 71) hx hb dL_makes_35 (by decide) (fun c10 => ?_) (fun c10 => ?_)
    · have h := h.1 c10
      exact W.vret hx hb hr (fun t ht hW => ⟨⟨S9, rfl, h, hO.q ht⟩, hO.f ht⟩) hO.lc dL_makes_71
    · have h := h.2 c10
      refine lv_aload hx hb dL_makes_38 (lv_at hl 4 rfl) ?_
      refine lv_iconst (v := (nI 3)) hx hb dL_makes_40 (by decide) ?_
      refine lv_iload_n hx hb dL_makes_41 rfl (lv_at hl 1 rfl) ?_
      refine lv_imul hx hb dL_makes_42 ?_
      refine lv_iload hx hb dL_makes_43 (lv_at hl 0 rfl) ?_
      refine lv_bipush (v := (nI 8)) hx hb dL_makes_45 (by decide) ?_
      refine lv_idiv hx hb dL_makes_47 (by decide) ?_
      refine lv_iadd hx hb dL_makes_48 ?_
      refine lv_topi (fun i11 ei11 => ?_)
      have h := h i11 ei11
      refine lv_dup2_11 hx hb dL_makes_49 rfl rfl ?_
      obtain ⟨n12, f13, i15, e14, e14', exi15, h⟩ := h
      refine r_iald C hO e14 e14' dL_makes_50 ?_
      rw [exi15]
      refine lv_aload_n hx hb dL_makes_51 rfl (lv_at hl 2 rfl) ?_
      refine lv_iload hx hb dL_makes_52 (lv_at hl 0 rfl) ?_
      obtain ⟨n16, f17, i19, e18, e18', exi19, h⟩ := h
      refine r_iald C hO e18 e18' dL_makes_54 ?_
      rw [exi19]
      refine lv_iconst (v := (nI 4)) hx hb dL_makes_55 (by decide) ?_
      refine lv_iload hx hb dL_makes_56 (lv_at hl 0 rfl) ?_
      refine lv_bipush (v := (nI 8)) hx hb dL_makes_58 (by decide) ?_
      refine lv_irem hx hb dL_makes_60 (by decide) ?_
      refine lv_imul hx hb dL_makes_61 ?_
      refine lv_ishl hx hb dL_makes_62 ?_
      refine lv_ior hx hb dL_makes_63 ?_
      obtain ⟨n20, f21, e22, e22', h⟩ := h
      refine r_iast C hO e22 e22' dL_makes_64 (fun H locs hO => ?_)
      obtain ⟨S23, eS23⟩ : ∃ Sx, Sx = va_up S9 v4 (aI n20 (upd f21 (i11).toNatClampNeg (i15 ||| (i19 <<< (((nI 4) * (i8 - i8 / (nI 8) * (nI 8))) &&& 31))))) := ⟨_, rfl⟩
      rw [← eS23] at hO
      have h := h S23 eS23
      obtain ⟨i24, ei24⟩ : ∃ y : Int32, y = i8 + (nI 1) := ⟨_, rfl⟩
      have h := h i24 ei24
      refine lv_iinc (v := i24) (lv' := [(5, .int i24), (0, .int v0), (1, .ref v1), (2, .int v2), (4, .ref v4)]) hx hb dL_makes_65 hl (k := 0) rfl (by rw [ei24]; rfl) (by decide) rfl (fun ls hl => ?_)
      refine lv_goto (tgt := 32) hx hb dL_makes_68 (by decide) ?_
      exact ih32 (i24, S23) _ _ _ h (lv_sub hl [0, 1, 2, 3, 4] rfl) hO
  · have h := h.2 c7
    refine lv_aload hx hb dL_makes_13 (lv_at hl 4 rfl) ?_
    refine lv_iconst (v := (nI 3)) hx hb dL_makes_15 (by decide) ?_
    refine lv_iload_n hx hb dL_makes_16 rfl (lv_at hl 1 rfl) ?_
    refine lv_imul hx hb dL_makes_17 ?_
    refine lv_iload hx hb dL_makes_18 (lv_at hl 0 rfl) ?_
    refine lv_iadd hx hb dL_makes_20 ?_
    refine lv_iconst (v := (nI 0)) hx hb dL_makes_21 (by decide) ?_
    obtain ⟨n26, f27, e28, e28', h⟩ := h
    refine r_iast C hO e28 e28' dL_makes_22 (fun H locs hO => ?_)
    obtain ⟨S29, eS29⟩ : ∃ Sx, Sx = va_up S6 v4 (aI n26 (upd f27 ((((nI 3) * v0) + i5)).toNatClampNeg (nI 0))) := ⟨_, rfl⟩
    rw [← eS29] at hO
    have h := h S29 eS29
    obtain ⟨i30, ei30⟩ : ∃ y : Int32, y = i5 + (nI 1) := ⟨_, rfl⟩
    have h := h i30 ei30
    refine lv_iinc (v := i30) (lv' := [(5, .int i30), (0, .int v0), (1, .ref v1), (2, .int v2), (4, .ref v4)]) hx hb dL_makes_23 hl (k := 0) rfl (by rw [ei30]; rfl) (by decide) rfl (fun ls hl => ?_)
    refine lv_goto (tgt := 7) hx hb dL_makes_26 (by decide) ?_
    exact ih7 (i30, S29) _ _ _ h (lv_sub hl [0, 1, 2, 3, 4] rfl) hO
theorem hdS_L_told : yL_told.cls ≠ "java/lang/invoke/MethodHandle" ∧ yL_told.cls ≠ "java/lang/invoke/VarHandle" ∧ (parseMethodDescriptor yL_told.desc).map (fun d => d.parameters.length) = some 1 := by decide +kernel
set_option maxHeartbeats 4000000 in
set_option maxRecDepth 100000 in
theorem c_L_told (l : Launch) (D : va_G) (Y : Nat → ClassId) (L : List Nat) (S : PS) (sz : Nat) (v0 : Nat) (Post : Int64 → Prop) (h : wp_L_told S v0 Post) : Met l yL_told wsL_told ({ frames := 4, cells := 0, slots := 0, locals := 90 }) (va_Pc [.ref v0] (PrO D Y L S sz)) (vp_Sl Post) 0 0 (fun _ => False) := by
  refine Met.ofW (cc := cL_told) (maxL := 5) (ret := (some .long)) (by decide) rfl ?_
  intro p e s m args below meth c s₁ B hml hv
  obtain ⟨rfl, hsz, hJ, hP, hK, hD0, hZ⟩ := hv
  have hx := B.exec
  have hb := B.bytes
  have hr := B.returns
  have hts := atoms_spec (ws := wsL_told) B.pre
  have hown : s.vm.findClass RL = some m.cls := findClass_of_methodNamed B.named
  have hlocks := B.notSynchronized
  have CF : CallFix p m c cL_told 5 s ([.ref v0] : List Value).toArray wsL_told RL := ⟨hx, hb, hml, hown, hts⟩
  have C : CX p m c cL_told 5 s ([.ref v0] : List Value).toArray wsL_told RL D Y := ⟨CF, hK, hZ⟩
  have hO : HO D Y (fR L sz) s.heap S s.heap [] := HO.entry hsz hJ hP hD0
  subst hsz
  have hl := lv_entry ([.ref v0]) (n := 5) (Nat.le_of_ble_eq_true rfl)
  rw [lg_entry_eq]
  generalize (lg_sl ([.ref v0]) ++ List.replicate (5 - (lg_sl ([.ref v0])).length) Slot.unset).toArray = ls at hl ⊢
  have hl : lv_has ls 5 [(0, .ref v0)] := hl
  unfold wp_L_told at h
  refine lv_ldc2 hx hb hown (hts _ (List.mem_of_getElem? (i := 1) (by decide +kernel : wsL_told[1]? = some (Cond.constantLong RL 24 (53))))) dL_told_0 ?_
  refine lv_lstore_n (lv' := [(1, .long (53 : Int64)), (0, .ref v0)]) hx hb dL_told_3 rfl hl (by decide) rfl (fun ls hl => ?_)
  refine lv_iconst (v := (nI 0)) hx hb dL_told_4 (by decide) ?_
  refine lv_istore_n (lv' := [(3, .int (nI 0)), (1, .long (53 : Int64)), (0, .ref v0)]) hx hb dL_told_5 rfl hl (by decide) rfl (fun ls hl => ?_)
  obtain ⟨n39, h⟩ := h
  refine lp_P (nL := 5) (fun q => [(3, .int q.1), (1, .long q.2), (0, .ref v0)]) h (lv_sub hl [0, 1, 2] rfl) (fun K6 ih6 q ls h hl => ?_)
  obtain ⟨i1, j2⟩ := q
  have h : wpb_L_told_6 S v0 Post K6 i1 j2 := h
  have hl : lv_has ls 5 [(3, .int i1), (1, .long j2), (0, .ref v0)] := hl
  unfold wpb_L_told_6 at h
  refine lv_iload_n hx hb dL_told_6 rfl (lv_at hl 0 rfl) ?_
  refine lv_bipush (v := (nI 12)) hx hb dL_told_7 (by decide) ?_
  refine lv_icmp_ge (tgt := 56) hx hb dL_told_9 (by decide) (fun c3 => ?_) (fun c3 => ?_)
  · have h := h.1 c3
    refine lv_iconst (v := (nI 0)) hx hb dL_told_56 (by decide) ?_
    refine lv_istore_n (lv' := [(3, .int (nI 0)), (1, .long j2), (0, .ref v0)]) hx hb dL_told_57 rfl hl (by decide) rfl (fun ls hl => ?_)
    obtain ⟨n27, h⟩ := h
    refine lp_P (nL := 5) (fun q => [(3, .int q.1), (1, .long q.2), (0, .ref v0)]) h (lv_sub hl [0, 1, 2] rfl) (fun K58 ih58 q ls h hl => ?_)
    obtain ⟨i4, j5⟩ := q
    have h : wpb_L_told_58 S v0 Post K58 i4 j5 := h
    have hl : lv_has ls 5 [(3, .int i4), (1, .long j5), (0, .ref v0)] := hl
    unfold wpb_L_told_58 at h
    refine lv_iload_n hx hb dL_told_58 rfl (lv_at hl 0 rfl) ?_
    refine lv_bipush (v := (nI 6)) hx hb dL_told_59 (by decide) ?_
    refine lv_icmp_ge (tgt := 115) hx hb dL_told_61 (by decide) (fun c6 => ?_) (fun c6 => ?_)
    · have h := h.1 c6
      refine lv_ldc2 hx hb hown (hts _ (List.mem_of_getElem? (i := 2) (by decide +kernel : wsL_told[2]? = some (Cond.constantLong RL 26 (31))))) dL_told_115 ?_
      refine lv_ldc2 hx hb hown (hts _ (List.mem_of_getElem? (i := 2) (by decide +kernel : wsL_told[2]? = some (Cond.constantLong RL 26 (31))))) dL_told_118 ?_
      refine lv_lload_n hx hb dL_told_121 rfl (lv_at hl 1 rfl) ?_
      refine lv_lmul hx hb dL_told_122 ?_
      refine lv_aload_n hx hb dL_told_123 rfl (lv_at hl 2 rfl) ?_
      refine lv_iconst (v := (nI 1)) hx hb dL_told_124 (by decide) ?_
      obtain ⟨fs9, e8, h⟩ := h
      refine cV_ri (As := [.int (nI 1)]) (rest := [.long ((31 : Int64) * j5), .long (31 : Int64)]) (n := 1) C hO (fun L => c_X7_count l D Y L S s.heap.size v0 (nI 1) _ h) 5 rfl e8 (cwV 1 hts gL_told_X7_count rfl rfl rfl ⟨rfl, hdS_X7_count⟩ ⟨Nat.le_of_ble_eq_true rfl, Nat.le_of_ble_eq_true rfl⟩) rfl hl.1 rfl (Nat.le_of_ble_eq_true rfl) dL_told_125 ⟨(Nat.le_of_ble_eq_true rfl), (Nat.le_of_ble_eq_true rfl)⟩ (fun i7 h => ?_)
      refine lv_i2l (v := (i7).toInt64) hx hb dL_told_128 rfl ?_
      refine lv_ladd hx hb dL_told_129 ?_
      refine lv_lmul hx hb dL_told_130 ?_
      refine lv_aload_n hx hb dL_told_131 rfl (lv_at hl 2 rfl) ?_
      refine lv_iconst (v := (nI 2)) hx hb dL_told_132 (by decide) ?_
      obtain ⟨fs12, e11, h⟩ := h
      refine cV_ri (As := [.int (nI 2)]) (rest := [.long ((31 : Int64) * (((31 : Int64) * j5) + (i7).toInt64))]) (n := 1) C hO (fun L => c_X7_count l D Y L S s.heap.size v0 (nI 2) _ h) 5 rfl e11 (cwV 1 hts gL_told_X7_count rfl rfl rfl ⟨rfl, hdS_X7_count⟩ ⟨Nat.le_of_ble_eq_true rfl, Nat.le_of_ble_eq_true rfl⟩) rfl hl.1 rfl (Nat.le_of_ble_eq_true rfl) dL_told_133 ⟨(Nat.le_of_ble_eq_true rfl), (Nat.le_of_ble_eq_true rfl)⟩ (fun i10 h => ?_)
      refine lv_i2l (v := (i10).toInt64) hx hb dL_told_136 rfl ?_
      refine lv_ladd hx hb dL_told_137 ?_
      exact W.lret hx hb hr (fun t ht hW => ⟨(((31 : Int64) * (((31 : Int64) * j5) + (i7).toInt64)) + (i10).toInt64), rfl, h, ht⟩) no_locs dL_told_138
    · have h := h.2 c6
      refine lv_ldc2 hx hb hown (hts _ (List.mem_of_getElem? (i := 2) (by decide +kernel : wsL_told[2]? = some (Cond.constantLong RL 26 (31))))) dL_told_64 ?_
      refine lv_lload_n hx hb dL_told_67 rfl (lv_at hl 1 rfl) ?_
      refine lv_lmul hx hb dL_told_68 ?_
      refine lv_aload_n hx hb dL_told_69 rfl (lv_at hl 2 rfl) ?_
      refine lv_iload_n hx hb dL_told_70 rfl (lv_at hl 0 rfl) ?_
      refine lv_iconst (v := (nI 0)) hx hb dL_told_71 (by decide) ?_
      obtain ⟨fs15, e14, h⟩ := h
      refine cV_ri (As := [.int i4, .int (nI 0)]) (rest := [.long ((31 : Int64) * j5)]) (n := 2) C hO (fun L => c_X7_treadle l D Y L S s.heap.size v0 i4 (nI 0) _ h) 5 rfl e14 (cwV 2 hts gL_told_X7_treadle rfl rfl rfl ⟨rfl, hdS_X7_treadle⟩ ⟨Nat.le_of_ble_eq_true rfl, Nat.le_of_ble_eq_true rfl⟩) rfl hl.1 rfl (Nat.le_of_ble_eq_true rfl) dL_told_72 ⟨(Nat.le_of_ble_eq_true rfl), (Nat.le_of_ble_eq_true rfl)⟩ (fun i13 h => ?_)
      refine lv_i2l (v := (i13).toInt64) hx hb dL_told_75 rfl ?_
      refine lv_ladd hx hb dL_told_76 ?_
      refine lv_topl (fun j16 ej16 => ?_)
      have h := h j16 ej16
      refine lv_lstore_n (lv' := [(1, .long j16), (3, .int i4), (0, .ref v0)]) hx hb dL_told_77 rfl hl (by decide) rfl (fun ls hl => ?_)
      refine lv_iconst (v := (nI 0)) hx hb dL_told_78 (by decide) ?_
      refine lv_istore (lv' := [(4, .int (nI 0)), (1, .long j16), (3, .int i4), (0, .ref v0)]) hx hb dL_told_79 hl (by decide) rfl (fun ls hl => ?_)
      obtain ⟨n26, h⟩ := h
      refine lp_P (nL := 5) (fun q => [(4, .int q.1), (1, .long q.2), (3, .int i4), (0, .ref v0)]) h (lv_sub hl [0, 1, 2, 3] rfl) (fun K81 ih81 q ls h hl => ?_)
      obtain ⟨i17, j18⟩ := q
      have h : wpb_L_told_81 S v0 i4 K58 K81 i17 j18 := h
      have hl : lv_has ls 5 [(4, .int i17), (1, .long j18), (3, .int i4), (0, .ref v0)] := hl
      unfold wpb_L_told_81 at h
      refine lv_iload hx hb dL_told_81 (lv_at hl 0 rfl) ?_
      refine lv_bipush (v := (nI 24)) hx hb dL_told_83 (by decide) ?_
      refine lv_icmp_ge (tgt := 109) hx hb dL_told_85 (by decide) (fun c19 => ?_) (fun c19 => ?_)
      · have h := h.1 c19
        obtain ⟨i20, ei20⟩ : ∃ y : Int32, y = i4 + (nI 1) := ⟨_, rfl⟩
        have h := h i20 ei20
        refine lv_iinc (v := i20) (lv' := [(3, .int i20), (4, .int i17), (1, .long j18), (0, .ref v0)]) hx hb dL_told_109 hl (k := 2) rfl (by rw [ei20]; rfl) (by decide) rfl (fun ls hl => ?_)
        refine lv_goto (tgt := 58) hx hb dL_told_112 (by decide) ?_
        exact ih58 (i20, j18) _ h (lv_sub hl [0, 2, 3] rfl)
      · have h := h.2 c19
        refine lv_ldc2 hx hb hown (hts _ (List.mem_of_getElem? (i := 5) (by decide +kernel : wsL_told[5]? = some (Cond.constantLong RL 41 (13))))) dL_told_88 ?_
        refine lv_lload_n hx hb dL_told_91 rfl (lv_at hl 1 rfl) ?_
        refine lv_lmul hx hb dL_told_92 ?_
        refine lv_aload_n hx hb dL_told_93 rfl (lv_at hl 3 rfl) ?_
        refine lv_iload_n hx hb dL_told_94 rfl (lv_at hl 2 rfl) ?_
        refine lv_iload hx hb dL_told_95 (lv_at hl 0 rfl) ?_
        obtain ⟨fs23, e22, h⟩ := h
        refine cV_ri (As := [.int i4, .int i17]) (rest := [.long ((13 : Int64) * j18)]) (n := 2) C hO (fun L => c_X7_press l D Y L S s.heap.size v0 i4 i17 _ h) 5 rfl e22 (cwV 2 hts gL_told_X7_press rfl rfl rfl ⟨rfl, hdS_X7_press⟩ ⟨Nat.le_of_ble_eq_true rfl, Nat.le_of_ble_eq_true rfl⟩) rfl hl.1 rfl (Nat.le_of_ble_eq_true rfl) dL_told_97 ⟨(Nat.le_of_ble_eq_true rfl), (Nat.le_of_ble_eq_true rfl)⟩ (fun i21 h => ?_)
        refine lv_i2l (v := (i21).toInt64) hx hb dL_told_100 rfl ?_
        refine lv_ladd hx hb dL_told_101 ?_
        refine lv_topl (fun j24 ej24 => ?_)
        have h := h j24 ej24
        refine lv_lstore_n (lv' := [(1, .long j24), (4, .int i17), (3, .int i4), (0, .ref v0)]) hx hb dL_told_102 rfl hl (by decide) rfl (fun ls hl => ?_)
        obtain ⟨i25, ei25⟩ : ∃ y : Int32, y = i17 + (nI 1) := ⟨_, rfl⟩
        have h := h i25 ei25
        refine lv_iinc (v := i25) (lv' := [(4, .int i25), (1, .long j24), (3, .int i4), (0, .ref v0)]) hx hb dL_told_103 hl (k := 1) rfl (by rw [ei25]; rfl) (by decide) rfl (fun ls hl => ?_)
        refine lv_goto (tgt := 81) hx hb dL_told_106 (by decide) ?_
        exact ih81 (i25, j24) _ h (lv_sub hl [0, 1, 2, 3] rfl)
  · have h := h.2 c3
    refine lv_ldc2 hx hb hown (hts _ (List.mem_of_getElem? (i := 2) (by decide +kernel : wsL_told[2]? = some (Cond.constantLong RL 26 (31))))) dL_told_12 ?_
    refine lv_lload_n hx hb dL_told_15 rfl (lv_at hl 1 rfl) ?_
    refine lv_lmul hx hb dL_told_16 ?_
    refine lv_ldc2 hx hb hown (hts _ (List.mem_of_getElem? (i := 3) (by decide +kernel : wsL_told[3]? = some (Cond.constantLong RL 28 (100))))) dL_told_17 ?_
    refine lv_aload_n hx hb dL_told_20 rfl (lv_at hl 2 rfl) ?_
    refine lv_iload_n hx hb dL_told_21 rfl (lv_at hl 0 rfl) ?_
    refine lv_iconst (v := (nI 0)) hx hb dL_told_22 (by decide) ?_
    obtain ⟨fs30, e29, h⟩ := h
    refine cV_ri (As := [.int i1, .int (nI 0)]) (rest := [.long (100 : Int64), .long ((31 : Int64) * j2)]) (n := 2) C hO (fun L => c_X7_place l D Y L S s.heap.size v0 i1 (nI 0) _ h) 5 rfl e29 (cwV 2 hts gL_told_X7_place rfl rfl rfl ⟨rfl, hdS_X7_place⟩ ⟨Nat.le_of_ble_eq_true rfl, Nat.le_of_ble_eq_true rfl⟩) rfl hl.1 rfl (Nat.le_of_ble_eq_true rfl) dL_told_23 ⟨(Nat.le_of_ble_eq_true rfl), (Nat.le_of_ble_eq_true rfl)⟩ (fun i28 h => ?_)
    refine lv_i2l (v := (i28).toInt64) hx hb dL_told_26 rfl ?_
    refine lv_lmul hx hb dL_told_27 ?_
    refine lv_ladd hx hb dL_told_28 ?_
    refine lv_ldc2 hx hb hown (hts _ (List.mem_of_getElem? (i := 4) (by decide +kernel : wsL_told[4]? = some (Cond.constantLong RL 36 (10))))) dL_told_29 ?_
    refine lv_aload_n hx hb dL_told_32 rfl (lv_at hl 2 rfl) ?_
    refine lv_iload_n hx hb dL_told_33 rfl (lv_at hl 0 rfl) ?_
    refine lv_iconst (v := (nI 1)) hx hb dL_told_34 (by decide) ?_
    obtain ⟨fs33, e32, h⟩ := h
    refine cV_ri (As := [.int i1, .int (nI 1)]) (rest := [.long (10 : Int64), .long (((31 : Int64) * j2) + ((100 : Int64) * (i28).toInt64))]) (n := 2) C hO (fun L => c_X7_place l D Y L S s.heap.size v0 i1 (nI 1) _ h) 5 rfl e32 (cwV 2 hts gL_told_X7_place rfl rfl rfl ⟨rfl, hdS_X7_place⟩ ⟨Nat.le_of_ble_eq_true rfl, Nat.le_of_ble_eq_true rfl⟩) rfl hl.1 rfl (Nat.le_of_ble_eq_true rfl) dL_told_35 ⟨(Nat.le_of_ble_eq_true rfl), (Nat.le_of_ble_eq_true rfl)⟩ (fun i31 h => ?_)
    refine lv_i2l (v := (i31).toInt64) hx hb dL_told_38 rfl ?_
    refine lv_lmul hx hb dL_told_39 ?_
    refine lv_ladd hx hb dL_told_40 ?_
    refine lv_aload_n hx hb dL_told_41 rfl (lv_at hl 2 rfl) ?_
    refine lv_iload_n hx hb dL_told_42 rfl (lv_at hl 0 rfl) ?_
    refine lv_iconst (v := (nI 2)) hx hb dL_told_43 (by decide) ?_
    obtain ⟨fs36, e35, h⟩ := h
    refine cV_ri (As := [.int i1, .int (nI 2)]) (rest := [.long ((((31 : Int64) * j2) + ((100 : Int64) * (i28).toInt64)) + ((10 : Int64) * (i31).toInt64))]) (n := 2) C hO (fun L => c_X7_place l D Y L S s.heap.size v0 i1 (nI 2) _ h) 5 rfl e35 (cwV 2 hts gL_told_X7_place rfl rfl rfl ⟨rfl, hdS_X7_place⟩ ⟨Nat.le_of_ble_eq_true rfl, Nat.le_of_ble_eq_true rfl⟩) rfl hl.1 rfl (Nat.le_of_ble_eq_true rfl) dL_told_44 ⟨(Nat.le_of_ble_eq_true rfl), (Nat.le_of_ble_eq_true rfl)⟩ (fun i34 h => ?_)
    refine lv_i2l (v := (i34).toInt64) hx hb dL_told_47 rfl ?_
    refine lv_ladd hx hb dL_told_48 ?_
    refine lv_topl (fun j37 ej37 => ?_)
    have h := h j37 ej37
    refine lv_lstore_n (lv' := [(1, .long j37), (3, .int i1), (0, .ref v0)]) hx hb dL_told_49 rfl hl (by decide) rfl (fun ls hl => ?_)
    obtain ⟨i38, ei38⟩ : ∃ y : Int32, y = i1 + (nI 1) := ⟨_, rfl⟩
    have h := h i38 ei38
    refine lv_iinc (v := i38) (lv' := [(3, .int i38), (1, .long j37), (0, .ref v0)]) hx hb dL_told_50 hl (k := 1) rfl (by rw [ei38]; rfl) (by decide) rfl (fun ls hl => ?_)
    refine lv_goto (tgt := 6) hx hb dL_told_53 (by decide) ?_
    exact ih6 (i38, j37) _ h (lv_sub hl [0, 1, 2] rfl)
theorem hdS_L_writes : yL_writes.cls ≠ "java/lang/invoke/MethodHandle" ∧ yL_writes.cls ≠ "java/lang/invoke/VarHandle" ∧ (parseMethodDescriptor yL_writes.desc).map (fun d => d.parameters.length) = some 5 := by decide +kernel
set_option maxHeartbeats 4000000 in
set_option maxRecDepth 100000 in
theorem c_L_writes (l : Launch) (D : va_G) (Y : Nat → ClassId) (L : List Nat) (S : PS) (sz : Nat) (v0 : Nat) (v1 : Int32) (v2 : Int32) (v3 : Int32) (v4 : Nat) (Post : Int32 → PS → Prop) (h : wp_L_writes S v0 v1 v2 v3 v4 Post) : Met l yL_writes wsL_writes ({ frames := 5, cells := 15, slots := 175, locals := 107 }) (va_Pc [.ref v0, .int v1, .int v2, .int v3, .ref v4] (PrO D Y L S sz)) (va_Qi Post (QtO D Y (fR L sz)) (fR L sz)) 15 175 (fR L sz) := by
  refine Met.ofW (cc := cL_writes) (maxL := 11) (ret := (some .int)) (by decide) rfl ?_
  intro p e s m args below meth c s₁ B hml hv
  obtain ⟨rfl, hsz, hJ, hP, hK, hD0, hZ⟩ := hv
  have hx := B.exec
  have hb := B.bytes
  have hr := B.returns
  have hts := atoms_spec (ws := wsL_writes) B.pre
  have hown : s.vm.findClass RL = some m.cls := findClass_of_methodNamed B.named
  have hlocks := B.notSynchronized
  have CF : CallFix p m c cL_writes 11 s ([.ref v0, .int v1, .int v2, .int v3, .ref v4] : List Value).toArray wsL_writes RL := ⟨hx, hb, hml, hown, hts⟩
  have C : CX p m c cL_writes 11 s ([.ref v0, .int v1, .int v2, .int v3, .ref v4] : List Value).toArray wsL_writes RL D Y := ⟨CF, hK, hZ⟩
  have hO : HO D Y (fR L sz) s.heap S s.heap [] := HO.entry hsz hJ hP hD0
  subst hsz
  have hl := lv_entry ([.ref v0, .int v1, .int v2, .int v3, .ref v4]) (n := 11) (Nat.le_of_ble_eq_true rfl)
  rw [lg_entry_eq]
  generalize (lg_sl ([.ref v0, .int v1, .int v2, .int v3, .ref v4]) ++ List.replicate (11 - (lg_sl ([.ref v0, .int v1, .int v2, .int v3, .ref v4])).length) Slot.unset).toArray = ls at hl ⊢
  have hl : lv_has ls 11 [(0, .ref v0), (1, .int v1), (2, .int v2), (3, .int v3), (4, .ref v4)] := hl
  unfold wp_L_writes at h
  refine lv_iconst (v := (nI 0)) hx hb dL_writes_0 (by decide) ?_
  refine lv_istore (lv' := [(5, .int (nI 0)), (0, .ref v0), (1, .int v1), (2, .int v2), (3, .int v3), (4, .ref v4)]) hx hb dL_writes_1 hl (by decide) rfl (fun ls hl => ?_)
  refine lv_iload_n hx hb dL_writes_3 rfl (lv_at hl 3 rfl) ?_
  refine lv_istore (lv' := [(6, .int v2), (5, .int (nI 0)), (0, .ref v0), (1, .int v1), (2, .int v2), (3, .int v3), (4, .ref v4)]) hx hb dL_writes_4 hl (by decide) rfl (fun ls hl => ?_)
  refine lv_aload_n hx hb dL_writes_6 rfl (lv_at hl 2 rfl) ?_
  obtain ⟨fs4, e3, h⟩ := h
  refine cV_wi (As := []) (rest := []) (n := 0) C hO (fun L => c_X7_wipe l D Y L S s.heap.size v0 _ h) 5 rfl e3 (cwV 0 hts gL_writes_X7_wipe rfl rfl rfl ⟨rfl, hdS_X7_wipe⟩ ⟨Nat.le_of_ble_eq_true rfl, Nat.le_of_ble_eq_true rfl⟩) rfl hl.1 rfl (Nat.le_of_ble_eq_true rfl) dL_writes_7 ⟨(Nat.le_of_ble_eq_true rfl), (Nat.le_of_ble_eq_true rfl)⟩ (fun i1 S2 H locs h hO => ?_)
  refine lv_pop hx hb dL_writes_10 rfl ?_
  refine lv_iconst (v := (nI 0)) hx hb dL_writes_11 (by decide) ?_
  refine lv_istore (lv' := [(7, .int (nI 0)), (6, .int v2), (5, .int (nI 0)), (0, .ref v0), (1, .int v1), (2, .int v2), (3, .int v3), (4, .ref v4)]) hx hb dL_writes_12 hl (by decide) rfl (fun ls hl => ?_)
  obtain ⟨n60, h⟩ := h
  refine lp_W (nL := 11) (fun q => [(7, .int q.1), (6, .int q.2.1), (5, .int q.2.2.1), (0, .ref v0), (1, .int v1), (3, .int v3), (4, .ref v4)]) (fun q => q.2.2.2) h (lv_sub hl [0, 1, 2, 3, 4, 6, 7] rfl) hO (fun K14 ih14 q ls H locs h hl hO => ?_)
  obtain ⟨i5, i6, i7, S8⟩ := q
  have h : wpb_L_writes_14 v0 v1 v3 v4 Post K14 i5 i6 i7 S8 := h
  have hl : lv_has ls 11 [(7, .int i5), (6, .int i6), (5, .int i7), (0, .ref v0), (1, .int v1), (3, .int v3), (4, .ref v4)] := hl
  have hO : HO D Y (fR L s.heap.size) s.heap S8 H locs := hO
  unfold wpb_L_writes_14 at h
  refine lv_iload hx hb dL_writes_14 (lv_at hl 0 rfl) ?_
  refine lv_iconst (v := (nI 1)) hx hb dL_writes_16 (by decide) ?_
  refine lv_iload_n hx hb dL_writes_17 rfl (lv_at hl 5 rfl) ?_
  refine lv_bipush (v := (nI 7)) hx hb dL_writes_18 (by decide) ?_
  refine cS_si (As := [.int v3, .int (nI 7)]) (rest := [.int (nI 1), .int i5]) (n := 2) CF hZ (c_L_low l v3 (nI 7) _ h) (va_cwS 2 hts gL_writes_L_low rfl rfl rfl hdS_L_low ⟨Nat.le_of_ble_eq_true rfl, Nat.le_of_ble_eq_true rfl⟩) rfl hl.1 rfl (Nat.le_of_ble_eq_true rfl) dL_writes_20 ⟨(Nat.le_of_ble_eq_true rfl), (Nat.le_of_ble_eq_true rfl)⟩ (fun i9 h => ?_)
  refine lv_iadd hx hb dL_writes_23 ?_
  refine lv_icmp_ge (tgt := 183) hx hb dL_writes_24 (by decide) (fun c10 => ?_) (fun c10 => ?_)
  · have h := h.1 c10
    refine lv_aload_n hx hb dL_writes_183 rfl (lv_at hl 3 rfl) ?_
    refine lv_iload_n hx hb dL_writes_184 rfl (lv_at hl 4 rfl) ?_
    obtain ⟨fs14, e13, h⟩ := h
    refine cV_wi (As := [.int v1]) (rest := []) (n := 1) C hO (fun L => c_X7_read l D Y L S8 H.size v0 v1 _ h) 5 rfl e13 (cwV 1 hts gL_writes_X7_read rfl rfl rfl ⟨rfl, hdS_X7_read⟩ ⟨Nat.le_of_ble_eq_true rfl, Nat.le_of_ble_eq_true rfl⟩) rfl hl.1 rfl (Nat.le_of_ble_eq_true rfl) dL_writes_185 ⟨(Nat.le_of_ble_eq_true rfl), (Nat.le_of_ble_eq_true rfl)⟩ (fun i11 S12 H locs h hO => ?_)
    refine lv_istore (lv' := [(7, .int i11), (6, .int i6), (5, .int i7), (0, .ref v0), (1, .int v1), (3, .int v3), (4, .ref v4)]) hx hb dL_writes_188 hl (by decide) rfl (fun ls hl => ?_)
    refine lv_iload hx hb dL_writes_190 (lv_at hl 0 rfl) ?_
    refine lv_iload hx hb dL_writes_192 (lv_at hl 2 rfl) ?_
    refine lv_bipush (v := (nI 24)) hx hb dL_writes_194 (by decide) ?_
    refine lv_icmp_le (tgt := 204) hx hb dL_writes_196 (by decide) (fun c15 => ?_) (fun c15 => ?_)
    · have h := h.1 c15
      refine lv_iload hx hb dL_writes_204 (lv_at hl 2 rfl) ?_
      refine lv_icmp_ne (tgt := 214) hx hb dL_writes_206 (by decide) (fun c16 => ?_) (fun c16 => ?_)
      · have h := h.2 c16
        refine lv_bipush (v := (-99 : Int32)) hx hb dL_writes_214 (by decide) ?_
        exact W.iret hx hb hr (fun t ht hW => ⟨⟨(-99 : Int32), S12, rfl, h, hO.q ht⟩, hO.f ht⟩) hO.lc dL_writes_216
      · have h := h.1 c16
        refine lv_iload hx hb dL_writes_209 (lv_at hl 0 rfl) ?_
        refine lv_goto (tgt := 216) hx hb dL_writes_211 (by decide) ?_
        exact W.iret hx hb hr (fun t ht hW => ⟨⟨i11, S12, rfl, h, hO.q ht⟩, hO.f ht⟩) hO.lc dL_writes_216
    · have h := h.2 c15
      refine lv_bipush (v := (-3 : Int32)) hx hb dL_writes_199 (by decide) ?_
      refine lv_goto (tgt := 206) hx hb dL_writes_201 (by decide) ?_
      refine lv_icmp_ne (tgt := 214) hx hb dL_writes_206 (by decide) (fun c17 => ?_) (fun c17 => ?_)
      · have h := h.2 c17
        refine lv_bipush (v := (-99 : Int32)) hx hb dL_writes_214 (by decide) ?_
        exact W.iret hx hb hr (fun t ht hW => ⟨⟨(-99 : Int32), S12, rfl, h, hO.q ht⟩, hO.f ht⟩) hO.lc dL_writes_216
      · have h := h.1 c17
        refine lv_iload hx hb dL_writes_209 (lv_at hl 0 rfl) ?_
        refine lv_goto (tgt := 216) hx hb dL_writes_211 (by decide) ?_
        exact W.iret hx hb hr (fun t ht hW => ⟨⟨i11, S12, rfl, h, hO.q ht⟩, hO.f ht⟩) hO.lc dL_writes_216
  · have h := h.2 c10
    refine lv_iload hx hb dL_writes_27 (lv_at hl 1 rfl) ?_
    refine lv_bipush (v := (nI 12)) hx hb dL_writes_29 (by decide) ?_
    refine cS_si (As := [.int i6, .int (nI 12)]) (rest := []) (n := 2) CF hZ (c_L_low l i6 (nI 12) _ h) (va_cwS 2 hts gL_writes_L_low rfl rfl rfl hdS_L_low ⟨Nat.le_of_ble_eq_true rfl, Nat.le_of_ble_eq_true rfl⟩) rfl hl.1 rfl (Nat.le_of_ble_eq_true rfl) dL_writes_31 ⟨(Nat.le_of_ble_eq_true rfl), (Nat.le_of_ble_eq_true rfl)⟩ (fun i18 h => ?_)
    refine lv_istore (lv' := [(8, .int i18), (7, .int i5), (6, .int i6), (5, .int i7), (0, .ref v0), (1, .int v1), (3, .int v3), (4, .ref v4)]) hx hb dL_writes_34 hl (by decide) rfl (fun ls hl => ?_)
    refine lv_iload hx hb dL_writes_36 (lv_at hl 2 rfl) ?_
    refine lv_iconst (v := (nI 4)) hx hb dL_writes_38 (by decide) ?_
    refine lv_ishr hx hb dL_writes_39 ?_
    refine lv_iconst (v := (nI 3)) hx hb dL_writes_40 (by decide) ?_
    refine cS_si (As := [.int (i6 >>> ((nI 4) &&& 31)), .int (nI 3)]) (rest := []) (n := 2) CF hZ (c_L_low l ((i6 >>> ((nI 4) &&& 31))) (nI 3) _ h) (va_cwS 2 hts gL_writes_L_low rfl rfl rfl hdS_L_low ⟨Nat.le_of_ble_eq_true rfl, Nat.le_of_ble_eq_true rfl⟩) rfl hl.1 rfl (Nat.le_of_ble_eq_true rfl) dL_writes_41 ⟨(Nat.le_of_ble_eq_true rfl), (Nat.le_of_ble_eq_true rfl)⟩ (fun i19 h => ?_)
    refine cut_P (nL := 11) (fun (q : Int32) => wpk_L_writes_82 v0 v4 i5 i6 i7 S8 i18 K14 q) (fun q => [(8, .int i18), (7, .int i5), (6, .int i6), (5, .int i7), (0, .ref v0), (1, .int v1), (3, .int v3), (4, .ref v4), (9, .int q)]) 82 ?_ (fun kc82 => ?_)
    · intro q ls h hl
      obtain ⟨i20, rfl⟩ : ∃ z, z = q := ⟨q, rfl⟩
      have h : wpk_L_writes_82 v0 v4 i5 i6 i7 S8 i18 K14 i20 := h
      have hl : lv_has ls 11 [(8, .int i18), (7, .int i5), (6, .int i6), (5, .int i7), (0, .ref v0), (1, .int v1), (3, .int v3), (4, .ref v4), (9, .int i20)] := hl
      unfold wpk_L_writes_82 at h
      refine lv_aload_n hx hb dL_writes_82 rfl (lv_at hl 4 rfl) ?_
      refine lv_iload hx hb dL_writes_83 (lv_at hl 0 rfl) ?_
      refine lv_bipush (v := (nI 6)) hx hb dL_writes_85 (by decide) ?_
      refine cut_W D Y (fR L s.heap.size) s.heap (nL := 11) (fun (q : PS) => wpk_L_writes_112 v0 v4 i5 i6 i7 i18 i20 K14 q) (fun q => [(8, .int i18), (7, .int i5), (6, .int i6), (5, .int i7), (0, .ref v0), (1, .int v1), (3, .int v3), (4, .ref v4), (9, .int i20)]) (fun q => q) 112 ?_ (fun kc112 => ?_)
      · intro q ls H locs h hl hO
        obtain ⟨S21, rfl⟩ : ∃ z, z = q := ⟨q, rfl⟩
        have h : wpk_L_writes_112 v0 v4 i5 i6 i7 i18 i20 K14 S21 := h
        have hl : lv_has ls 11 [(8, .int i18), (7, .int i5), (6, .int i6), (5, .int i7), (0, .ref v0), (1, .int v1), (3, .int v3), (4, .ref v4), (9, .int i20)] := hl
        have hO : HO D Y (fR L s.heap.size) s.heap S21 H locs := hO
        unfold wpk_L_writes_112 at h
        refine lv_iload hx hb dL_writes_112 (lv_at hl 8 rfl) ?_
        refine lv_iconst (v := (nI 1)) hx hb dL_writes_114 (by decide) ?_
        refine cut_W D Y (fR L s.heap.size) s.heap (nL := 11) (fun (q : PS) => wpk_L_writes_129 v4 i5 i6 i7 i18 i20 K14 q) (fun q => [(8, .int i18), (7, .int i5), (6, .int i6), (5, .int i7), (0, .ref v0), (1, .int v1), (3, .int v3), (4, .ref v4), (9, .int i20)]) (fun q => q) 129 ?_ (fun kc129 => ?_)
        · intro q ls H locs h hl hO
          obtain ⟨S22, rfl⟩ : ∃ z, z = q := ⟨q, rfl⟩
          have h : wpk_L_writes_129 v4 i5 i6 i7 i18 i20 K14 S22 := h
          have hl : lv_has ls 11 [(8, .int i18), (7, .int i5), (6, .int i6), (5, .int i7), (0, .ref v0), (1, .int v1), (3, .int v3), (4, .ref v4), (9, .int i20)] := hl
          have hO : HO D Y (fR L s.heap.size) s.heap S22 H locs := hO
          unfold wpk_L_writes_129 at h
          refine lv_iconst (v := (nI 0)) hx hb dL_writes_129 (by decide) ?_
          refine lv_istore (lv' := [(10, .int (nI 0)), (8, .int i18), (7, .int i5), (6, .int i6), (5, .int i7), (0, .ref v0), (1, .int v1), (3, .int v3), (4, .ref v4), (9, .int i20)]) hx hb dL_writes_130 hl (by decide) rfl (fun ls hl => ?_)
          obtain ⟨n38, h⟩ := h
          refine lp_W (nL := 11) (fun q => [(10, .int q.1), (8, .int i18), (7, .int i5), (6, .int i6), (5, .int q.2.1), (0, .ref v0), (1, .int v1), (3, .int v3), (4, .ref v4), (9, .int i20)]) (fun q => q.2.2) h (lv_sub hl [0, 1, 2, 3, 4, 5, 6, 7, 8, 9] rfl) hO (fun K132 ih132 q ls H locs h hl hO => ?_)
          obtain ⟨i23, i24, S25⟩ := q
          have h : wpb_L_writes_132 v4 i5 i6 i18 i20 K14 K132 i23 i24 S25 := h
          have hl : lv_has ls 11 [(10, .int i23), (8, .int i18), (7, .int i5), (6, .int i6), (5, .int i24), (0, .ref v0), (1, .int v1), (3, .int v3), (4, .ref v4), (9, .int i20)] := hl
          have hO : HO D Y (fR L s.heap.size) s.heap S25 H locs := hO
          unfold wpb_L_writes_132 at h
          refine lv_iload hx hb dL_writes_132 (lv_at hl 0 rfl) ?_
          refine lv_iload hx hb dL_writes_134 (lv_at hl 9 rfl) ?_
          refine lv_icmp_ge (tgt := 162) hx hb dL_writes_136 (by decide) (fun c26 => ?_) (fun c26 => ?_)
          · have h := h.1 c26
            refine lv_iload hx hb dL_writes_162 (lv_at hl 3 rfl) ?_
            refine lv_iconst (v := (nI 5)) hx hb dL_writes_164 (by decide) ?_
            refine lv_idiv hx hb dL_writes_165 (by decide) ?_
            refine lv_sipush (v := (nI 1013)) hx hb dL_writes_166 (by decide) ?_
            refine lv_iload hx hb dL_writes_169 (lv_at hl 2 rfl) ?_
            refine lv_iconst (v := (nI 1)) hx hb dL_writes_171 (by decide) ?_
            refine lv_iadd hx hb dL_writes_172 ?_
            refine lv_imul hx hb dL_writes_173 ?_
            refine lv_iadd hx hb dL_writes_174 ?_
            refine lv_topi (fun i27 ei27 => ?_)
            have h := h i27 ei27
            refine lv_istore (lv' := [(6, .int i27), (10, .int i23), (8, .int i18), (7, .int i5), (5, .int i24), (0, .ref v0), (1, .int v1), (3, .int v3), (4, .ref v4), (9, .int i20)]) hx hb dL_writes_175 hl (by decide) rfl (fun ls hl => ?_)
            obtain ⟨i28, ei28⟩ : ∃ y : Int32, y = i5 + (nI 1) := ⟨_, rfl⟩
            have h := h i28 ei28
            refine lv_iinc (v := i28) (lv' := [(7, .int i28), (6, .int i27), (10, .int i23), (8, .int i18), (5, .int i24), (0, .ref v0), (1, .int v1), (3, .int v3), (4, .ref v4), (9, .int i20)]) hx hb dL_writes_177 hl (k := 3) rfl (by rw [ei28]; rfl) (by decide) rfl (fun ls hl => ?_)
            refine lv_goto (tgt := 14) hx hb dL_writes_180 (by decide) ?_
            exact ih14 (i28, i27, i24, S25) _ _ _ h (lv_sub hl [0, 1, 4, 5, 6, 7, 8] rfl) hO
          · have h := h.2 c26
            refine lv_iload hx hb dL_writes_139 (lv_at hl 4 rfl) ?_
            refine lv_bipush (v := (nI 24)) hx hb dL_writes_141 (by decide) ?_
            refine lv_icmp_ge (tgt := 153) hx hb dL_writes_143 (by decide) (fun c29 => ?_) (fun c29 => ?_)
            · have h := h.1 c29
              obtain ⟨i30, ei30⟩ : ∃ y : Int32, y = i24 + (nI 1) := ⟨_, rfl⟩
              have h := h i30 ei30
              refine lv_iinc (v := i30) (lv' := [(5, .int i30), (10, .int i23), (8, .int i18), (7, .int i5), (6, .int i6), (0, .ref v0), (1, .int v1), (3, .int v3), (4, .ref v4), (9, .int i20)]) hx hb dL_writes_153 hl (k := 4) rfl (by rw [ei30]; rfl) (by decide) rfl (fun ls hl => ?_)
              obtain ⟨i31, ei31⟩ : ∃ y : Int32, y = i23 + (nI 1) := ⟨_, rfl⟩
              have h := h i31 ei31
              refine lv_iinc (v := i31) (lv' := [(10, .int i31), (5, .int i30), (8, .int i18), (7, .int i5), (6, .int i6), (0, .ref v0), (1, .int v1), (3, .int v3), (4, .ref v4), (9, .int i20)]) hx hb dL_writes_156 hl (k := 1) rfl (by rw [ei31]; rfl) (by decide) rfl (fun ls hl => ?_)
              refine lv_goto (tgt := 132) hx hb dL_writes_159 (by decide) ?_
              exact ih132 (i31, i30, S25) _ _ _ h (lv_sub hl [0, 2, 3, 4, 1, 5, 6, 7, 8, 9] rfl) hO
            · have h := h.2 c29
              refine lv_aload hx hb dL_writes_146 (lv_at hl 8 rfl) ?_
              refine lv_iload hx hb dL_writes_148 (lv_at hl 4 rfl) ?_
              refine lv_iload hx hb dL_writes_150 (lv_at hl 1 rfl) ?_
              obtain ⟨n32, f33, e34, e34', h⟩ := h
              refine r_iast C hO e34 e34' dL_writes_152 (fun H locs hO => ?_)
              obtain ⟨S35, eS35⟩ : ∃ Sx, Sx = va_up S25 v4 (aI n32 (upd f33 (i24).toNatClampNeg i18)) := ⟨_, rfl⟩
              rw [← eS35] at hO
              have h := h S35 eS35
              obtain ⟨i36, ei36⟩ : ∃ y : Int32, y = i24 + (nI 1) := ⟨_, rfl⟩
              have h := h i36 ei36
              refine lv_iinc (v := i36) (lv' := [(5, .int i36), (10, .int i23), (8, .int i18), (7, .int i5), (6, .int i6), (0, .ref v0), (1, .int v1), (3, .int v3), (4, .ref v4), (9, .int i20)]) hx hb dL_writes_153 hl (k := 4) rfl (by rw [ei36]; rfl) (by decide) rfl (fun ls hl => ?_)
              obtain ⟨i37, ei37⟩ : ∃ y : Int32, y = i23 + (nI 1) := ⟨_, rfl⟩
              have h := h i37 ei37
              refine lv_iinc (v := i37) (lv' := [(10, .int i37), (5, .int i36), (8, .int i18), (7, .int i5), (6, .int i6), (0, .ref v0), (1, .int v1), (3, .int v3), (4, .ref v4), (9, .int i20)]) hx hb dL_writes_156 hl (k := 1) rfl (by rw [ei37]; rfl) (by decide) rfl (fun ls hl => ?_)
              refine lv_goto (tgt := 132) hx hb dL_writes_159 (by decide) ?_
              exact ih132 (i37, i36, S35) _ _ _ h (lv_sub hl [0, 2, 3, 4, 1, 5, 6, 7, 8, 9] rfl) hO
        refine lv_icmp_le (tgt := 129) hx hb dL_writes_115 (by decide) (fun c39 => ?_) (fun c39 => ?_)
        · have h := h.1 c39
          exact kc129 S21 _ _ _ h (lv_sub hl [0, 1, 2, 3, 4, 5, 6, 7, 8] rfl) hO
        · have h := h.2 c39
          refine lv_aload_n hx hb dL_writes_118 rfl (lv_at hl 4 rfl) ?_
          refine lv_bipush (v := (nI 48)) hx hb dL_writes_119 (by decide) ?_
          refine lv_iload hx hb dL_writes_121 (lv_at hl 8 rfl) ?_
          refine lv_iadd hx hb dL_writes_123 ?_
          refine lv_i2l (v := (((nI 48) + i20)).toInt64) hx hb dL_writes_124 rfl ?_
          obtain ⟨fs43, e42, h⟩ := h
          refine cV_wi (As := [.long (((nI 48) + i20)).toInt64]) (rest := []) (n := 1) C hO (fun L => c_X7_write l D Y L S21 H.size v0 ((((nI 48) + i20)).toInt64) _ h) 5 rfl e42 (cwV 1 hts gL_writes_X7_write rfl rfl rfl ⟨rfl, hdS_X7_write⟩ ⟨Nat.le_of_ble_eq_true rfl, Nat.le_of_ble_eq_true rfl⟩) rfl hl.1 rfl (Nat.le_of_ble_eq_true rfl) dL_writes_125 ⟨(Nat.le_of_ble_eq_true rfl), (Nat.le_of_ble_eq_true rfl)⟩ (fun i40 S41 H locs h hO => ?_)
          refine lv_pop hx hb dL_writes_128 rfl ?_
          exact kc129 S41 _ _ _ h (lv_sub hl [0, 1, 2, 3, 4, 5, 6, 7, 8] rfl) hO
      refine lv_icmp_ge (tgt := 99) hx hb dL_writes_87 (by decide) (fun c44 => ?_) (fun c44 => ?_)
      · have h := h.1 c44
        refine lv_bipush (v := (nI 65)) hx hb dL_writes_99 (by decide) ?_
        refine lv_iload hx hb dL_writes_101 (lv_at hl 0 rfl) ?_
        refine lv_iadd hx hb dL_writes_103 ?_
        refine lv_bipush (v := (nI 6)) hx hb dL_writes_104 (by decide) ?_
        refine lv_isub hx hb dL_writes_106 ?_
        refine lv_i2l (v := ((((nI 65) + i18) - (nI 6))).toInt64) hx hb dL_writes_107 rfl ?_
        obtain ⟨fs48, e47, h⟩ := h
        refine cV_wi (As := [.long ((((nI 65) + i18) - (nI 6))).toInt64]) (rest := []) (n := 1) C hO (fun L => c_X7_write l D Y L S8 H.size v0 (((((nI 65) + i18) - (nI 6))).toInt64) _ h) 5 rfl e47 (cwV 1 hts gL_writes_X7_write rfl rfl rfl ⟨rfl, hdS_X7_write⟩ ⟨Nat.le_of_ble_eq_true rfl, Nat.le_of_ble_eq_true rfl⟩) rfl hl.1 rfl (Nat.le_of_ble_eq_true rfl) dL_writes_108 ⟨(Nat.le_of_ble_eq_true rfl), (Nat.le_of_ble_eq_true rfl)⟩ (fun i45 S46 H locs h hO => ?_)
        refine lv_pop hx hb dL_writes_111 rfl ?_
        exact kc112 S46 _ _ _ h (lv_sub hl [0, 1, 2, 3, 4, 5, 6, 7, 8] rfl) hO
      · have h := h.2 c44
        refine lv_bipush (v := (nI 97)) hx hb dL_writes_90 (by decide) ?_
        refine lv_iload hx hb dL_writes_92 (lv_at hl 0 rfl) ?_
        refine lv_iadd hx hb dL_writes_94 ?_
        refine lv_i2l (v := (((nI 97) + i18)).toInt64) hx hb dL_writes_95 rfl ?_
        refine lv_goto (tgt := 108) hx hb dL_writes_96 (by decide) ?_
        obtain ⟨fs52, e51, h⟩ := h
        refine cV_wi (As := [.long (((nI 97) + i18)).toInt64]) (rest := []) (n := 1) C hO (fun L => c_X7_write l D Y L S8 H.size v0 ((((nI 97) + i18)).toInt64) _ h) 5 rfl e51 (cwV 1 hts gL_writes_X7_write rfl rfl rfl ⟨rfl, hdS_X7_write⟩ ⟨Nat.le_of_ble_eq_true rfl, Nat.le_of_ble_eq_true rfl⟩) rfl hl.1 rfl (Nat.le_of_ble_eq_true rfl) dL_writes_108 ⟨(Nat.le_of_ble_eq_true rfl), (Nat.le_of_ble_eq_true rfl)⟩ (fun i49 S50 H locs h hO => ?_)
        refine lv_pop hx hb dL_writes_111 rfl ?_
        exact kc112 S50 _ _ _ h (lv_sub hl [0, 1, 2, 3, 4, 5, 6, 7, 8] rfl) hO
    refine lv_if_le (tgt := 51) hx hb dL_writes_44 (by decide) (fun c53 => ?_) (fun c53 => ?_)
    · have h := h.1 c53
      refine lv_iconst (v := (nI 2)) hx hb dL_writes_51 (by decide) ?_
      refine lv_iload hx hb dL_writes_52 (lv_at hl 2 rfl) ?_
      refine lv_bipush (v := (nI 6)) hx hb dL_writes_54 (by decide) ?_
      refine lv_ishr hx hb dL_writes_56 ?_
      refine lv_iload hx hb dL_writes_57 (lv_at hl 2 rfl) ?_
      refine lv_bipush (v := (nI 9)) hx hb dL_writes_59 (by decide) ?_
      refine lv_ishr hx hb dL_writes_61 ?_
      refine lv_bipush (v := (nI 6)) hx hb dL_writes_62 (by decide) ?_
      refine cS_si (As := [.int (i6 >>> ((nI 9) &&& 31)), .int (nI 6)]) (rest := [.int (i6 >>> ((nI 6) &&& 31)), .int (nI 2)]) (n := 2) CF hZ (c_L_low l ((i6 >>> ((nI 9) &&& 31))) (nI 6) _ h) (va_cwS 2 hts gL_writes_L_low rfl rfl rfl hdS_L_low ⟨Nat.le_of_ble_eq_true rfl, Nat.le_of_ble_eq_true rfl⟩) rfl hl.1 rfl (Nat.le_of_ble_eq_true rfl) dL_writes_64 ⟨(Nat.le_of_ble_eq_true rfl), (Nat.le_of_ble_eq_true rfl)⟩ (fun i54 h => ?_)
      refine lv_if_ne (tgt := 75) hx hb dL_writes_67 (by decide) (fun c55 => ?_) (fun c55 => ?_)
      · have h := h.2 c55
        refine lv_iconst (v := (nI 3)) hx hb dL_writes_75 (by decide) ?_
        refine cS_si (As := [.int (i6 >>> ((nI 6) &&& 31)), .int (nI 3)]) (rest := [.int (nI 2)]) (n := 2) CF hZ (c_L_low l ((i6 >>> ((nI 6) &&& 31))) (nI 3) _ h) (va_cwS 2 hts gL_writes_L_low rfl rfl rfl hdS_L_low ⟨Nat.le_of_ble_eq_true rfl, Nat.le_of_ble_eq_true rfl⟩) rfl hl.1 rfl (Nat.le_of_ble_eq_true rfl) dL_writes_76 ⟨(Nat.le_of_ble_eq_true rfl), (Nat.le_of_ble_eq_true rfl)⟩ (fun i56 h => ?_)
        refine lv_iadd hx hb dL_writes_79 ?_
        refine lv_topi (fun i57 ei57 => ?_)
        have h := h i57 ei57
        refine lv_istore (lv' := [(9, .int i57), (8, .int i18), (7, .int i5), (6, .int i6), (5, .int i7), (0, .ref v0), (1, .int v1), (3, .int v3), (4, .ref v4)]) hx hb dL_writes_80 hl (by decide) rfl (fun ls hl => ?_)
        exact kc82 i57 _ h (lv_sub hl [1, 2, 3, 4, 5, 6, 7, 8, 0] rfl)
      · have h := h.1 c55
        refine lv_bipush (v := (nI 8)) hx hb dL_writes_70 (by decide) ?_
        refine lv_goto (tgt := 76) hx hb dL_writes_72 (by decide) ?_
        refine cS_si (As := [.int (i6 >>> ((nI 6) &&& 31)), .int (nI 8)]) (rest := [.int (nI 2)]) (n := 2) CF hZ (c_L_low l ((i6 >>> ((nI 6) &&& 31))) (nI 8) _ h) (va_cwS 2 hts gL_writes_L_low rfl rfl rfl hdS_L_low ⟨Nat.le_of_ble_eq_true rfl, Nat.le_of_ble_eq_true rfl⟩) rfl hl.1 rfl (Nat.le_of_ble_eq_true rfl) dL_writes_76 ⟨(Nat.le_of_ble_eq_true rfl), (Nat.le_of_ble_eq_true rfl)⟩ (fun i58 h => ?_)
        refine lv_iadd hx hb dL_writes_79 ?_
        refine lv_topi (fun i59 ei59 => ?_)
        have h := h i59 ei59
        refine lv_istore (lv' := [(9, .int i59), (8, .int i18), (7, .int i5), (6, .int i6), (5, .int i7), (0, .ref v0), (1, .int v1), (3, .int v3), (4, .ref v4)]) hx hb dL_writes_80 hl (by decide) rfl (fun ls hl => ?_)
        exact kc82 i59 _ h (lv_sub hl [1, 2, 3, 4, 5, 6, 7, 8, 0] rfl)
    · have h := h.2 c53
      refine lv_iconst (v := (nI 1)) hx hb dL_writes_47 (by decide) ?_
      refine lv_goto (tgt := 80) hx hb dL_writes_48 (by decide) ?_
      refine lv_istore (lv' := [(9, .int (nI 1)), (8, .int i18), (7, .int i5), (6, .int i6), (5, .int i7), (0, .ref v0), (1, .int v1), (3, .int v3), (4, .ref v4)]) hx hb dL_writes_80 hl (by decide) rfl (fun ls hl => ?_)
      exact kc82 (nI 1) _ h (lv_sub hl [1, 2, 3, 4, 5, 6, 7, 8, 0] rfl)
theorem hdS_L_call : yL_call.cls ≠ "java/lang/invoke/MethodHandle" ∧ yL_call.cls ≠ "java/lang/invoke/VarHandle" ∧ (parseMethodDescriptor yL_call.desc).map (fun d => d.parameters.length) = some 6 := by decide +kernel
set_option maxHeartbeats 4000000 in
set_option maxRecDepth 100000 in
theorem c_L_call (l : Launch) (D : va_G) (Y : Nat → ClassId) (L : List Nat) (S : PS) (sz : Nat) (v0 : Nat) (v1 : Int32) (v2 : Int32) (v3 : Int32) (v4 : Int32) (v5 : Nat) (Post : Int32 → PS → Prop) (h : wp_L_call S v0 v1 v2 v3 v4 v5 Post) : Met l yL_call wsL_call ({ frames := 6, cells := 15, slots := 175, locals := 140 }) (va_Pc [.ref v0, .int v1, .int v2, .int v3, .int v4, .ref v5] (PrO D Y L S sz)) (va_Qi Post (QtO D Y (fR L sz)) (fR L sz)) 15 175 (fR L sz) := by
  refine Met.ofW (cc := cL_call) (maxL := 6) (ret := (some .int)) (by decide) rfl ?_
  intro p e s m args below meth c s₁ B hml hv
  obtain ⟨rfl, hsz, hJ, hP, hK, hD0, hZ⟩ := hv
  have hx := B.exec
  have hb := B.bytes
  have hr := B.returns
  have hts := atoms_spec (ws := wsL_call) B.pre
  have hown : s.vm.findClass RL = some m.cls := findClass_of_methodNamed B.named
  have hlocks := B.notSynchronized
  have CF : CallFix p m c cL_call 6 s ([.ref v0, .int v1, .int v2, .int v3, .int v4, .ref v5] : List Value).toArray wsL_call RL := ⟨hx, hb, hml, hown, hts⟩
  have C : CX p m c cL_call 6 s ([.ref v0, .int v1, .int v2, .int v3, .int v4, .ref v5] : List Value).toArray wsL_call RL D Y := ⟨CF, hK, hZ⟩
  have hO : HO D Y (fR L sz) s.heap S s.heap [] := HO.entry hsz hJ hP hD0
  subst hsz
  have hl := lv_entry ([.ref v0, .int v1, .int v2, .int v3, .int v4, .ref v5]) (n := 6) (Nat.le_of_ble_eq_true rfl)
  rw [lg_entry_eq]
  generalize (lg_sl ([.ref v0, .int v1, .int v2, .int v3, .int v4, .ref v5]) ++ List.replicate (6 - (lg_sl ([.ref v0, .int v1, .int v2, .int v3, .int v4, .ref v5])).length) Slot.unset).toArray = ls at hl ⊢
  have hl : lv_has ls 6 [(0, .ref v0), (1, .int v1), (2, .int v2), (3, .int v3), (4, .int v4), (5, .ref v5)] := hl
  unfold wp_L_call at h
  refine lv_iload_n hx hb dL_call_0 rfl (lv_at hl 1 rfl) ?_
  rcases sw_6 v1 with c1 | c1 | c1 | c1 | c1 | c1 | c1 | c1
  · have h := h.1 c1
    refine lv_tableOut (tgt := 101) hx hb dL_call_1 c1 (by decide) ?_
    refine lv_aload_n hx hb dL_call_101 rfl (lv_at hl 0 rfl) ?_
    refine lv_iload_n hx hb dL_call_102 rfl (lv_at hl 2 rfl) ?_
    refine lv_iload_n hx hb dL_call_103 rfl (lv_at hl 3 rfl) ?_
    obtain ⟨fs5, e4, h⟩ := h
    refine cV_wi (As := [.int v2, .int v3]) (rest := []) (n := 2) C hO (fun L => c_X7_dye l D Y L S s.heap.size v0 v2 v3 _ h) 5 rfl e4 (cwV 2 hts gL_call_X7_dye rfl rfl rfl ⟨rfl, hdS_X7_dye⟩ ⟨Nat.le_of_ble_eq_true rfl, Nat.le_of_ble_eq_true rfl⟩) rfl hl.1 rfl (Nat.le_of_ble_eq_true rfl) dL_call_104 ⟨(Nat.le_of_ble_eq_true rfl), (Nat.le_of_ble_eq_true rfl)⟩ (fun i2 S3 H locs h hO => ?_)
    exact W.iret hx hb hr (fun t ht hW => ⟨⟨i2, S3, rfl, h, hO.q ht⟩, hO.f ht⟩) hO.lc dL_call_107
  · have h := h.2.1 c1
    refine lv_tableIn (tgt := 44) (off := 43) hx hb dL_call_1 (by rw [c1]; decide) (by rw [c1]; decide) (by rw [c1]; rfl) (by decide) ?_
    refine lv_aload_n hx hb dL_call_44 rfl (lv_at hl 0 rfl) ?_
    refine lv_iload_n hx hb dL_call_45 rfl (lv_at hl 2 rfl) ?_
    refine lv_iload_n hx hb dL_call_46 rfl (lv_at hl 3 rfl) ?_
    obtain ⟨fs9, e8, h⟩ := h
    refine cV_wi (As := [.int v2, .int v3]) (rest := []) (n := 2) C hO (fun L => c_X7_put l D Y L S s.heap.size v0 v2 v3 _ h) 5 rfl e8 (cwV 2 hts gL_call_X7_put rfl rfl rfl ⟨rfl, hdS_X7_put⟩ ⟨Nat.le_of_ble_eq_true rfl, Nat.le_of_ble_eq_true rfl⟩) rfl hl.1 rfl (Nat.le_of_ble_eq_true rfl) dL_call_47 ⟨(Nat.le_of_ble_eq_true rfl), (Nat.le_of_ble_eq_true rfl)⟩ (fun i6 S7 H locs h hO => ?_)
    exact W.iret hx hb hr (fun t ht hW => ⟨⟨i6, S7, rfl, h, hO.q ht⟩, hO.f ht⟩) hO.lc dL_call_50
  · have h := h.2.2.1 c1
    refine lv_tableIn (tgt := 51) (off := 50) hx hb dL_call_1 (by rw [c1]; decide) (by rw [c1]; decide) (by rw [c1]; rfl) (by decide) ?_
    refine lv_aload_n hx hb dL_call_51 rfl (lv_at hl 0 rfl) ?_
    refine lv_iload_n hx hb dL_call_52 rfl (lv_at hl 2 rfl) ?_
    refine lv_iload_n hx hb dL_call_53 rfl (lv_at hl 3 rfl) ?_
    obtain ⟨fs13, e12, h⟩ := h
    refine cV_wi (As := [.int v2, .int v3]) (rest := []) (n := 2) C hO (fun L => c_X7_tie l D Y L S s.heap.size v0 v2 v3 _ h) 5 rfl e12 (cwV 2 hts gL_call_X7_tie rfl rfl rfl ⟨rfl, hdS_X7_tie⟩ ⟨Nat.le_of_ble_eq_true rfl, Nat.le_of_ble_eq_true rfl⟩) rfl hl.1 rfl (Nat.le_of_ble_eq_true rfl) dL_call_54 ⟨(Nat.le_of_ble_eq_true rfl), (Nat.le_of_ble_eq_true rfl)⟩ (fun i10 S11 H locs h hO => ?_)
    exact W.iret hx hb hr (fun t ht hW => ⟨⟨i10, S11, rfl, h, hO.q ht⟩, hO.f ht⟩) hO.lc dL_call_57
  · have h := h.2.2.2.1 c1
    refine lv_tableIn (tgt := 58) (off := 57) hx hb dL_call_1 (by rw [c1]; decide) (by rw [c1]; decide) (by rw [c1]; rfl) (by decide) ?_
    refine lv_aload_n hx hb dL_call_58 rfl (lv_at hl 0 rfl) ?_
    refine lv_iload_n hx hb dL_call_59 rfl (lv_at hl 2 rfl) ?_
    refine lv_iload_n hx hb dL_call_60 rfl (lv_at hl 3 rfl) ?_
    refine lv_iload hx hb dL_call_61 (lv_at hl 4 rfl) ?_
    refine lv_aload hx hb dL_call_63 (lv_at hl 5 rfl) ?_
    refine cS_wi (As := [.ref v0, .int v2, .int v3, .int v4, .ref v5]) (rest := []) (n := 5) C hO (fun L => c_L_writes l D Y L S s.heap.size v0 v2 v3 v4 v5 _ h) (va_cwS 5 hts gL_call_L_writes rfl rfl rfl hdS_L_writes ⟨Nat.le_of_ble_eq_true rfl, Nat.le_of_ble_eq_true rfl⟩) rfl hl.1 rfl (Nat.le_of_ble_eq_true rfl) dL_call_65 ⟨(Nat.le_of_ble_eq_true rfl), (Nat.le_of_ble_eq_true rfl)⟩ (fun i14 S15 H locs h hO => ?_)
    exact W.iret hx hb hr (fun t ht hW => ⟨⟨i14, S15, rfl, h, hO.q ht⟩, hO.f ht⟩) hO.lc dL_call_68
  · have h := h.2.2.2.2.1 c1
    refine lv_tableIn (tgt := 69) (off := 68) hx hb dL_call_1 (by rw [c1]; decide) (by rw [c1]; decide) (by rw [c1]; rfl) (by decide) ?_
    refine lv_aload_n hx hb dL_call_69 rfl (lv_at hl 0 rfl) ?_
    refine lv_iload_n hx hb dL_call_70 rfl (lv_at hl 2 rfl) ?_
    refine lv_iload_n hx hb dL_call_71 rfl (lv_at hl 3 rfl) ?_
    refine lv_iload hx hb dL_call_72 (lv_at hl 4 rfl) ?_
    obtain ⟨fs19, e18, h⟩ := h
    refine cV_wi (As := [.int v2, .int v3, .int v4]) (rest := []) (n := 3) C hO (fun L => c_X7_compose l D Y L S s.heap.size v0 v2 v3 v4 _ h) 5 rfl e18 (cwV 3 hts gL_call_X7_compose rfl rfl rfl ⟨rfl, hdS_X7_compose⟩ ⟨Nat.le_of_ble_eq_true rfl, Nat.le_of_ble_eq_true rfl⟩) rfl hl.1 rfl (Nat.le_of_ble_eq_true rfl) dL_call_74 ⟨(Nat.le_of_ble_eq_true rfl), (Nat.le_of_ble_eq_true rfl)⟩ (fun i16 S17 H locs h hO => ?_)
    exact W.iret hx hb hr (fun t ht hW => ⟨⟨i16, S17, rfl, h, hO.q ht⟩, hO.f ht⟩) hO.lc dL_call_77
  · have h := h.2.2.2.2.2.1 c1
    refine lv_tableIn (tgt := 78) (off := 77) hx hb dL_call_1 (by rw [c1]; decide) (by rw [c1]; decide) (by rw [c1]; rfl) (by decide) ?_
    refine lv_aload_n hx hb dL_call_78 rfl (lv_at hl 0 rfl) ?_
    refine lv_iload_n hx hb dL_call_79 rfl (lv_at hl 2 rfl) ?_
    refine lv_iload_n hx hb dL_call_80 rfl (lv_at hl 3 rfl) ?_
    obtain ⟨fs23, e22, h⟩ := h
    refine cV_wi (As := [.int v2, .int v3]) (rest := []) (n := 2) C hO (fun L => c_X7_turnRound l D Y L S s.heap.size v0 v2 v3 _ h) 5 rfl e22 (cwV 2 hts gL_call_X7_turnRound rfl rfl rfl ⟨rfl, hdS_X7_turnRound⟩ ⟨Nat.le_of_ble_eq_true rfl, Nat.le_of_ble_eq_true rfl⟩) rfl hl.1 rfl (Nat.le_of_ble_eq_true rfl) dL_call_81 ⟨(Nat.le_of_ble_eq_true rfl), (Nat.le_of_ble_eq_true rfl)⟩ (fun i20 S21 H locs h hO => ?_)
    exact W.iret hx hb hr (fun t ht hW => ⟨⟨i20, S21, rfl, h, hO.q ht⟩, hO.f ht⟩) hO.lc dL_call_84
  · have h := h.2.2.2.2.2.2.1 c1
    refine lv_tableIn (tgt := 85) (off := 84) hx hb dL_call_1 (by rw [c1]; decide) (by rw [c1]; decide) (by rw [c1]; rfl) (by decide) ?_
    refine lv_aload_n hx hb dL_call_85 rfl (lv_at hl 0 rfl) ?_
    refine lv_iload_n hx hb dL_call_86 rfl (lv_at hl 2 rfl) ?_
    refine lv_iload_n hx hb dL_call_87 rfl (lv_at hl 3 rfl) ?_
    refine lv_iload hx hb dL_call_88 (lv_at hl 4 rfl) ?_
    obtain ⟨fs27, e26, h⟩ := h
    refine cV_wi (As := [.int v2, .int v3, .int v4]) (rest := []) (n := 3) C hO (fun L => c_X7_repeat l D Y L S s.heap.size v0 v2 v3 v4 _ h) 5 rfl e26 (cwV 3 hts gL_call_X7_repeat rfl rfl rfl ⟨rfl, hdS_X7_repeat⟩ ⟨Nat.le_of_ble_eq_true rfl, Nat.le_of_ble_eq_true rfl⟩) rfl hl.1 rfl (Nat.le_of_ble_eq_true rfl) dL_call_90 ⟨(Nat.le_of_ble_eq_true rfl), (Nat.le_of_ble_eq_true rfl)⟩ (fun i24 S25 H locs h hO => ?_)
    exact W.iret hx hb hr (fun t ht hW => ⟨⟨i24, S25, rfl, h, hO.q ht⟩, hO.f ht⟩) hO.lc dL_call_93
  · have h := h.2.2.2.2.2.2.2 c1
    refine lv_tableIn (tgt := 94) (off := 93) hx hb dL_call_1 (by rw [c1]; decide) (by rw [c1]; decide) (by rw [c1]; rfl) (by decide) ?_
    refine lv_aload_n hx hb dL_call_94 rfl (lv_at hl 0 rfl) ?_
    refine lv_iload_n hx hb dL_call_95 rfl (lv_at hl 2 rfl) ?_
    refine lv_iload_n hx hb dL_call_96 rfl (lv_at hl 3 rfl) ?_
    obtain ⟨fs31, e30, h⟩ := h
    refine cV_wi (As := [.int v2, .int v3]) (rest := []) (n := 2) C hO (fun L => c_X7_weave l D Y L S s.heap.size v0 v2 v3 _ h) 5 rfl e30 (cwV 2 hts gL_call_X7_weave rfl rfl rfl ⟨rfl, hdS_X7_weave⟩ ⟨Nat.le_of_ble_eq_true rfl, Nat.le_of_ble_eq_true rfl⟩) rfl hl.1 rfl (Nat.le_of_ble_eq_true rfl) dL_call_97 ⟨(Nat.le_of_ble_eq_true rfl), (Nat.le_of_ble_eq_true rfl)⟩ (fun i28 S29 H locs h hO => ?_)
    exact W.iret hx hb hr (fun t ht hW => ⟨⟨i28, S29, rfl, h, hO.q ht⟩, hO.f ht⟩) hO.lc dL_call_100
theorem hdS_L_puts : yL_puts.cls ≠ "java/lang/invoke/MethodHandle" ∧ yL_puts.cls ≠ "java/lang/invoke/VarHandle" ∧ (parseMethodDescriptor yL_puts.desc).map (fun d => d.parameters.length) = some 5 := by decide +kernel
set_option maxHeartbeats 4000000 in
set_option maxRecDepth 100000 in
theorem c_L_puts (l : Launch) (D : va_G) (Y : Nat → ClassId) (L : List Nat) (S : PS) (sz : Nat) (v0 : Int32) (v1 : Int32) (v2 : Nat) (v3 : Nat) (v4 : Nat) (Post : Int32 → PS → Prop) (h : wp_L_puts S v0 v1 v2 v3 v4 Post) : Met l yL_puts wsL_puts ({ frames := 1, cells := 0, slots := 0, locals := 22 }) (va_Pc [.int v0, .int v1, .ref v2, .ref v3, .ref v4] (PrO D Y L S sz)) (va_Qi Post (QtO D Y (fR L sz)) (fR L sz)) 0 0 (fR L sz) := by
  refine Met.ofW (cc := cL_puts) (maxL := 6) (ret := (some .int)) (by decide) rfl ?_
  intro p e s m args below meth c s₁ B hml hv
  obtain ⟨rfl, hsz, hJ, hP, hK, hD0, hZ⟩ := hv
  have hx := B.exec
  have hb := B.bytes
  have hr := B.returns
  have hts := atoms_spec (ws := wsL_puts) B.pre
  have hown : s.vm.findClass RL = some m.cls := findClass_of_methodNamed B.named
  have hlocks := B.notSynchronized
  have CF : CallFix p m c cL_puts 6 s ([.int v0, .int v1, .ref v2, .ref v3, .ref v4] : List Value).toArray wsL_puts RL := ⟨hx, hb, hml, hown, hts⟩
  have C : CX p m c cL_puts 6 s ([.int v0, .int v1, .ref v2, .ref v3, .ref v4] : List Value).toArray wsL_puts RL D Y := ⟨CF, hK, hZ⟩
  have hO : HO D Y (fR L sz) s.heap S s.heap [] := HO.entry hsz hJ hP hD0
  subst hsz
  have hl := lv_entry ([.int v0, .int v1, .ref v2, .ref v3, .ref v4]) (n := 6) (Nat.le_of_ble_eq_true rfl)
  rw [lg_entry_eq]
  generalize (lg_sl ([.int v0, .int v1, .ref v2, .ref v3, .ref v4]) ++ List.replicate (6 - (lg_sl ([.int v0, .int v1, .ref v2, .ref v3, .ref v4])).length) Slot.unset).toArray = ls at hl ⊢
  have hl : lv_has ls 6 [(0, .int v0), (1, .int v1), (2, .ref v2), (3, .ref v3), (4, .ref v4)] := hl
  unfold wp_L_puts at h
  refine lv_iconst (v := (nI 0)) hx hb dL_puts_0 (by decide) ?_
  refine lv_istore (lv' := [(5, .int (nI 0)), (0, .int v0), (1, .int v1), (2, .ref v2), (3, .ref v3), (4, .ref v4)]) hx hb dL_puts_1 hl (by decide) rfl (fun ls hl => ?_)
  obtain ⟨n18, h⟩ := h
  refine lp_W (nL := 6) (fun q => [(5, .int q.1), (0, .int v0), (1, .int v1), (2, .ref v2), (3, .ref v3), (4, .ref v4)]) (fun q => q.2) h (lv_sub hl [0, 1, 2, 3, 4, 5] rfl) hO (fun K3 ih3 q ls H locs h hl hO => ?_)
  obtain ⟨i1, S2⟩ := q
  have h : wpb_L_puts_3 v0 v1 v2 v3 v4 Post K3 i1 S2 := h
  have hl : lv_has ls 6 [(5, .int i1), (0, .int v0), (1, .int v1), (2, .ref v2), (3, .ref v3), (4, .ref v4)] := hl
  have hO : HO D Y (fR L s.heap.size) s.heap S2 H locs := hO
  unfold wpb_L_puts_3 at h
  refine lv_iload hx hb dL_puts_3 (lv_at hl 0 rfl) ?_
  refine lv_aload_n hx hb dL_puts_5 rfl (lv_at hl 3 rfl) ?_
  refine lv_iload_n hx hb dL_puts_6 rfl (lv_at hl 1 rfl) ?_
  obtain ⟨n3, f4, i6, e5, e5', exi6, h⟩ := h
  refine r_iald C hO e5 e5' dL_puts_7 ?_
  rw [exi6]
  refine lv_icmp_ge (tgt := 31) hx hb dL_puts_8 (by decide) (fun c7 => ?_) (fun c7 => ?_)
  · have h := h.1 c7
    refine lv_iload_n hx hb dL_puts_31 rfl (lv_at hl 2 rfl) ?_
    refine lv_aload_n hx hb dL_puts_32 rfl (lv_at hl 3 rfl) ?_
    refine lv_iload_n hx hb dL_puts_33 rfl (lv_at hl 1 rfl) ?_
    obtain ⟨n8, f9, i11, e10, e10', exi11, h⟩ := h
    refine r_iald C hO e10 e10' dL_puts_34 ?_
    rw [exi11]
    refine lv_iadd hx hb dL_puts_35 ?_
    exact W.iret hx hb hr (fun t ht hW => ⟨⟨(v1 + i11), S2, rfl, h, hO.q ht⟩, hO.f ht⟩) hO.lc dL_puts_36
  · have h := h.2 c7
    refine lv_aload hx hb dL_puts_11 (lv_at hl 5 rfl) ?_
    refine lv_iload_n hx hb dL_puts_13 rfl (lv_at hl 2 rfl) ?_
    refine lv_iload hx hb dL_puts_14 (lv_at hl 0 rfl) ?_
    refine lv_iadd hx hb dL_puts_16 ?_
    refine lv_iload_n hx hb dL_puts_17 rfl (lv_at hl 1 rfl) ?_
    refine lv_iload hx hb dL_puts_18 (lv_at hl 0 rfl) ?_
    refine lv_aload_n hx hb dL_puts_20 rfl (lv_at hl 4 rfl) ?_
    refine cS_ri (As := [.int v0, .int i1, .ref v3]) (rest := [.int (v1 + i1), .ref v4]) (n := 3) C hO (fun L => c_L_pressAt l D Y L S2 H.size v0 i1 v3 _ h) (va_cwS 3 hts gL_puts_L_pressAt rfl rfl rfl hdS_L_pressAt ⟨Nat.le_of_ble_eq_true rfl, Nat.le_of_ble_eq_true rfl⟩) rfl hl.1 rfl (Nat.le_of_ble_eq_true rfl) dL_puts_21 ⟨(Nat.le_of_ble_eq_true rfl), (Nat.le_of_ble_eq_true rfl)⟩ (fun i12 h => ?_)
    obtain ⟨n13, f14, e15, e15', h⟩ := h
    refine r_iast C hO e15 e15' dL_puts_24 (fun H locs hO => ?_)
    obtain ⟨S16, eS16⟩ : ∃ Sx, Sx = va_up S2 v4 (aI n13 (upd f14 ((v1 + i1)).toNatClampNeg i12)) := ⟨_, rfl⟩
    rw [← eS16] at hO
    have h := h S16 eS16
    obtain ⟨i17, ei17⟩ : ∃ y : Int32, y = i1 + (nI 1) := ⟨_, rfl⟩
    have h := h i17 ei17
    refine lv_iinc (v := i17) (lv' := [(5, .int i17), (0, .int v0), (1, .int v1), (2, .ref v2), (3, .ref v3), (4, .ref v4)]) hx hb dL_puts_25 hl (k := 0) rfl (by rw [ei17]; rfl) (by decide) rfl (fun ls hl => ?_)
    refine lv_goto (tgt := 3) hx hb dL_puts_28 (by decide) ?_
    exact ih3 (i17, S16) _ _ _ h (lv_sub hl [0, 1, 2, 3, 4, 5] rfl) hO
