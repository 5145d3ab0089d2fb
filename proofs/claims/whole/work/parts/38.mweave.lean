/-! ===== the reference: weaving ===== -/
section MW
variable {S0 S S' : PS} {tg : Nat → Nat × Nat} {m : Nat} {bd : Nat → Nat} {A A' : Nat → Nat → Int32} {I I' : Nat → Int32} {v : LM} {hist : List LM} {sl : Nat → Option LM} {pad : List Nat} {P : PS → Prop} {Q : Int32 → Prop}
theorem wp_take (h : MdS S0 S tg m bd A I) (hA : ∀ k, k < 194 → A 0 k = stn v k) (hP : ∀ S' F, MdS S0 S' tg m bd (va_up A 7 F) I → (∀ p, p < 12 → F p = nI (thF v p)) → P S') : wp_X8_takeThreads S m P := by
  unfold wp_X8_takeThreads
  refine wpL_for 12 (fun k S1 => ∃ F, MdS S0 S1 tg m bd (va_up A 7 F) I ∧ ∀ p, p < k → F p = nI (thF v p)) ⟨A 7, by rw [va1]; exact h, fun p hp => absurd hp (Nat.not_lt_zero _)⟩ ?_ ?_
  · intro S1 hS K
    obtain ⟨F, h1, h2⟩ := hS
    show wpb_X8_takeThreads_2 _ _ _ (nI 12) S1
    unfold wpb_X8_takeThreads_2
    exact br_t (nle_re 12) (hP S1 F h1 h2)
  · intro k S1 hk hS K hK
    obtain ⟨F, h1, h2⟩ := hS
    show wpb_X8_takeThreads_2 _ _ _ (nI k) S1
    unfold wpb_X8_takeThreads_2
    refine br_f (nle_ge hk (by decide)) (gR_of h1.ob rfl (gR_of h1.ob rfl ?_))
    rw [nI_add]
    refine md_st h1 (show 18 + k < 194 by omega) ((hA _ (by omega)).trans (stn_th hk)) (sI_of (h1.ar (i := 7) (by decide)) (show k < 12 from hk) (by decide) (fun i18 e18 => ?_))
    have h3 := h1.setA (i := 7) (F := upd F k (nI (thF v k))) (by decide)
    rw [va2] at h3
    rw [e18, nI_add]
    refine hK _ ⟨_, h3, fun p hp => ?_⟩
    by_cases z : p = k
    · rw [z, pk_us]
    · rw [pk_un z]; exact h2 p (by omega)
theorem wp_once {d : Nat} {w f : Nat → Nat} (h : MdS S0 S tg m bd A I) (hd : d < 6) (hw : PM w) (hc : ∀ p, p < 12 → A 6 (12 * d + p) = nI (w p)) (hf : ∀ p, p < 12 → A 7 p = nI (f p)) (hP : ∀ S' F G, MdS S0 S' tg m bd (va_up (va_up A 8 G) 7 F) I → (∀ p, p < 12 → F p = nI (mv f w p)) → P S') : wp_X8_weaveOnce S m (nI d) P := by
  unfold wp_X8_weaveOnce
  refine wpL_for 12 (fun k S1 => ∃ G, MdS S0 S1 tg m bd (va_up A 8 G) I ∧ ∀ p, p < k → G (w p) = nI (f p)) ⟨A 8, by rw [va1]; exact h, fun p hp => absurd hp (Nat.not_lt_zero _)⟩ ?_ ?_
  · intro S1 hS K
    obtain ⟨G, h1, h2⟩ := hS
    show wpb_X8_weaveOnce_2 _ _ _ _ (nI 12) S1
    unfold wpb_X8_weaveOnce_2
    refine br_t (nle_re 12) ?_
    refine wpL_for 12 (fun k S2 => ∃ F, MdS S0 S2 tg m bd (va_up (va_up A 8 G) 7 F) I ∧ ∀ p, p < k → F p = nI (mv f w p)) ⟨A 7, ?_, fun p hp => absurd hp (Nat.not_lt_zero _)⟩ ?_ ?_
    · have e : va_up (va_up A 8 G) 7 (A 7) = va_up A 8 G := va1 (va_up A 8 G) 7
      rw [e]; exact h1
    · intro S2 hS2 K2
      obtain ⟨F, h3, h4⟩ := hS2
      show wpb_X8_weaveOnce_33 _ _ _ (nI 12) S2
      unfold wpb_X8_weaveOnce_33
      exact br_t (nle_re 12) (hP S2 F G h3 h4)
    · intro k S2 hk hS2 K2 hK2
      obtain ⟨F, h3, h4⟩ := hS2
      show wpb_X8_weaveOnce_33 _ _ _ (nI k) S2
      unfold wpb_X8_weaveOnce_33
      have eg : G k = nI (mv f w k) := by
        obtain ⟨a1, a2⟩ := iv_spec hw hk
        have := h2 (iv w k) a1
        rw [a2] at this
        exact this
      refine br_f (nle_ge hk (by decide)) (gR_of h3.ob rfl (gR_of h3.ob rfl (lI_of (h3.ar (i := 8) (by decide)) (show k < 12 from hk) (by decide) (sI_of (h3.ar (i := 7) (by decide)) (show k < 12 from hk) (by decide) (fun i21 e21 => ?_)))))
      have h5 := h3.setA (i := 7) (F := upd F k (G k)) (by decide)
      rw [va2] at h5
      rw [e21, nI_add]
      refine hK2 _ ⟨_, h5, fun p hp => ?_⟩
      by_cases z : p = k
      · rw [z, pk_us, eg]
      · rw [pk_un z]; exact h4 p (by omega)
  · intro k S1 hk hS K hK
    obtain ⟨G, h1, h2⟩ := hS
    show wpb_X8_weaveOnce_2 _ _ _ _ (nI k) S1
    unfold wpb_X8_weaveOnce_2
    have hwk := hw.1 k hk
    refine br_f (nle_ge hk (by decide)) (gR_of h1.ob rfl (rc_of h1.ob (wp_cb h1 hd hk (hc k hk) (gR_of h1.ob rfl (lI_of (h1.ar (i := 7) (by decide)) (show k < 12 from hk) (by decide) (sI_of (h1.ar (i := 8) (by decide)) (show w k < 12 from hwk) (by decide) (fun i40 e40 => ?_)))))))
    have h5 := h1.setA (i := 8) (F := upd G (w k) (A 7 k)) (by decide)
    rw [va2] at h5
    rw [e40, nI_add]
    refine hK _ ⟨_, h5, fun p hp => ?_⟩
    by_cases z : p = k
    · rw [z, pk_us, hf k hk]
    · rw [pk_un (fun e => z (hw.2 p k (by omega) hk e))]; exact h2 p (by omega)
theorem wp_homeNow {g : Nat → Nat} (h : MdS S0 S tg m bd A I) (hg : ∀ p, p < 12 → A 7 p = nI (g p)) (hlt : ∀ p, p < 12 → g p < 12) (hQ : Q (nI (fb_ct (fun p => g p == p) 12))) : wp_X8_homeNow S m Q := by
  unfold wp_X8_homeNow
  refine wpL_for 12 (fun k t => t = nI (fb_ct (fun p => g p == p) k)) rfl ?_ ?_
  · intro t ht K
    show wpb_X8_homeNow_4 _ _ _ _ (nI 12) t
    unfold wpb_X8_homeNow_4
    exact br_t (nle_re 12) (by rw [ht]; exact hQ)
  · intro k t hk ht K hK
    show wpb_X8_homeNow_4 _ _ _ _ (nI k) t
    unfold wpb_X8_homeNow_4
    refine br_f (nle_ge hk (by decide)) (gR_of h.ob rfl (lI_of (h.ar (i := 7) (by decide)) (show k < 12 from hk) (by decide) ?_))
    rw [hg k hk]
    refine br_c (fun e => ?_) (fun e => ?_)
    · have e := (nI_eq (show g k < 2 ^ 31 by have := hlt k hk; omega) (by omega)).mp e
      intro i14 e14 i15 e15
      rw [e15, e14, nI_add, ht, nI_add]
      refine hK _ ?_
      rw [fb_ct_succ, if_pos (by simp [e])]
    · have e : ¬ g k = k := fun c => e (by rw [c])
      intro i14 e14 i15 e15
      rw [e15, e14, nI_add, ht, nI_add]
      refine hK _ ?_
      rw [fb_ct_succ, if_neg (by simp [e])]
theorem mv_id (f : Nat → Nat) {q : Nat} (hq : q < 12) : mv f (fun p => p) q = f q := mv_at PM.id hq
theorem stn_wvn {d t k : Nat} {F : Nat → Int32} (hF : ∀ q, q < 194 → F q = if 18 ≤ q ∧ q < 30 then nI (mv (thF v) (itr (wy v d) t) (q - 18)) else if q = 192 then pdF v + nI (drF v d).length * nI t else if q = 193 then pkF v + nI t else stn v q) (hk : k < 194) : F k = stn (wvn v d t) k := by
  rw [hF k hk]
  by_cases z : 18 ≤ k ∧ k < 30
  · rw [if_pos z]
    unfold stn
    rw [if_neg (by omega), if_neg (by omega), if_pos z.2]; rfl
  · rw [if_neg z]
    by_cases z2 : k = 192
    · rw [if_pos z2, z2, stn_pd]; rfl
    · rw [if_neg z2]
      by_cases z3 : k = 193
      · rw [if_pos z3, z3, stn_pk]; rfl
      · rw [if_neg z3]
        unfold stn
        by_cases q : k < 12
        · rw [if_pos q, if_pos q]; rfl
        · rw [if_neg q, if_neg q]
          by_cases q2 : k < 18
          · rw [if_pos q2, if_pos q2]; rfl
          · rw [if_neg q2, if_neg q2, if_neg (show ¬ k < 30 by omega), if_neg (show ¬ k < 30 by omega)]
            by_cases q4 : k < 42
            · rw [if_pos q4, if_pos q4]; rfl
            · rw [if_neg q4, if_neg q4]
              by_cases q5 : k < 48
              · rw [if_pos q5, if_pos q5]; rfl
              · rw [if_neg q5, if_neg q5, if_pos (show k < 192 by omega), if_pos (show k < 192 by omega)]; rfl
end MW
section MW2
variable {S0 S S' : PS} {tg : Nat → Nat × Nat} {m : Nat} {bd : Nat → Nat} {A A' : Nat → Nat → Int32} {I I' : Nat → Int32} {v : LM} {hist : List LM} {sl : Nat → Option LM} {pad : List Nat} {P : Int32 → PS → Prop} {Q : Int32 → Prop}
theorem wvn_ok {d t : Nat} (hv : okL v) : okL (wvn v d t) := by
  have hw := (pmWy v d).it t
  refine ⟨hv.1, hv.2.1, ⟨fun p hp => hv.2.2.1.1 _ (iv_spec hw hp).1, fun p q hp hq e => hw.iv.2 p q hp hq (hv.2.2.1.2 _ _ (iv_spec hw hp).1 (iv_spec hw hq).1 e)⟩, hv.2.2.2.1, hv.2.2.2.2⟩
theorem md_weave_no1 {y z : Int32} (hb : bad y 6) (hP : P (-1) S) : wp_X8_weave S m y z P := wp_isD (fun j hj e => absurd (e ▸ hb) (no_bad hj (by decide))) (fun _ => br_t rfl hP)
theorem wp_w1k {x : Int32} {R : Int32 → Prop} (h1 : ∀ t, 1 ≤ t → t ≤ 1000 → x = nI t → R (nI 1)) (hb : (x < nI 1 ∨ ¬ x ≤ nI 1000) → R (nI 0)) : wp_X8_within x (nI 1) (nI 1000) R := by
  unfold wp_X8_within
  refine br_c (fun c => hb (Or.inl c)) (fun c => br_c (fun c2 => hb (Or.inr (fa_of_lt c2).2.1)) (fun c2 => ?_))
  rw [fa_lt, nI_toInt (by decide)] at c
  rw [fa_lt, nI_toInt (by decide)] at c2
  have e : x = nI x.toInt.toNat := by
    rw [fa_eq, nI_toInt (by omega)]; omega
  exact h1 x.toInt.toNat (by omega) (by omega) e
theorem md_weave_no2 {d : Nat} {z : Int32} (hd : d < 6) (hb : z < nI 1 ∨ ¬ z ≤ nI 1000) (hP : P (-2) S) : wp_X8_weave S m (nI d) z P := wp_isD (fun _ _ _ => br_f n1z (wp_w1k (fun t t1 t2 e => by
  subst e
  rcases hb with c | c
  · exact absurd c (nI_nlt t1 (by omega))
  · exact absurd (nI_le t2 (by decide)) c) (fun _ => br_t rfl hP))) (fun b => absurd b (no_bad hd (by decide)))
theorem md_weave {d t : Nat} (h : MdS S0 S tg m bd A I) (hr : RA A I v hist sl pad) (hv : okL v) (hd : d < 6) (ht1 : 1 ≤ t) (ht : t ≤ 1000) (hP : ∀ S' A' I', MdS S0 S' tg m bd A' I' → RA A' I' (wvn v d t) (pushH hist v) sl pad → P (nI (hom (wvn v d t))) S') : wp_X8_weave S m (nI d) (nI t) P := by
  refine wp_isD (fun _ _ _ => br_f n1z (wp_w1k (fun t' _ _ e => ?_) (fun b => ?_))) (fun b => absurd b (no_bad hd (by decide)))
  · refine br_f n1z (rc_of h.ob (wp_record h hr (fun S1 A1 I1 h1 hr1 => rc_of h1.ob (wp_lay h1 hr1.1 hv hd (fun S2 F2 h2 c2 _ => rc_of h2.ob (wp_take (v := v) h2 hr1.1 (fun S3 F3 h3 c3 => ?_)))))))
    have hw := pmWy v d
    have key : ∀ {B : Nat → Nat → Int32}, (∀ i, i < 7 → B i = va_up A1 6 F2 i) → ∀ p, p < 12 → B 6 (12 * d + p) = nI (wy v d p) := fun hB p hp => by rw [hB 6 (by decide)]; exact c2 p hp
    refine wpL_for t (fun k S4 => ∃ B, MdS S0 S4 tg m bd B I1 ∧ (∀ i, i < 7 → B i = va_up A1 6 F2 i) ∧ ∀ p, p < 12 → B 7 p = nI (mv (thF v) (itr (wy v d) k) p)) ⟨_, h3, fun i hi => va_up_ne _ _ (by omega), fun p hp => ?_⟩ ?_ ?_
    · show F3 p = nI (mv (thF v) (fun q => q) p)
      rw [c3 p hp, mv_id _ hp]
    · intro S4 hS K
      obtain ⟨B, h4, b1, b2⟩ := hS
      show wpb_X8_weave_38 _ _ _ _ _ (nI t) S4
      unfold wpb_X8_weave_38
      refine br_t (Int32.le_refl _) ?_
      have b0 : B 0 = A1 0 := b1 0 (by decide)
      refine wpL_for 12 (fun k S5 => ∃ F, MdS S0 S5 tg m bd (va_up B 0 F) I1 ∧ ∀ q, q < 194 → F q = if 18 ≤ q ∧ q < 18 + k then nI (mv (thF v) (itr (wy v d) t) (q - 18)) else stn v q) ⟨B 0, by rw [va1]; exact h4, fun q hq => by rw [if_neg (by omega), b0]; exact hr1.1 q hq⟩ ?_ ?_
      · intro S5 hS5 K5
        obtain ⟨F, h5, c5⟩ := hS5
        show wpb_X8_weave_56 _ _ _ _ _ (nI 12) S5
        unfold wpb_X8_weave_56
        refine br_t (nle_re 12) (gR_of h5.ob rfl (md_st h5 (show 192 < 194 by decide) (x := pdF v) ?_ (rc_of h5.ob ?_)))
        · show F 192 = _
          rw [c5 _ (by decide), if_neg (by decide)]; exact stn_pd
        · unfold wp_X8_lengthOf
          refine gR_of h5.ob rfl ?_
          rw [nI_add]
          refine md_st h5 (show 42 + d < 194 by omega) (x := nI (drF v d).length) ?_ ?_
          · show F (42 + d) = _
            rw [c5 _ (by omega), if_neg (by omega)]; exact stn_le hd
          · refine md_set h5 (show 192 < 194 by decide) (fun S6 h6 => ?_)
            rw [va2] at h6
            refine gR_of h6.ob rfl (md_st h6 (show 193 < 194 by decide) (x := pkF v) ?_ (md_set h6 (show 193 < 194 by decide) (fun S7 h7 => ?_)))
            · show upd F 192 (pdF v + nI t * nI (drF v d).length) 193 = _
              rw [pk_un (by decide), c5 _ (by decide), if_neg (by decide)]; exact stn_pk
            · rw [va2] at h7
              have hF : ∀ q, q < 194 → upd (upd F 192 (pdF v + nI t * nI (drF v d).length)) 193 (pkF v + nI t) q = stn (wvn v d t) q := fun q hq => stn_wvn (fun q hq => by
                by_cases z3 : q = 193
                · rw [z3, pk_us, if_neg (by decide), if_neg (by decide), if_pos rfl]
                · rw [pk_un z3]
                  by_cases z2 : q = 192
                  · rw [z2, pk_us, if_neg (by decide), if_pos rfl, pk_mul, pk_mul, Nat.mul_comm]
                  · rw [pk_un z2, c5 q hq, if_neg z2, if_neg z3]) hq
              refine rc_of h7.ob (wp_atHome h7 (wvn_ok hv) hF (hP _ _ _ h7 ?_))
              obtain ⟨r1, r2, r4, r5, r6, r7⟩ := hr1
              have e1 : B 1 = A1 1 := b1 1 (by decide)
              have e2 : B 2 = A1 2 := b1 2 (by decide)
              have e3 : B 3 = A1 3 := b1 3 (by decide)
              have e4 : B 4 = A1 4 := b1 4 (by decide)
              refine ⟨hF, r2, ?_, ?_, r6, ?_⟩
              · show ∀ j, j < _ → ∀ k, k < 194 → B 1 (194 * j + k) = _
                rw [e1]; exact r4
              · show ∀ j, j < 2 → (sl j = none → B 3 j = nI 0) ∧ ∀ w, sl j = some w → B 3 j = nI 1 ∧ ∀ k, k < 194 → B 2 (194 * j + k) = stn w k
                rw [e2, e3]; exact r5
              · show ∀ k, k < pad.length → B 4 k = nI (pad.getD k 0)
                rw [e4]; exact r7
      · intro k S5 hk hS5 K5 hK5
        obtain ⟨F, h5, c5⟩ := hS5
        show wpb_X8_weave_56 _ _ _ _ _ (nI k) S5
        unfold wpb_X8_weave_56
        refine br_f (nle_ge hk (by decide)) (gR_of h5.ob rfl (gR_of h5.ob rfl (lI_of (h5.ar (i := 7) (by decide)) (show k < 12 from hk) (by decide) ?_)))
        rw [nI_add]
        refine md_set h5 (show 18 + k < 194 by omega) (fun S6 h6 i62 e62 => ?_)
        rw [va2] at h6
        rw [e62, nI_add]
        refine hK5 _ ⟨_, h6, fun q hq => ?_⟩
        by_cases z : q = 18 + k
        · rw [z, if_pos (by omega)]
          show upd F (18 + k) (B 7 k) (18 + k) = _
          rw [pk_us, b2 k hk, show 18 + k - 18 = k by omega]
        · show upd F (18 + k) (B 7 k) q = _
          rw [pk_un z, c5 q hq]
          by_cases c : 18 ≤ q ∧ q < 18 + k
          · rw [if_pos c, if_pos (by omega)]
          · rw [if_neg c, if_neg (by omega)]
    · intro k S4 hk hS K hK
      obtain ⟨B, h4, b1, b2⟩ := hS
      show wpb_X8_weave_38 _ _ _ _ _ (nI k) S4
      unfold wpb_X8_weave_38
      refine br_f (nI_ge hk (by omega)) (rc_of h4.ob (wp_once h4 hd hw (key b1) b2 (fun S5 F G h5 c5 i67 e67 => ?_)))
      rw [e67, nI_add]
      refine hK _ ⟨_, h5, fun i hi => ?_, fun p hp => ?_⟩
      · rw [va_up_ne _ _ (by omega), va_up_ne _ _ (by omega)]; exact b1 i hi
      · show F p = _
        rw [c5 p hp, mv_mv (hw.it k) hw hp]
        rfl
  · rcases b with c | c
    · exact absurd c (nI_nlt ht1 (by omega))
    · exact absurd (nI_le ht (by decide)) c
end MW2
