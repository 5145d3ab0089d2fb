section MC
variable {S0 S S' : PS} {tg : Nat → Nat × Nat} {m : Nat} {bd : Nat → Nat} {A A' : Nat → Nat → Int32} {I I' : Nat → Int32} {v : LM} {hist : List LM} {sl : Nat → Option LM} {pad : List Nat} {P : Int32 → PS → Prop} {Q : Int32 → Prop} {R : PS → Prop} {l : List Nat}
theorem RowM.nil : RowM A (va_up I 3 (nI 0)) [] := ⟨va_up_self _ _ _, Nat.zero_le _, fun k hk => absurd hk (Nat.not_lt_zero _)⟩
theorem md_compose_no {y z u : Int32} (hb : bad y 6 ∨ bad z 6 ∨ bad u 6) (hP : P (-1) S) : wp_X8_compose S m y z u P := by
  unfold wp_X8_compose
  refine wp_isD (fun j hj e => br_f n1z (wp_isD (fun i hi e2 => br_f n1z (wp_isD (fun q hq e3 => ?_) (fun _ => br_t rfl hP))) (fun _ => br_t rfl hP))) (fun _ => br_t rfl hP)
  subst e; subst e2; subst e3
  rcases hb with c | c | c
  · exact absurd c (no_bad hj (by decide))
  · exact absurd c (no_bad hi (by decide))
  · exact absurd c (no_bad hq (by decide))
theorem md_compose_many {a b c : Nat} (h : MdS S0 S tg m bd A I) (hA : ∀ k, k < 194 → A 0 k = stn v k) (hv : okL v) (ha : a < 6) (hb : b < 6) (hc : c < 6) (hl : 24 < (drF v b).length + (drF v c).length) (hP : P (-4) S) : wp_X8_compose S m (nI a) (nI b) (nI c) P := by
  have l1 := (hv.2.2.2.2 b hb).1
  have l2 := (hv.2.2.2.2 c hc).1
  unfold wp_X8_compose
  refine wp_isD (fun _ _ _ => br_f n1z (wp_isD (fun _ _ _ => br_f n1z (wp_isD (fun _ _ _ => br_f n1z (rc_of h.ob (wp_len h hA hb (rc_of h.ob (wp_len h hA hc ?_))))) (fun q => absurd q (no_bad hc (by decide))))) (fun q => absurd q (no_bad hb (by decide))))) (fun q => absurd q (no_bad ha (by decide)))
  rw [nI_add]
  exact br_f (nI_ge hl (by omega)) hP
theorem md_compose {a b c : Nat} (h : MdS S0 S tg m bd A I) (hr : RA A I v hist sl pad) (ha : a < 6) (hb : b < 6) (hc : c < 6) (hl : (drF v b).length + (drF v c).length ≤ 24) (hP : ∀ S' A' I', MdS S0 S' tg m bd A' I' → RA A' I' (setDr v a (drF v b ++ drF v c)) (pushH hist v) sl pad → P (nI ((drF v b).length + (drF v c).length)) S') : wp_X8_compose S m (nI a) (nI b) (nI c) P := by
  have hA := hr.1
  unfold wp_X8_compose
  refine wp_isD (fun _ _ _ => br_f n1z (wp_isD (fun _ _ _ => br_f n1z (wp_isD (fun _ _ _ => br_f n1z (rc_of h.ob (wp_len h hA hb (rc_of h.ob (wp_len h hA hc ?_))))) (fun q => absurd q (no_bad hc (by decide))))) (fun q => absurd q (no_bad hb (by decide))))) (fun q => absurd q (no_bad ha (by decide)))
  rw [nI_add]
  refine br_t (nI_le hl (by decide)) (pF_of h.ob (Nat.le_of_ble_eq_true rfl) _ rfl ?_)
  have h1 := h.setI (k := 3) (x := nI 0) rfl
  refine rc_of h1.ob (wp_addRow h1 hA hb RowM.nil (by show 0 + _ ≤ 24; omega) (fun S2 A2 I2 h2 l2 e1 e2 => ?_))
  have hA2 : ∀ k, k < 194 → A2 0 k = stn v k := fun k hk => by rw [e1 0 (by decide)]; exact hA k hk
  refine rc_of h2.ob (wp_addRow h2 hA2 hc l2 (by rw [List.nil_append]; exact hl) (fun S3 A3 I3 h3 l3 f1 f2 => ?_))
  rw [List.nil_append] at l3
  have hr3 : RA A3 I3 v hist sl pad := hr.scr (fun i hi => (f1 i (by omega)).trans (e1 i (by omega))) (((f2 0 (by decide)).trans (e2 0 (by decide))).trans (va_up_ne _ _ (by decide))) (((f2 1 (by decide)).trans (e2 1 (by decide))).trans (va_up_ne _ _ (by decide)))
  refine rc_of h3.ob (wp_make h3 hr3 ha l3 (fun S4 A4 I4 h4 hr4 => ?_))
  rw [List.length_append]
  exact hP S4 A4 I4 h4 hr4
theorem md_turn_no {y z : Int32} (hb : bad y 6 ∨ bad z 6) (hP : P (-1) S) : wp_X8_turnRound S m y z P := by
  unfold wp_X8_turnRound
  refine wp_isD (fun j hj e => br_f n1z (wp_isD (fun i hi e2 => ?_) (fun _ => br_t rfl hP))) (fun _ => br_t rfl hP)
  subst e; subst e2
  rcases hb with c | c
  · exact absurd c (no_bad hj (by decide))
  · exact absurd c (no_bad hi (by decide))
theorem md_turn {a b : Nat} (h : MdS S0 S tg m bd A I) (hr : RA A I v hist sl pad) (hv : okL v) (ha : a < 6) (hb : b < 6) (hP : ∀ S' A' I', MdS S0 S' tg m bd A' I' → RA A' I' (setDr v a (trn (drF v b))) (pushH hist v) sl pad → P (nI (drF v b).length) S') : wp_X8_turnRound S m (nI a) (nI b) P := by
  have hA := hr.1
  have hl := hv.2.2.2.2 b hb
  unfold wp_X8_turnRound
  refine wp_isD (fun _ _ _ => br_f n1z (wp_isD (fun _ _ _ => br_f n1z (pF_of h.ob (Nat.le_of_ble_eq_true rfl) _ rfl ?_)) (fun q => absurd q (no_bad hb (by decide))))) (fun q => absurd q (no_bad ha (by decide)))
  have h1 := h.setI (k := 3) (x := nI 0) rfl
  refine rc_of h1.ob (wp_len h1 hA hb (fun i11 e11 => ?_))
  rw [e11]
  have hl24 := hl.1
  refine wpL_down (drF v b).length (fun k S1 => ∃ A1 I1, MdS S0 S1 tg m bd A1 I1 ∧ RowM A1 I1 (trn ((drF v b).drop k)) ∧ (∀ i, i ≠ 5 → A1 i = A i) ∧ ∀ k, k ≠ 3 → I1 k = I k) ⟨A, _, h1, by rw [List.drop_length]; exact RowM.nil, fun _ _ => rfl, fun k hk => va_up_ne _ _ hk⟩ ?_ ?_
  · intro S1 hS K
    obtain ⟨A1, I1, h2, l2, e1, e2⟩ := hS
    show wpb_X8_turnRound_29 _ _ _ _ _ (-1) S1
    unfold wpb_X8_turnRound_29
    have hr2 : RA A1 I1 v hist sl pad := hr.scr (fun i hi => e1 i (by omega)) (e2 0 (by decide)) (e2 1 (by decide))
    have l2 : RowM A1 I1 (trn (drF v b)) := l2
    refine br_t (by decide) (rc_of h2.ob (wp_make h2 hr2 ha l2 (fun S4 A4 I4 h4 hr4 => ?_)))
    rw [trn_len]
    exact hP S4 A4 I4 h4 hr4
  · intro k S1 hk hS K hK
    obtain ⟨A1, I1, h2, l2, e1, e2⟩ := hS
    show wpb_X8_turnRound_29 _ _ _ _ _ (nI k) S1
    unfold wpb_X8_turnRound_29
    have hA1 : ∀ k, k < 194 → A1 0 k = stn v k := fun k hk => by rw [e1 0 (by decide)]; exact hA k hk
    have hlen : (trn ((drF v b).drop (k + 1))).length = (drF v b).length - (k + 1) := by rw [trn_len, List.length_drop]
    have key := RowM.add (x := ((drF v b).getD k 0 + 6) % 12) (R := fun S37 => ∀ i38 : Int32, i38 = nI k + (-1 : Int32) → K (i38, S37)) h2 l2 (by omega) (fun S3 A3 I3 h3 l3 f1 f2 i38 e38 => by
      rw [e38]
      refine hK _ ⟨A3, I3, h3, ?_, fun i hi => (f1 i hi).trans (e1 i hi), fun k hk => (f2 k hk).trans (e2 k hk)⟩
      rw [trn_drop hk]; exact l3)
    obtain ⟨fs, x, g1, g2, g3⟩ := key
    have h12 := hl.2 k hk
    refine br_f (nI_pos (by omega)) (gR_of h2.ob rfl ⟨fs, x, g1, g2, rc_of h2.ob (wp_prO h2 hA1 hb (by omega) ?_)⟩)
    rw [nI_add, pk_rem (by omega) (by decide) (by decide)]
    exact g3
theorem wp_w24 {x : Int32} {U : Int32 → Prop} (h1 : ∀ t, t ≤ 24 → x = nI t → U (nI 1)) (hb : bad x 25 → U (nI 0)) : wp_X8_within x (nI 0) (nI 24) U := wp_win 25 (by decide) (by decide) (fun j hj e => h1 j (by omega) e) hb
theorem md_repeat_no1 {y z u : Int32} (hb : bad y 6 ∨ bad z 6) (hP : P (-1) S) : wp_X8_repeat S m y z u P := by
  unfold wp_X8_repeat
  refine wp_isD (fun j hj e => br_f n1z (wp_isD (fun i hi e2 => ?_) (fun _ => br_t rfl hP))) (fun _ => br_t rfl hP)
  subst e; subst e2
  rcases hb with c | c
  · exact absurd c (no_bad hj (by decide))
  · exact absurd c (no_bad hi (by decide))
theorem md_repeat_no2 {a b : Nat} {u : Int32} (ha : a < 6) (hb : b < 6) (hu : bad u 25) (hP : P (-2) S) : wp_X8_repeat S m (nI a) (nI b) u P := by
  unfold wp_X8_repeat
  exact wp_isD (fun _ _ _ => br_f n1z (wp_isD (fun _ _ _ => br_f n1z (wp_w24 (fun t ht e => absurd (e ▸ hu) (no_bad (show t < 25 by omega) (by decide))) (fun _ => br_t rfl hP))) (fun q => absurd q (no_bad hb (by decide))))) (fun q => absurd q (no_bad ha (by decide)))
theorem md_repeat_many {a b t : Nat} (h : MdS S0 S tg m bd A I) (hA : ∀ k, k < 194 → A 0 k = stn v k) (hv : okL v) (ha : a < 6) (hb : b < 6) (ht : t ≤ 24) (hl : 24 < (drF v b).length * t) (hP : P (-4) S) : wp_X8_repeat S m (nI a) (nI b) (nI t) P := by
  have l1 := (hv.2.2.2.2 b hb).1
  unfold wp_X8_repeat
  refine wp_isD (fun _ _ _ => br_f n1z (wp_isD (fun _ _ _ => br_f n1z (wp_w24 (fun _ _ _ => br_f n1z (rc_of h.ob (wp_len h hA hb ?_))) (fun q => absurd q (no_bad (show t < 25 by omega) (by decide))))) (fun q => absurd q (no_bad hb (by decide))))) (fun q => absurd q (no_bad ha (by decide)))
  rw [pk_mul, Nat.mul_comm]
  have : (drF v b).length * t ≤ 24 * 24 := Nat.mul_le_mul l1 ht
  exact br_f (nI_ge hl (by omega)) hP
theorem md_repeat {a b t : Nat} (h : MdS S0 S tg m bd A I) (hr : RA A I v hist sl pad) (ha : a < 6) (hb : b < 6) (ht : t ≤ 24) (hl : (drF v b).length * t ≤ 24) (hP : ∀ S' A' I', MdS S0 S' tg m bd A' I' → RA A' I' (setDr v a (rpt (drF v b) t)) (pushH hist v) sl pad → P (nI ((drF v b).length * t)) S') : wp_X8_repeat S m (nI a) (nI b) (nI t) P := by
  have hA := hr.1
  unfold wp_X8_repeat
  refine wp_isD (fun _ _ _ => br_f n1z (wp_isD (fun _ _ _ => br_f n1z (wp_w24 (fun _ _ _ => br_f n1z (rc_of h.ob (wp_len h hA hb ?_))) (fun q => absurd q (no_bad (show t < 25 by omega) (by decide))))) (fun q => absurd q (no_bad hb (by decide))))) (fun q => absurd q (no_bad ha (by decide)))
  rw [pk_mul, Nat.mul_comm]
  refine br_t (nI_le hl (by decide)) (pF_of h.ob (Nat.le_of_ble_eq_true rfl) _ rfl ?_)
  have h1 := h.setI (k := 3) (x := nI 0) rfl
  refine wpL_for t (fun k S1 => ∃ A1 I1, MdS S0 S1 tg m bd A1 I1 ∧ RowM A1 I1 (rpt (drF v b) k) ∧ (∀ i, i ≠ 5 → A1 i = A i) ∧ ∀ k, k ≠ 3 → I1 k = I k) ⟨A, _, h1, RowM.nil, fun _ _ => rfl, fun k hk => va_up_ne _ _ hk⟩ ?_ ?_
  · intro S1 hS K
    obtain ⟨A1, I1, h2, l2, e1, e2⟩ := hS
    show wpb_X8_repeat_52 _ _ _ _ _ _ (nI t) S1
    unfold wpb_X8_repeat_52
    have hr2 : RA A1 I1 v hist sl pad := hr.scr (fun i hi => e1 i (by omega)) (e2 0 (by decide)) (e2 1 (by decide))
    refine br_t (Int32.le_refl _) (rc_of h2.ob (wp_make h2 hr2 ha l2 (fun S4 A4 I4 h4 hr4 => ?_)))
    rw [rpt_len]
    exact hP S4 A4 I4 h4 hr4
  · intro k S1 hk hS K hK
    obtain ⟨A1, I1, h2, l2, e1, e2⟩ := hS
    show wpb_X8_repeat_52 _ _ _ _ _ _ (nI k) S1
    unfold wpb_X8_repeat_52
    have hA1 : ∀ k, k < 194 → A1 0 k = stn v k := fun k hk => by rw [e1 0 (by decide)]; exact hA k hk
    have hlk : (drF v b).length * (k + 1) ≤ 24 := Nat.le_trans (Nat.mul_le_mul_left _ hk) hl
    rw [Nat.mul_succ] at hlk
    refine br_f (nI_ge hk (by omega)) (rc_of h2.ob (wp_addRow h2 hA1 hb l2 (by rw [rpt_len]; exact hlk) (fun S3 A3 I3 h3 l3 f1 f2 i24 e24 => ?_)))
    rw [e24, nI_add]
    exact hK _ ⟨A3, I3, h3, l3, fun i hi => (f1 i hi).trans (e1 i hi), fun k hk => (f2 k hk).trans (e2 k hk)⟩
end MC
