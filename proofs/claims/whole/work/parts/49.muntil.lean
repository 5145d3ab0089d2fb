section MUN
variable {S0 S S' : PS} {tg : Nat → Nat × Nat} {m : Nat} {bd : Nat → Nat} {A A' : Nat → Nat → Int32} {I I' : Nat → Int32} {v : LM} {hist : List LM} {sl : Nat → Option LM} {pad : List Nat} {P : Int32 → PS → Prop} {Q : Int32 → Prop} {d : Nat}
theorem home_UH {th w : Nat → Nat} (hw : PM w) (ht : ∀ p, p < 12 → th p < 12) (k : Nat) : fb_ct (fun p => mv th (itr w k) p == p) 12 = 12 ↔ UH w th k := by
  rw [← mv_home hw ht k, fb_ct_all, en_eq (mv_lt (fun p hp => Nat.lt_trans (ht p hp) (by decide)) (hw.it k)) (fun p hp => Nat.lt_trans hp (by decide))]
  exact ⟨fun h p hp => by simpa using h p hp, fun h p hp => by simpa using h p hp⟩
theorem md_untilHome_no {y : Int32} (hb : bad y 6) (hP : P (-1) S) : wp_X8_untilHome S m y P := wp_isD (fun j hj e => absurd (e ▸ hb) (no_bad hj (by decide))) (fun _ => br_t rfl hP)
theorem md_untilHome {t : Nat} (h : MdS S0 S tg m bd A I) (hr : RA A I v hist sl pad) (hv : okL v) (hd : d < 6) (ht : t ≤ tua (fun p => p) (wy v d)) (hU : t < tua (fun p => p) (wy v d) → UH (wy v d) (thF v) t) (hm : ∀ j, j < t → ¬ UH (wy v d) (thF v) j) (hP : ∀ S' A' I', MdS S0 S' tg m bd A' I' → RA A' I' v hist sl pad → P (if t < tua (fun p => p) (wy v d) then nI t else -6) S') : wp_X8_untilHome S m (nI d) P := by
  have hw := pmWy v d
  have hth := hv.2.2.1.1
  obtain ⟨q1, q2, -, -⟩ := tua_spec (fun p => p) hw
  refine wp_isD (fun _ _ _ => br_f n1z (rc_of h.ob (wp_lay h hr.1 hv hd (fun S1 F h1 c1 _ => rc_of h1.ob (wp_order h1 hd hw c1 (rc_of h1.ob (wp_take (v := v) h1 hr.1 (fun S2 G h2 c2 => ?_)))))))) (fun b => absurd b (no_bad hd (by decide)))
  generalize hT : tua (fun p => p) (wy v d) = T at *
  refine wpL_for t (fun k S3 => ∃ B, MdS S0 S3 tg m bd B I ∧ (∀ i, i < 7 → B i = va_up A 6 F i) ∧ ∀ p, p < 12 → B 7 p = nI (mv (thF v) (itr (wy v d) k) p)) ⟨_, h2, fun i hi => va_up_ne _ _ (by omega), fun p hp => ?_⟩ ?_ ?_
  · show G p = nI (mv (thF v) (fun q => q) p)
    rw [c2 p hp, mv_id _ hp]
  · intro S3 hS K
    obtain ⟨B, h3, b1, b2⟩ := hS
    show wpb_X8_untilHome_26 _ _ _ _ _ (nI t) S3
    unfold wpb_X8_untilHome_26
    have hres := hP S3 B I h3 (hr.scr (fun i hi => (b1 i (by omega)).trans (va_up_ne _ _ (by omega))) rfl rfl)
    rcases Nat.lt_or_ge t T with z | z
    · rw [if_pos z] at hres
      refine br_f (nI_ge z (by omega)) (rc_of h3.ob (wp_homeNow h3 b2 (mv_lt hth (hw.it t)) ?_))
      rw [(home_UH hw hth t).mpr (hU z)]
      exact br_t (nle_re 12) (br_f (nI_ge z (by omega)) hres)
    · rw [if_neg (by omega)] at hres
      exact br_t (nI_le z (by omega)) (br_t (nI_le z (by omega)) hres)
  · intro k S3 hk hS K hK
    obtain ⟨B, h3, b1, b2⟩ := hS
    show wpb_X8_untilHome_26 _ _ _ _ _ (nI k) S3
    unfold wpb_X8_untilHome_26
    have hct := fb_ct_le (fun p => mv (thF v) (itr (wy v d) k) p == p) 12
    have hne : fb_ct (fun p => mv (thF v) (itr (wy v d) k) p == p) 12 ≠ 12 := fun c => hm k hk ((home_UH hw hth k).mp c)
    have key : ∀ p, p < 12 → B 6 (12 * d + p) = nI (wy v d p) := fun p hp => by rw [b1 6 (by decide)]; exact c1 p hp
    refine br_f (nI_ge (show k < T by omega) (by omega)) (rc_of h3.ob (wp_homeNow h3 b2 (mv_lt hth (hw.it k)) (br_f (nI_ge (by omega) (by decide)) (rc_of h3.ob (wp_once h3 hd hw key b2 (fun S4 F4 G4 h4 c4 i24 e24 => ?_))))))
    rw [e24, nI_add]
    refine hK _ ⟨_, h4, fun i hi => ?_, fun p hp => ?_⟩
    · rw [va_up_ne _ _ (by omega), va_up_ne _ _ (by omega)]; exact b1 i hi
    · show F4 p = _
      rw [c4 p hp, mv_mv (hw.it k) hw hp]
      rfl
theorem md_best_no {y : Int32} (hb : bad y 2) (hP : P (-2) S) : wp_X8_bestDraft S m y P := wp_win 2 (by decide) (by decide) (fun j hj e => absurd (e ▸ hb) (no_bad hj (by decide))) (fun _ => br_t rfl hP)
end MUN
