section MDR2
variable {S0 S S' : PS} {tg : Nat → Nat × Nat} {m : Nat} {bd : Nat → Nat} {A A' : Nat → Nat → Int32} {I I' : Nat → Int32} {v : LM} {hist : List LM} {sl : Nat → Option LM} {pad : List Nat} {P : Int32 → PS → Prop} {Q : Int32 → Prop} {d : Nat} {w : Nat → Nat}
theorem wp_longM (h : MdS S0 S tg m bd A I) (hd : d < 6) (hw : PM w) (hc : ∀ p, p < 12 → A 6 (12 * d + p) = nI (w p)) (hQ : Q (nI (lng w))) : wp_X8_longest S m (nI d) Q := by
  unfold wp_X8_longest
  refine wpL_for 12 (fun k x => x = nI (mxc w k)) rfl ?_ ?_
  · intro x hx K
    show wpb_X8_longest_4 _ _ _ _ _ (nI 12) x
    unfold wpb_X8_longest_4
    have hm := mxc_le hw 12 (by omega)
    unfold lng at hQ
    refine br_t (nle_re 12) ?_
    rw [hx, nI_leI (by omega) (by decide)]
    refine br_c (fun g => ?_) (fun g => ?_)
    · rw [if_neg (by omega)] at hQ; exact hQ
    · rw [if_pos (by omega)] at hQ; exact hQ
  · intro k x hk hx K hK
    show wpb_X8_longest_4 _ _ _ _ _ (nI k) x
    unfold wpb_X8_longest_4
    obtain ⟨c1, c2, -, -⟩ := cyc_spec hw hk
    have hm := mxc_le hw k (by omega)
    have hs : mxc w (k + 1) = if mxc w k < cyc w k then cyc w k else mxc w k := rfl
    refine br_f (nle_ge hk (by decide)) (rc_of h.ob (wp_cyc h hd hw hc hk ?_))
    rw [hx, nI_leI (by omega) (by omega)]
    refine br_c (fun g i9 e9 => ?_) (fun g => rc_of h.ob (wp_cyc h hd hw hc hk (fun i13 e13 => ?_)))
    · rw [e9, nI_add]
      refine hK _ ?_
      rw [hs, if_neg (by omega)]
    · rw [e13, nI_add]
      refine hK _ ?_
      rw [hs, if_pos (by omega)]
theorem wp_turned (h : MdS S0 S tg m bd A I) (hd : d < 6) (hw : PM w) (hc : ∀ p, p < 12 → A 6 (12 * d + p) = nI (w p)) (hQ : Q (nI (crs w))) : wp_X8_turnedPairs S m (nI d) Q := by
  unfold wp_X8_turnedPairs
  refine wpL_for 12 (fun k t => t = nI (fb_sm (fun p => fb_ct (fun q => decide (p < q) && decide (w q < w p)) 12) k)) rfl ?_ ?_
  · intro t ht K
    show wpb_X8_turnedPairs_4 _ _ _ _ _ (nI 12) t
    unfold wpb_X8_turnedPairs_4
    refine br_t (nle_re 12) ?_
    rw [ht]; exact hQ
  · intro k t hk ht K hK
    show wpb_X8_turnedPairs_4 _ _ _ _ _ (nI k) t
    unfold wpb_X8_turnedPairs_4
    refine br_f (nle_ge hk (by decide)) ?_
    intro i4 e4
    rw [e4, nI_add]
    refine wpL_from 12 (fun j x => k < j ∧ x = nI (fb_sm (fun p => fb_ct (fun q => decide (p < q) && decide (w q < w p)) 12) k + fb_ct (fun q => decide (k < q) && decide (w q < w k)) j)) (by omega) ⟨Nat.lt_succ_self _, ?_⟩ ?_ ?_
    · rw [ct_small w (k + 1) (Nat.le_refl _)]
      exact ht
    · intro x hx K2
      obtain ⟨-, hx⟩ := hx
      show wpb_X8_turnedPairs_15 _ _ _ _ _ _ (nI 12) x
      unfold wpb_X8_turnedPairs_15
      refine br_t (nle_re 12) ?_
      intro i8 e8
      rw [e8, nI_add, hx]
      exact hK _ rfl
    · intro j x hj hx K2 hK2
      obtain ⟨hkj, hx⟩ := hx
      show wpb_X8_turnedPairs_15 _ _ _ _ _ _ (nI j) x
      unfold wpb_X8_turnedPairs_15
      have h1 := hw.1 k hk
      have h2 := hw.1 j hj
      refine br_f (nle_ge hj (by decide)) (rc_of h.ob (wp_cb h hd hk (hc k hk) (rc_of h.ob (wp_cb h hd hj (hc j hj) ?_))))
      rw [nI_leI (by omega) (by omega)]
      refine br_c (fun g => ?_) (fun g => ?_)
      · intro i11 e11 i12 e12
        rw [e12, nI_add, e11, hx, nI_add]
        refine hK2 _ ⟨by omega, ?_⟩
        rw [fb_ct_succ]
        have : ¬ w j < w k := by omega
        simp [this]
      · intro i13 e13 i14 e14
        rw [e14, nI_add, e13, hx, nI_add]
        refine hK2 _ ⟨by omega, ?_⟩
        rw [fb_ct_succ]
        have : w j < w k := by omega
        simp [this, hkj, Nat.add_assoc]
/-! count -/
theorem wp_never (h : MdS S0 S tg m bd A I) (hA : ∀ k, k < 194 → A 0 k = stn v k) (hv : okL v) (hQ : Q (nI (bs (nvr v 6) 12))) : wp_X8_neverRaised S m Q := by
  unfold wp_X8_neverRaised
  refine wpL_for 12 (fun k x => x = nI (bs (nvr v 6) k)) rfl ?_ ?_
  · intro x hx K
    show wpb_X8_neverRaised_4 _ _ _ _ (nI 12) x
    unfold wpb_X8_neverRaised_4
    exact br_t (nle_re 12) (by rw [hx]; exact hQ)
  · intro k x hk hx K hK
    show wpb_X8_neverRaised_4 _ _ _ _ (nI k) x
    unfold wpb_X8_neverRaised_4
    refine br_f (nle_ge hk (by decide)) (rc_of h.ob (wp_raising h hA hv hk ?_))
    have hb := bs_lt (fun t => ra v t k) 6
    have hz : bs (fun t => ra v t k) 6 = 0 ↔ nvr v 6 k = true := by
      unfold nvr
      rw [List.all_eq_true]
      constructor
      · intro e t ht
        have := bs_bit (fun t => ra v t k) 6 t
        rw [e, Nat.zero_testBit] at this
        have ht := List.mem_range.mp ht
        simp [ht] at this
        simp [← this]
      · intro e
        rw [bs_ext (R := fun _ => false) (fun t ht => by
          have := e t (List.mem_range.mpr ht)
          simpa using this), bs_zero]
    refine br_c (fun g => ?_) (fun g => ?_)
    · have g := hz.mp ((nI_eq (b := 0) (by omega) (by decide)).mp g)
      intro i10 e10 i11 e11
      rw [e11, nI_add, e10, hx, bs_put (by omega) g]
      exact hK _ rfl
    · have g : nvr v 6 k = false := by
        cases c : nvr v 6 k with
        | false => rfl
        | true => exact absurd (show nI (bs (fun t => ra v t k) 6) = 0 by rw [hz.mpr c]; rfl) g
      intro i8 e8 i9 e9
      rw [e9, nI_add, e8, hx, or0, bs_no g]
      exact hK _ rfl
theorem wp_presd (h : MdS S0 S tg m bd A I) (hA : ∀ k, k < 194 → A 0 k = stn v k) (hv : okL v) (hQ : Q (nI (bs (fun d => decide (0 < (drF v d).length)) 6))) : wp_X8_pressedDrafts S m Q := by
  unfold wp_X8_pressedDrafts
  refine wpL_for 6 (fun k x => x = nI (bs (fun d => decide (0 < (drF v d).length)) k)) rfl ?_ ?_
  · intro x hx K
    show wpb_X8_pressedDrafts_4 _ _ _ _ (nI 6) x
    unfold wpb_X8_pressedDrafts_4
    exact br_t (nle_re 6) (by rw [hx]; exact hQ)
  · intro k x hk hx K hK
    show wpb_X8_pressedDrafts_4 _ _ _ _ (nI k) x
    unfold wpb_X8_pressedDrafts_4
    have h24 := (hv.2.2.2.2 k hk).1
    refine br_f (nle_ge hk (by decide)) (rc_of h.ob (wp_len h hA hk ?_))
    rcases Nat.eq_zero_or_pos (drF v k).length with z | z
    · refine br_t (by rw [z]; decide) (fun i8 e8 i9 e9 => ?_)
      rw [e9, nI_add, e8, hx, or0, bs_no (P := fun d => decide (0 < (drF v d).length)) (by simp [z])]
      exact hK _ rfl
    · refine br_f (nI_nle z (by omega)) (fun i8 e8 i9 e9 => ?_)
      rw [e9, nI_add, e8, hx, bs_put (P := fun d => decide (0 < (drF v d).length)) (by omega) (decide_eq_true z)]
      exact hK _ rfl
theorem md_count (h : MdS S0 S tg m bd A I) (hr : RA A I v hist sl pad) (hv : okL v) {x : Int32} (hn : x.toInt < 0 ∨ 6 < x.toInt → Q (-2)) (h0 : x.toInt = 0 → Q (nI (hom v))) (h1 : x.toInt = 1 → Q (pdF v)) (h2 : x.toInt = 2 → Q (pkF v)) (h3 : x.toInt = 3 → Q (nI (bs (nvr v 6) 12))) (h4 : x.toInt = 4 → Q (nI (bs (fun d => decide (0 < (drF v d).length)) 6))) (h5 : x.toInt = 5 → Q (nI pad.length)) (h6 : x.toInt = 6 → Q (nI hist.length)) : wp_X8_count S m x Q := by
  unfold wp_X8_count
  refine ⟨hn, fun e => rc_of h.ob (wp_atHome h hv hr.1 (h0 e)), fun e => gR_of h.ob rfl (md_st h (by decide) ((hr.1 192 (by decide)).trans stn_pd) (h1 e)), fun e => gR_of h.ob rfl (md_st h (by decide) ((hr.1 193 (by decide)).trans stn_pk) (h2 e)), fun e => rc_of h.ob (wp_never h hr.1 hv (h3 e)), fun e => rc_of h.ob (wp_presd h hr.1 hv (h4 e)), fun e => gI_of h.ob rfl ?_, fun e => gI_of h.ob rfl ?_⟩
  · show Q (I 1)
    rw [hr.2.2.2.2.1.1]; exact h5 e
  · show Q (I 0)
    rw [hr.2.1.1]; exact h6 e
end MDR2
