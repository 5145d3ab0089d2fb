/-! ===== the law's own look at the whole loom ===== -/
theorem bs_zero_n (P : Nat → Bool) (n : Nat) : bs P n = 0 ↔ ∀ q, q < n → P q = false := by
  constructor
  · intro h q hq
    have := bs_bit P n q
    rw [h, Nat.zero_testBit] at this
    simpa [hq] using this.symm
  · intro h
    rw [bs_ext (R := fun _ => false) h, bs_zero]
section LJ
variable {S S' : PS} {tg tg' : Nat → Nat × Nat} {x : Nat} {ad : Nat → Nat} {f g : Nat → Option Nat} {v : LM} {hist : List LM} {sl : Nat → Option LM} {pad : List Nat} {P : Int32 → Prop} {Q : Int32 → PS → Prop} {la : Nat → Nat}
theorem wq_isSo {y : Int32} (h : TkF S tg x ad f g v hist sl pad) (hL : LWo S tg x la v) (hQ : ∀ S', (∀ b, S b ≠ oJ → S' b = S b) → Q (nI 1) S') : wp_L_isSo S x y (la 0) (la 1) (la 2) (la 3) (la 4) (la 5) Q := by
  have hx := h.2.1
  have okv := h.2.2.2.1.1
  obtain ⟨t, h0, h1, h2, h3, h4, h5, -⟩ := id hL
  unfold wp_L_isSo
  refine wpL_for 12 (fun p q => q = nI (bs (nvr v 6) p)) rfl ?_ ?_
  · rintro q rfl K
    show wpb_L_isSo_9 _ _ _ _ _ _ _ _ _ _ _ (nI 12) (nI (bs (nvr v 6) 12))
    unfold wpb_L_isSo_9
    refine br_t (nle_re 12) ?_
    refine wpL_for 6 (fun k q => q = nI (bs (fun d => decide (0 < (drF v d).length)) k)) rfl ?_ ?_
    · rintro q rfl K2
      show wpb_L_isSo_142 _ _ _ _ _ _ _ _ _ _ _ _ (nI 6) (nI (bs (fun d => decide (0 < (drF v d).length)) 6))
      unfold wpb_L_isSo_142
      refine br_t (nle_re 6) (rc_of hx (tk_count0 h (wq_home h2 okv.2.2.1.1 (br_t rfl ?_))))
      refine rc_of hx (tk_count1 h (h4.get (k := 6) (by decide) (br_t rfl ?_)))
      refine rc_of hx (tk_count2 h (h4.get (k := 7) (by decide) (br_t rfl ?_)))
      refine rc_of hx (tk_count3 h (br_t rfl (rc_of hx (tk_count4 h (br_t rfl ?_)))))
      exact wq_low (by decide) (by decide) (wq_isDraft h hL (lw_lt (by decide)) (fun S' f' => br_f n1z (hQ S' f')))
    · rintro k q hk rfl K2 hK2
      show wpb_L_isSo_142 _ _ _ _ _ _ _ _ _ _ _ _ (nI k) (nI (bs (fun d => decide (0 < (drF v d).length)) k))
      unfold wpb_L_isSo_142
      have hl := (okv.2.2.2.2 k hk).1
      have t170 : ∀ i44, i44 = nI (bs (fun d => decide (0 < (drF v d).length)) (k + 1)) → wpk_L_isSo_170 S x (la 0) (la 1) (nI k) Q K2 i44 := fun i44 e44 => by
        unfold wpk_L_isSo_170
        refine rc_of hx (tk_treadle0 h hk (h1.get hk (br_t rfl (rc_of hx (tk_treadle1 h hk (wq_raised okv hk h0 h1 (br_t rfl ?_)))))))
        intro i58 e58
        rw [e58, nI_add]
        exact hK2 _ e44
      refine br_f (nle_ge hk (by decide)) (wq_n h4 hk ?_)
      rcases Nat.eq_zero_or_pos (drF v k).length with z | z
      · refine br_t (by rw [z]; decide) ?_
        intro i60 e60
        refine t170 _ ?_
        rw [e60, or_z, bs_no (P := fun d => decide (0 < (drF v d).length)) (by simp [z])]
      · refine br_f (nI_nle z (by omega)) ?_
        intro i61 e61
        refine t170 _ ?_
        rw [e61, bs_put (P := fun d => decide (0 < (drF v d).length)) (by omega) (by simp [z])]
  · rintro p q hp rfl K hK
    show wpb_L_isSo_9 _ _ _ _ _ _ _ _ _ _ _ (nI p) (nI (bs (nvr v 6) p))
    unfold wpb_L_isSo_9
    refine br_f (nle_ge hp (by decide)) ?_
    have tp := okv.2.2.1.1 p hp
    refine wpL_for 6 (fun k q => q = nI (bs (fun t => ra v t p) k)) rfl ?_ ?_
    · rintro q rfl K2
      show wpb_L_isSo_22 _ _ _ _ _ _ _ _ _ _ _ (nI 6) (nI (bs (fun t => ra v t p) 6))
      unfold wpb_L_isSo_22
      have t72 : ∀ i66, i66 = nI (bs (nvr v 6) (p + 1)) → wpk_L_isSo_72 S x (la 0) (la 2) (la 3) (nI p) (nI (bs (fun t => ra v t p) 6)) Q K i66 := fun i66 e66 => by
        unfold wpk_L_isSo_72
        refine rc_of hx (tk_place0 h hp (h0.get hp (br_t rfl ?_)))
        refine rc_of hx (tk_place1 h hp (h2.get hp (br_t rfl ?_)))
        refine rc_of hx (tk_place2 h hp (h2.get hp (h3.get tp (br_t rfl ?_))))
        refine rc_of hx (tk_place3 h hp (br_t rfl ?_))
        intro i99 e99
        rw [e99, nI_add]
        exact hK _ e66
      have hb := bs_lt (fun t => ra v t p) 6
      have hz := bs_zero_n (fun t => ra v t p) 6
      refine br_t (nle_re 6) (br_c (fun z => ?_) (fun z => ?_))
      · rw [← nI_0, nI_eq (by omega) (by decide), hz] at z
        intro i102 e102
        refine t72 _ ?_
        rw [e102, bs_put (P := nvr v 6) (by omega)]
        unfold nvr
        rw [List.all_eq_true]
        intro t ht
        rw [z t (List.mem_range.mp ht)]; rfl
      · intro i101 e101
        refine t72 _ ?_
        rw [e101, or_z, bs_no (P := nvr v 6)]
        cases en : nvr v 6 p with
        | false => rfl
        | true =>
          unfold nvr at en
          rw [List.all_eq_true] at en
          have : bs (fun t => ra v t p) 6 = 0 := hz.mpr (fun t ht => by
            have := en t (List.mem_range.mpr ht)
            simpa using this)
          exact absurd (by rw [this]; exact nI_0) z
    · rintro k q hk rfl K2 hK2
      show wpb_L_isSo_22 _ _ _ _ _ _ _ _ _ _ _ (nI k) (nI (bs (fun t => ra v t p) k))
      unfold wpb_L_isSo_22
      refine br_f (nle_ge hk (by decide)) (h1.get hk (h0.get hp ?_))
      have g1 := okv.2.1 k hk
      have g2 := okv.1 p hp
      intro i111 e111 i112 e112
      rw [e112, nI_add, e111, sr_bit (by omega) (by omega)]
      rw [show (if (tiF v k).testBit (shF v p) then 1 else 0) = (if (fun t => ra v t p) k then 1 else 0) from rfl, or_b (P := fun t => ra v t p) (by omega)]
      exact hK2 _ rfl
end LJ
