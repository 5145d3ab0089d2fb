/-! ===== the reference: raised places; put, tie, dye ===== -/
theorem or0 (a : Nat) : nI a ||| nI 0 = nI a := by rw [fa_or, Nat.or_zero]
theorem stn_setSh {v : LM} {p s : Nat} (hp : p < 12) (k : Nat) : stn (setSh v p s) k = if k = p then nI s else stn v k := by
  unfold stn
  by_cases z : k = p
  · rw [if_pos z, if_pos (by omega)]
    show nI (if k = p then s else shF v k) = _
    rw [if_pos z]
  · rw [if_neg z]
    by_cases q : k < 12
    · rw [if_pos q, if_pos q]
      show nI (if k = p then s else shF v k) = _
      rw [if_neg z]
    · rw [if_neg q, if_neg q]; rfl
theorem stn_setTi {v : LM} {p s : Nat} (hp : p < 6) (k : Nat) : stn (setTi v p s) k = if k = 12 + p then nI s else stn v k := by
  unfold stn
  by_cases q : k < 12
  · rw [if_pos q, if_pos q, if_neg (by omega)]; rfl
  · rw [if_neg q, if_neg q]
    by_cases q2 : k < 18
    · rw [if_pos q2, if_pos q2]
      show nI (if k - 12 = p then s else tiF v (k - 12)) = _
      by_cases z : k = 12 + p
      · rw [if_pos z, if_pos (by omega)]
      · rw [if_neg z, if_neg (by omega)]
    · rw [if_neg q2, if_neg q2, if_neg (show ¬ k = 12 + p by omega)]; rfl
theorem stn_setCo {v : LM} {p s : Nat} (hp : p < 12) (k : Nat) : stn (setCo v p s) k = if k = 30 + p then nI s else stn v k := by
  unfold stn
  by_cases q : k < 12
  · rw [if_pos q, if_pos q, if_neg (by omega)]; rfl
  · rw [if_neg q, if_neg q]
    by_cases q2 : k < 18
    · rw [if_pos q2, if_pos q2, if_neg (by omega)]; rfl
    · rw [if_neg q2, if_neg q2]
      by_cases q3 : k < 30
      · rw [if_pos q3, if_pos q3, if_neg (by omega)]; rfl
      · rw [if_neg q3, if_neg q3]
        by_cases q4 : k < 42
        · rw [if_pos q4, if_pos q4]
          show nI (if k - 30 = p then s else coF v (k - 30)) = _
          by_cases z : k = 30 + p
          · rw [if_pos z, if_pos (by omega)]
          · rw [if_neg z, if_neg (by omega)]
        · rw [if_neg q4, if_neg q4, if_neg (show ¬ k = 30 + p by omega)]; rfl
section MP
variable {S0 S S' : PS} {tg : Nat → Nat × Nat} {m : Nat} {bd : Nat → Nat} {A A' : Nat → Nat → Int32} {I I' : Nat → Int32} {v w : LM} {hist : List LM} {sl : Nat → Option LM} {pad : List Nat} {P : Int32 → PS → Prop} {Q : Int32 → Prop}
theorem RA.set {F : Nat → Int32} (h : RA A I v hist sl pad) (hF : ∀ k, k < 194 → F k = stn w k) : RA (va_up A 0 F) I w hist sl pad := by
  obtain ⟨r1, r2, r4, r5, r6, r7⟩ := h
  exact ⟨hF, r2, r4, r5, r6, r7⟩
theorem upd_stn {k0 k : Nat} {x : Int32} {F : Nat → Int32} (hF : F k = stn v k) (h : stn w k = if k = k0 then x else stn v k) : upd F k0 x k = stn w k := by
  rw [h]
  by_cases z : k = k0
  · rw [z, pk_us, if_pos rfl]
  · rw [pk_un z, if_neg z, hF]
theorem wp_raised (h : MdS S0 S tg m bd A I) (hA : ∀ k, k < 194 → A 0 k = stn v k) (hv : okL v) {t : Nat} (ht : t < 6) (hQ : Q (nI (bs (ra v t) 12))) : wp_X8_raised S m (nI t) Q := by
  unfold wp_X8_raised
  refine wpL_for 12 (fun k x => x = nI (bs (ra v t) k)) rfl ?_ ?_
  · intro x hx K
    show wpb_X8_raised_4 _ _ _ _ _ (nI 12) x
    unfold wpb_X8_raised_4
    exact br_t (nle_re 12) (by rw [hx]; exact hQ)
  · intro k x hk hx K hK
    show wpb_X8_raised_4 _ _ _ _ _ (nI k) x
    unfold wpb_X8_raised_4
    refine br_f (nle_ge hk (by decide)) (gR_of h.ob rfl ?_)
    rw [nI_add, nI_add]
    refine md_st h (show 12 + t < 194 by omega) ((hA _ (by omega)).trans (stn_ti ht)) (gR_of h.ob rfl (md_st h (show 0 + k < 194 by omega) ((hA _ (by omega)).trans (stn_sh hk)) ?_))
    have b1 := hv.2.1 t ht
    have b2 := hv.1 k hk
    rw [sr_bit (by omega) (by omega)]
    cases e : (tiF v t).testBit (shF v k) with
    | true =>
      refine br_t rfl (fun i21 e21 i22 e22 => ?_)
      rw [e22, nI_add, e21, hx, bs_put (by omega) (show ra v t k = true from e)]
      exact hK _ rfl
    | false =>
      refine br_f n01 (fun i21 e21 i22 e22 => ?_)
      rw [e22, nI_add, e21, hx, or0, bs_no (show ra v t k = false from e)]
      exact hK _ rfl
theorem wp_ones {R : Nat → Bool} (hQ : Q (nI (fb_ct R 12))) : wp_X8_ones (nI (bs R 12)) Q := by
  unfold wp_X8_ones
  refine wpL_for 12 (fun k x => x = nI (fb_ct R k)) rfl ?_ ?_
  · intro x hx K
    show wpb_X8_ones_4 _ _ _ (nI 12) x
    unfold wpb_X8_ones_4
    exact br_t (nle_re 12) (by rw [hx]; exact hQ)
  · intro k x hk hx K hK
    show wpb_X8_ones_4 _ _ _ (nI k) x
    unfold wpb_X8_ones_4
    refine br_f (nle_ge hk (by decide)) (fun i4 e4 i5 e5 => ?_)
    rw [sr_bit (Nat.lt_trans (bs_lt R 12) (by decide)) (by omega), bs_bit, hx, nI_add] at e4
    rw [e5, e4, nI_add]
    refine hK _ (congrArg nI ?_)
    rw [fb_ct_succ]
    simp [hk]
theorem md_put_no {y z : Int32} (hb : bad y 12 ∨ bad z 6) (hP : P (-1) S) : wp_X8_put S m y z P := by
  unfold wp_X8_put
  exact wp_isP (fun j hj e => br_f n1z (wp_win 6 (by decide) (by decide) (fun i hi e2 => absurd hb (fun c => c.elim (e ▸ no_bad hj (by decide)) (e2 ▸ no_bad hi (by decide)))) (fun _ => br_t rfl hP))) (fun _ => br_t rfl hP)
theorem md_put {p s : Nat} (h : MdS S0 S tg m bd A I) (hr : RA A I v hist sl pad) (hp : p < 12) (hs : s < 6) (hP : ∀ S' A' I', MdS S0 S' tg m bd A' I' → RA A' I' (setSh v p s) (pushH hist v) sl pad → P (nI (shF v p)) S') : wp_X8_put S m (nI p) (nI s) P := by
  unfold wp_X8_put
  refine wp_isP (fun _ _ _ => br_f n1z (wp_win 6 (by decide) (by decide) (fun _ _ _ => br_f n1z (rc_of h.ob (wp_record h hr (fun S1 A1 I1 h1 hr1 => ?_)))) (fun b => absurd b (no_bad hs (by decide))))) (fun b => absurd b (no_bad hp (by decide)))
  rw [nI_add]
  refine gR_of h1.ob rfl (md_st h1 (show 0 + p < 194 by omega) ((hr1.1 _ (by omega)).trans (stn_sh hp)) (gR_of h1.ob rfl (md_set h1 (show 0 + p < 194 by omega) (fun S2 h2 => ?_))))
  refine hP _ _ _ h2 (hr1.set fun k hk => upd_stn (hr1.1 k hk) ?_)
  rw [Nat.zero_add]; exact stn_setSh hp k
theorem md_tie_no1 {y z : Int32} (hb : bad y 6) (hP : P (-1) S) : wp_X8_tie S m y z P := wp_win 6 (by decide) (by decide) (fun j hj e => absurd (e ▸ hb) (no_bad hj (by decide))) (fun _ => br_t rfl hP)
theorem md_tie_no2 {p : Nat} {z : Int32} (hp : p < 6) (hb : bad z 64) (hP : P (-2) S) : wp_X8_tie S m (nI p) z P := wp_win 6 (by decide) (by decide) (fun _ _ _ => br_f n1z (wp_win 64 (by decide) (by decide) (fun j hj e => absurd (e ▸ hb) (no_bad hj (by decide))) (fun _ => br_t rfl hP))) (fun b => absurd b (no_bad hp (by decide)))
theorem md_tie {p s : Nat} (h : MdS S0 S tg m bd A I) (hr : RA A I v hist sl pad) (hv : okL v) (hp : p < 6) (hs : s < 64) (hP : ∀ S' A' I', MdS S0 S' tg m bd A' I' → RA A' I' (setTi v p s) (pushH hist v) sl pad → P (nI (fb_ct (ra (setTi v p s) p) 12)) S') : wp_X8_tie S m (nI p) (nI s) P := by
  refine wp_win 6 (by decide) (by decide) (fun _ _ _ => br_f n1z (wp_win 64 (by decide) (by decide) (fun _ _ _ => br_f n1z (rc_of h.ob (wp_record h hr (fun S1 A1 I1 h1 hr1 => ?_)))) (fun b => absurd b (no_bad hs (by decide))))) (fun b => absurd b (no_bad hp (by decide)))
  rw [nI_add]
  refine gR_of h1.ob rfl (md_set h1 (show 12 + p < 194 by omega) (fun S2 h2 => ?_))
  have hF : ∀ k, k < 194 → upd (A1 0) (12 + p) (nI s) k = stn (setTi v p s) k := fun k hk => upd_stn (hr1.1 k hk) (stn_setTi hp k)
  have hv2 : okL (setTi v p s) := ⟨hv.1, fun q hq => by
    show (if q = p then s else tiF v q) < 64
    split
    · exact hs
    · exact hv.2.1 q hq, hv.2.2⟩
  exact rc_of h2.ob (wp_raised h2 hF hv2 hp (wp_ones (hP _ _ _ h2 (hr1.set hF))))
theorem md_dye_no1 {y z : Int32} (hb : bad y 12) (hP : P (-1) S) : wp_X8_dye S m y z P := wp_isP (fun j hj e => absurd (e ▸ hb) (no_bad hj (by decide))) (fun _ => br_t rfl hP)
theorem md_dye_no2 {p : Nat} {z : Int32} (hp : p < 12) (hb : bad z 4) (hP : P (-2) S) : wp_X8_dye S m (nI p) z P := wp_isP (fun _ _ _ => br_f n1z (wp_win 4 (by decide) (by decide) (fun j hj e => absurd (e ▸ hb) (no_bad hj (by decide))) (fun _ => br_t rfl hP))) (fun b => absurd b (no_bad hp (by decide)))
theorem md_dye {p s : Nat} (h : MdS S0 S tg m bd A I) (hr : RA A I v hist sl pad) (hp : p < 12) (hs : s < 4) (hP : ∀ S' A' I', MdS S0 S' tg m bd A' I' → RA A' I' (setCo v p s) (pushH hist v) sl pad → P (nI (coF v p)) S') : wp_X8_dye S m (nI p) (nI s) P := by
  refine wp_isP (fun _ _ _ => br_f n1z (wp_win 4 (by decide) (by decide) (fun _ _ _ => br_f n1z (rc_of h.ob (wp_record h hr (fun S1 A1 I1 h1 hr1 => ?_)))) (fun b => absurd b (no_bad hs (by decide))))) (fun b => absurd b (no_bad hp (by decide)))
  rw [nI_add]
  refine gR_of h1.ob rfl (md_st h1 (show 30 + p < 194 by omega) ((hr1.1 _ (by omega)).trans (stn_co hp)) (gR_of h1.ob rfl (md_set h1 (show 30 + p < 194 by omega) (fun S2 h2 => ?_))))
  exact hP _ _ _ h2 (hr1.set fun k hk => upd_stn (hr1.1 k hk) (stn_setCo hp k))
/-! asks -/
theorem wp_raising (h : MdS S0 S tg m bd A I) (hA : ∀ k, k < 194 → A 0 k = stn v k) (hv : okL v) {p : Nat} (hp : p < 12) (hQ : Q (nI (bs (fun t => ra v t p) 6))) : wp_X8_raising S m (nI p) Q := by
  unfold wp_X8_raising
  refine wpL_for 6 (fun k x => x = nI (bs (fun t => ra v t p) k)) rfl ?_ ?_
  · intro x hx K
    show wpb_X8_raising_4 _ _ _ _ _ (nI 6) x
    unfold wpb_X8_raising_4
    exact br_t (nle_re 6) (by rw [hx]; exact hQ)
  · intro k x hk hx K hK
    show wpb_X8_raising_4 _ _ _ _ _ (nI k) x
    unfold wpb_X8_raising_4
    refine br_f (nle_ge hk (by decide)) (rc_of h.ob (wp_raised h hA hv hk ?_))
    rw [sr_bit (Nat.lt_trans (bs_lt _ 12) (by decide)) (by omega), bs_bit]
    cases e : ra v k p with
    | true =>
      refine br_t (by simp [hp]) (fun i21 e21 i22 e22 => ?_)
      rw [e22, nI_add, e21, hx, bs_put (P := fun t => ra v t p) (by omega) e]
      exact hK _ rfl
    | false =>
      refine br_f (by simp; exact n01) (fun i21 e21 i22 e22 => ?_)
      rw [e22, nI_add, e21, hx, or0, bs_no (P := fun t => ra v t p) e]
      exact hK _ rfl
theorem md_place_no {y z : Int32} (hb : bad y 12) (hQ : Q (-1)) : wp_X8_place S m y z Q := wp_isP (fun j hj e => absurd (e ▸ hb) (no_bad hj (by decide))) (fun _ => br_t rfl hQ)
theorem md_place (h : MdS S0 S tg m bd A I) (hA : ∀ k, k < 194 → A 0 k = stn v k) (hv : okL v) {p : Nat} (hp : p < 12) {x : Int32} (hn : x.toInt < 0 ∨ 3 < x.toInt → Q (-2)) (h0 : x.toInt = 0 → Q (nI (shF v p))) (h1 : x.toInt = 1 → Q (nI (thF v p))) (h2 : x.toInt = 2 → Q (nI (coF v (thF v p)))) (h3 : x.toInt = 3 → Q (nI (bs (fun t => ra v t p) 6))) : wp_X8_place S m (nI p) x Q := by
  refine wp_isP (fun _ _ _ => br_f n1z (gR_of h.ob rfl ?_)) (fun b => absurd b (no_bad hp (by decide)))
  have ht := hv.2.2.1.1 p hp
  rw [nI_add, nI_add]
  refine md_st h (show 18 + p < 194 by omega) ((hA _ (by omega)).trans (stn_th hp)) ⟨hn, fun e => ?_, h1, fun e => ?_, fun e => ?_⟩
  · exact gR_of h.ob rfl (md_st h (show 0 + p < 194 by omega) ((hA _ (by omega)).trans (stn_sh hp)) (h0 e))
  · rw [nI_add]
    exact gR_of h.ob rfl (md_st h (show 30 + thF v p < 194 by omega) ((hA _ (by omega)).trans (stn_co ht)) (h2 e))
  · exact rc_of h.ob (wp_raising h hA hv hp (h3 e))
theorem md_treadle_no {y z : Int32} (hb : bad y 6) (hQ : Q (-1)) : wp_X8_treadle S m y z Q := wp_win 6 (by decide) (by decide) (fun j hj e => absurd (e ▸ hb) (no_bad hj (by decide))) (fun _ => br_t rfl hQ)
theorem md_treadle (h : MdS S0 S tg m bd A I) (hA : ∀ k, k < 194 → A 0 k = stn v k) (hv : okL v) {t : Nat} (ht : t < 6) {x : Int32} (hn : bad x 2 → Q (-2)) (h0 : x = nI 0 → Q (nI (tiF v t))) (h1 : x = nI 1 → Q (nI (bs (ra v t) 12))) : wp_X8_treadle S m (nI t) x Q := by
  refine wp_win 6 (by decide) (by decide) (fun _ _ _ => br_f n1z (wp_win 2 (by decide) (by decide) (fun j hj e => br_f n1z ⟨fun c => ?_, fun c => ?_⟩) (fun b => br_t rfl (hn b)))) (fun b => absurd b (no_bad ht (by decide)))
  · refine gR_of h.ob rfl ?_
    rw [nI_add]
    exact md_st h (show 12 + t < 194 by omega) ((hA _ (by omega)).trans (stn_ti ht)) (h0 c)
  · refine rc_of h.ob (wp_raised h hA hv ht (h1 ?_))
    rcases (by omega : j = 0 ∨ j = 1) with z | z
    · rw [z] at e; exact absurd e c
    · rw [e, z]
end MP
