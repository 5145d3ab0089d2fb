/-! ===== the calls of the class that change nothing ===== -/
def wy (v : LM) (d : Nat) : Nat → Nat := wyl v (drF v d)
theorem pmWy (v : LM) (d : Nat) : PM (wy v d) := pmWyl v _
def eqW (a b : Nat → Nat) : Bool := (List.range 12).all (fun p => a p == b p)
theorem eqW_iff {a b : Nat → Nat} : eqW a b = true ↔ ∀ p, p < 12 → a p = b p := by
  unfold eqW
  rw [List.all_eq_true]
  exact ⟨fun h p hp => by simpa using h p (List.mem_range.mpr hp), fun h p hp => by simpa using h p (List.mem_range.mp hp)⟩
def b2 (b : Bool) : Nat := if b then 1 else 0
def krn (v : LM) (s k p : Nat) : Bool := (List.range k).all (fun d => !s.testBit d || (wy v d p == p))
noncomputable def hmD (v : LM) (d : Nat) : Nat := fb_ct (fun p => mv (thF v) (wy v d) p == p) 12
noncomputable def bst (v : LM) : Nat → Int32 × Nat
  | 0 => (-1, 0)
  | n + 1 => if nI (hmD v n) ≤ (bst v n).1 then bst v n else (nI (hmD v n), n)
section ASKS
variable {S S' : PS} {tg tg' : Nat → Nat × Nat} {x : Nat} {ad : Nat → Nat} {f g : Nat → Option Nat} {v : LM} {hist : List LM} {sl : Nat → Option LM} {pad : List Nat} {P : Int32 → Prop}
theorem tk_place_no {y z : Int32} (hb : bad y 12) (h : P (-1)) : wp_X7_place S x y z P := by
  unfold wp_X7_place
  exact wp_below_f (by decide) hb (br_t rfl h)
theorem tk_place (h : TkF S tg x ad f g v hist sl pad) {p : Nat} (hp : p < 12) {w : Int32} (hn : w.toInt < 0 ∨ 3 < w.toInt → P (-2)) (h0 : w.toInt = 0 → P (nI (shF v p))) (h1 : w.toInt = 1 → P (nI (thF v p))) (h2 : w.toInt = 2 → P (nI (cbp v p))) (h3 : w.toInt = 3 → P (nI (bs (fun t => ra v t p) 6))) : wp_X7_place S x (nI p) w P := by
  have hx := h.2.1
  have hl := h.2.2.2.1
  obtain ⟨okv, t, d, xs, ys, hX⟩ := h.2.2.2.1
  unfold wp_X7_place
  refine wp_below_t (by decide) hp (br_f n1z ⟨hn, fun e => ?_, fun e => ?_, fun e => ?_, fun e => ?_⟩)
  · exact gR_of hx rfl (gJ_of hX.1 rfl (wp_at (en16 (by decide) okv.1) hp (h0 e)))
  · exact gR_of hx rfl (gJ_of hX.1 rfl (wp_at okv.2.2.1.lt16 hp (h1 e)))
  · exact gR_of hx rfl (rc_of hX.1 (wp_coloursByPlace hl (wp_at (fun q hq => Nat.lt_trans (okv.2.2.2.1 _ (okv.2.2.1.1 q hq)) (by decide)) hp (h2 e))))
  · exact gR_of hx rfl (rc_of hX.1 (wp_treadlesRaising hl hp (h3 e)))
theorem tk_treadle_no {y z : Int32} (hb : bad y 6) (h : P (-1)) : wp_X7_treadle S x y z P := by
  unfold wp_X7_treadle
  exact wp_below_f (by decide) hb (br_t rfl h)
theorem tk_treadle (h : TkF S tg x ad f g v hist sl pad) {t : Nat} (ht : t < 6) {w : Int32} (hn : w.toInt < 0 ∨ 1 < w.toInt → P (-2)) (h0 : w.toInt = 0 → P (nI (tiF v t))) (h1 : w.toInt = 1 → P (nI (bs (ra v t) 12))) : wp_X7_treadle S x (nI t) w P := by
  have hx := h.2.1
  have hl := h.2.2.2.1
  obtain ⟨okv, t0, d, xs, ys, hX⟩ := h.2.2.2.1
  obtain ⟨F, hF, hF'⟩ := hX.2.1
  unfold wp_X7_treadle
  refine wp_below_t (by decide) ht (br_f n1z ⟨hn, fun e => ?_, fun e => ?_⟩)
  · refine gR_of hx rfl (gR_of hX.1 rfl (lI_of hF ht (by decide) ?_))
    rw [hF' t ht]; exact h0 e
  · exact gR_of hx rfl (rc_of hX.1 (wp_raisedBy hl ht (h1 e)))
theorem tk_draft_no (h : TkF S tg x ad f g v hist sl pad) {y z : Int32} (hb : bad y 6) (hP : P (-1)) : wp_X7_draft S x y z P := by
  unfold wp_X7_draft
  obtain ⟨fs, e⟩ := h.2.2.2.1.at
  exact gR_of h.2.1 rfl (rc_of e (wp_draftAt_no hb ⟨fun _ => hP, fun _ c => (by cases c)⟩))
theorem tk_draft (h : TkF S tg x ad f g v hist sl pad) {d : Nat} (hd : d < 6) {w : Int32} (hn : w.toInt < 0 ∨ 6 < w.toInt → P (-2)) (h0 : w.toInt = 0 → P (nI (drF v d).length)) (h1 : w.toInt = 1 → P (nI (tua (fun p => p) (wy v d)))) (h2 : w.toInt = 2 → P (nI (bs (fun p => wy v d p == p) 12))) (h3 : w.toInt = 3 → P (nI (cys (wy v d)))) (h4 : w.toInt = 4 → P (nI (lng (wy v d)))) (h5 : w.toInt = 5 → P (nI (crs (wy v d)))) (h6 : w.toInt = 6 → P (nI (tua (cbp v) (wy v d)))) : wp_X7_draft S x (nI d) w P := by
  have hx := h.2.1
  have hl := h.2.2.2.1
  obtain ⟨okv, t0, d0, xs, ys, hX⟩ := h.2.2.2.1
  have hw := pmWy v d
  unfold wp_X7_draft
  refine gR_of hx rfl (rc_of hX.1 (wp_draftAt hl hd (fun a b hab _ _ => ⟨fun c => (by cases c), fun a6 e6 => ?_⟩)))
  cases e6
  refine gR_of hx rfl (rc_of hX.1 (wp_wayOf hl hd ⟨hn, fun e => ?_, fun e => ?_, fun e => ?_, fun e => ?_, fun e => ?_, fun e => ?_, fun e => ?_⟩))
  · exact gI_of hab.1 rfl (h0 e)
  · rw [home_en]; exact wp_tua' (fun p hp => Nat.lt_trans hp (by decide)) hw (h1 e)
  · rw [home_en]; exact wp_alike hw.lt16 (fun p hp => Nat.lt_trans hp (by decide)) (h2 e)
  · exact wp_cycles hw (h3 e)
  · exact wp_longest hw (h4 e)
  · exact wp_crossings hw (h5 e)
  · exact gR_of hx rfl (rc_of hX.1 (wp_coloursByPlace hl (wp_tua' (fun q hq => Nat.lt_trans (okv.2.2.2.1 _ (okv.2.2.1.1 q hq)) (by decide)) hw (h6 e))))
theorem tk_press_no1 (h : TkF S tg x ad f g v hist sl pad) {y z : Int32} (hb : bad y 6) (hP : P (-1)) : wp_X7_press S x y z P := by
  unfold wp_X7_press
  obtain ⟨fs, e⟩ := h.2.2.2.1.at
  exact gR_of h.2.1 rfl (rc_of e (wp_draftAt_no hb ⟨fun _ => hP, fun _ c => (by cases c)⟩))
theorem tk_press_no2 (h : TkF S tg x ad f g v hist sl pad) {d : Nat} (hd : d < 6) {z : Int32} (hb : bad z (drF v d).length) (hP : P (-1)) : wp_X7_press S x (nI d) z P := by
  have hl := h.2.2.2.1
  have h24 := (hl.1.2.2.2.2 d hd).1
  unfold wp_X7_press
  obtain ⟨fs, e⟩ := h.2.2.2.1.at
  refine gR_of h.2.1 rfl (rc_of e (wp_draftAt hl hd (fun a b hab _ _ => ⟨fun c => (by cases c), fun a6 e6 => ?_⟩)))
  cases e6
  exact gI_of hab.1 rfl (wp_below_f (by omega) hb (br_t rfl hP))
theorem tk_press (h : TkF S tg x ad f g v hist sl pad) {d k : Nat} (hd : d < 6) (hk : k < (drF v d).length) (hP : P (nI ((drF v d).getD k 0))) : wp_X7_press S x (nI d) (nI k) P := by
  have hl := h.2.2.2.1
  have h24 := hl.1.2.2.2.2 d hd
  have h25 := h24.1
  unfold wp_X7_press
  obtain ⟨fs, e⟩ := h.2.2.2.1.at
  refine gR_of h.2.1 rfl (rc_of e (wp_draftAt hl hd (fun a b hab _ _ => ⟨fun c => (by cases c), fun a6 e6 => ?_⟩)))
  cases e6
  exact gI_of hab.1 rfl (wp_below_t (by omega) hk (br_f n1z (rc_of hab.1 (wp_pressAt h24 hab hk hP))))
theorem tk_comesTo_no1 {y z w : Int32} (hb : bad y 6 ∨ bad z 12) (hP : P (-1)) : wp_X7_comesTo S x y z w P := by
  unfold wp_X7_comesTo
  by_cases q : bad y 6
  · exact wp_below_f (by decide) q (br_t rfl hP)
  · refine wp_below (by decide) (fun j hj e => br_f n1z ?_) (fun c => absurd c q)
    exact wp_below_f (by decide) (hb.resolve_left q) (br_t rfl hP)
theorem tk_comesTo_no2 {d p : Nat} (hd : d < 6) (hp : p < 12) {w : Int32} (hb : w < 0 ∨ ¬ w ≤ nI 1000000) (hP : P (-2)) : wp_X7_comesTo S x (nI d) (nI p) w P := by
  unfold wp_X7_comesTo
  exact wp_below_t (by decide) hd (br_f n1z (wp_below_t (by decide) hp (br_f n1z (br_c (fun _ => hP) (fun c => br_f (hb.resolve_left c) hP)))))
theorem tk_comesTo (h : TkF S tg x ad f g v hist sl pad) {d p t : Nat} (hd : d < 6) (hp : p < 12) (ht : t ≤ 1000000) (hP : P (nI (itr (wy v d) t p))) : wp_X7_comesTo S x (nI d) (nI p) (nI t) P := by
  have hl := h.2.2.2.1
  unfold wp_X7_comesTo
  obtain ⟨fs, e⟩ := h.2.2.2.1.at
  exact wp_below_t (by decide) hd (br_f n1z (wp_below_t (by decide) hp (br_f n1z (br_f (nI_pos (by omega)) (br_t (nI_le ht (by decide)) (gR_of h.2.1 rfl (rc_of e (wp_wayOf hl hd (wp_power (pmWy v d) ht (wp_at ((pmWy v d).it t).lt16 hp hP))))))))))
theorem tk_count (h : TkF S tg x ad f g v hist sl pad) {w : Int32} (hn : w.toInt < 0 ∨ 6 < w.toInt → P (-2)) (h0 : w.toInt = 0 → P (nI (hom v))) (h1 : w.toInt = 1 → P (pdF v)) (h2 : w.toInt = 2 → P (pkF v)) (h3 : w.toInt = 3 → P (nI (bs (nvr v 6) 12))) (h4 : w.toInt = 4 → P (nI (bs (fun d => decide (0 < (drF v d).length)) 6))) (h5 : w.toInt = 5 → P (nI pad.length)) (h6 : w.toInt = 6 → P (nI hist.length)) : wp_X7_count S x w P := by
  have hx := h.2.1
  have hl := h.2.2.2.1
  obtain ⟨okv, t0, d0, xs, ys, hX⟩ := h.2.2.2.1
  unfold wp_X7_count
  refine ⟨hn, fun e => ?_, fun e => ?_, fun e => ?_, fun e => ?_, fun e => ?_, fun e => ?_, fun e => ?_⟩
  · exact gR_of hx rfl (gJ_of hX.1 rfl (wp_staying okv.2.2.1.lt16 (h0 e)))
  · exact gR_of hx rfl (gI_of hX.1 rfl (h1 e))
  · exact gR_of hx rfl (gI_of hX.1 rfl (h2 e))
  · exact gR_of hx rfl (rc_of hX.1 (wp_neverRaised hl (h3 e)))
  · exact gR_of hx rfl (rc_of hX.1 (wp_draftsWithPresses hl (h4 e)))
  · exact gR_of hx rfl (gI_of h.2.2.2.2.2.2.2.1.1 rfl (h5 e))
  · exact gR_of hx rfl (gI_of h.2.2.1.1 rfl (h6 e))
theorem tk_kernel_no {y : Int32} (hb : bad y 64) (h : P (-2)) : wp_X7_kernel S x y P := by
  unfold wp_X7_kernel
  exact wp_below_f (by decide) hb (br_t rfl h)
theorem tk_kernel (h : TkF S tg x ad f g v hist sl pad) {s : Nat} (hs : s < 64) (hP : P (nI (bs (krn v s 6) 12))) : wp_X7_kernel S x (nI s) P := by
  have hx := h.2.1
  have hl := h.2.2.2.1
  obtain ⟨fs, e0⟩ := hl.at
  unfold wp_X7_kernel
  refine wp_below_t (by decide) hs (br_f n1z ?_)
  refine wpL_for 6 (fun k y => y = nI (bs (krn v s k) 12)) all12 ?_ ?_
  · intro y hy K
    show wpb_X7_kernel_18 _ _ _ _ _ (nI 6) y
    unfold wpb_X7_kernel_18
    rw [hy]
    exact br_t (nle_re 6) hP
  · intro k y hk hy K hK
    show wpb_X7_kernel_18 _ _ _ _ _ (nI k) y
    unfold wpb_X7_kernel_18
    have hsn : ∀ p, krn v s (k + 1) p = (krn v s k p && (!s.testBit k || (wy v k p == p))) := fun p => by
      unfold krn
      rw [List.range_succ, List.all_append]
      simp
    refine br_f (nle_ge hk (by decide)) (wp_hasBit (by omega) (by omega) (fun b => br_f n1z ?_) (fun b => br_t rfl ?_))
    · refine gR_of hx rfl (rc_of e0 (wp_wayOf hl hk ?_))
      rw [home_en]
      refine wp_alike (pmWy v k).lt16 (fun p hp => Nat.lt_trans hp (by decide)) ?_
      intro i16 e16 i17 e17
      rw [e17, nI_add, e16, hy]
      refine hK _ ?_
      rw [bs_and]
      refine congrArg nI (bs_ext fun p hp => ?_)
      rw [hsn p, b]
      rfl
    · intro i e
      rw [e, nI_add, hy]
      refine hK _ (congrArg nI (bs_ext fun p hp => ?_))
      rw [hsn p, b]
      simp
theorem tk_pair_no1 {y z w : Int32} (hb : bad y 6 ∨ bad z 6) (hP : P (-1)) : wp_X7_pair S x y z w P := by
  unfold wp_X7_pair
  by_cases q : bad y 6
  · exact wp_below_f (by decide) q (br_t rfl hP)
  · refine wp_below (by decide) (fun j hj e => br_f n1z ?_) (fun c => absurd c q)
    exact wp_below_f (by decide) (hb.resolve_left q) (br_t rfl hP)
theorem wp_asN {a b : Nat → Nat} (ha : ∀ p, p < 12 → a p < 16) (hb : ∀ p, p < 12 → b p < 16) (h : P (nI (b2 (eqW a b)))) : ((lg_cmp (en a) (en b)) = 0 → wp_X7_asNumber (nI 1) (fun i20 => P i20)) ∧ (¬ (lg_cmp (en a) (en b)) = 0 → wp_X7_asNumber (nI 0) (fun i19 => P i19)) := by
  rw [lg0, en_eq ha hb, ← eqW_iff]
  unfold wp_X7_asNumber
  refine br_c (fun c => br_f n1z ?_) (fun c => br_t rfl ?_)
  · rw [c] at h; exact h
  · have c : eqW a b = false := by cases e : eqW a b with
      | false => rfl
      | true => exact absurd e c
    rw [c] at h; exact h
theorem tk_pair (h : TkF S tg x ad f g v hist sl pad) {d e : Nat} (hd : d < 6) (he : e < 6) {w : Int32} (hn : w.toInt < 0 ∨ 3 < w.toInt → P (-2)) (h0 : w.toInt = 0 → P (nI (b2 (eqW (wy v d) (wy v e))))) (h1 : w.toInt = 1 → P (nI (b2 (eqW (fun p => wy v e (wy v d p)) (fun p => wy v d (wy v e p)))))) (h2 : w.toInt = 2 → P (nI (b2 (eqW (fun p => wy v e (wy v d p)) (fun p => p))))) (h3 : w.toInt = 3 → P (nI (bs (fun p => !(wy v d p == wy v e p)) 12))) : wp_X7_pair S x (nI d) (nI e) w P := by
  have hx := h.2.1
  have hl := h.2.2.2.1
  obtain ⟨fs, e0⟩ := hl.at
  have hw := pmWy v d
  have hu := pmWy v e
  unfold wp_X7_pair
  refine wp_below_t (by decide) hd (br_f n1z (wp_below_t (by decide) he (br_f n1z (gR_of hx rfl (rc_of e0 (wp_wayOf hl hd (gR_of hx rfl (rc_of e0 (wp_wayOf hl he ⟨hn, fun c => ?_, fun c => ?_, fun c => ?_, fun c => ?_⟩)))))))))
  · exact wp_asN hw.lt16 hu.lt16 (h0 c)
  · exact wp_then hw.1 hu.lt16 (wp_then hu.1 hw.lt16 (wp_asN (PM.cmp hw hu).lt16 (PM.cmp hu hw).lt16 (h1 c)))
  · refine wp_then hw.1 hu.lt16 ?_
    rw [home_en]
    exact wp_asN (PM.cmp hw hu).lt16 (fun p hp => Nat.lt_trans hp (by decide)) (h2 c)
  · refine wp_alike hw.lt16 hu.lt16 ?_
    rw [all12, bs_andn]
    refine fa_post (congrArg nI (bs_ext fun p hp => ?_)) (h3 c)
    simp
    rfl
def UH (w th : Nat → Nat) (t : Nat) : Prop := ∀ p, p < 12 → itr w t p = th p
theorem mv_home {th w : Nat → Nat} (hw : PM w) (ht : ∀ p, p < 12 → th p < 12) (k : Nat) : en (mv th (itr w k)) = en (fun p => p) ↔ UH w th k := by
  rw [en_eq (mv_lt (fun p hp => Nat.lt_trans (ht p hp) (by decide)) (hw.it k)) (fun p hp => Nat.lt_trans hp (by decide))]
  constructor
  · intro h p hp
    have := h (itr w k p) ((hw.it k).1 p hp)
    rw [mv_at (hw.it k) hp] at this
    exact this.symm
  · intro h q hq
    obtain ⟨p, hp, e⟩ := (hw.it k).onto hq
    rw [← e, mv_at (hw.it k) hp, h p hp]
theorem tk_untilHome_no {y : Int32} (hb : bad y 6) (hP : P (-1)) : wp_X7_untilHome S x y P := by
  unfold wp_X7_untilHome
  exact wp_below_f (by decide) hb (br_t rfl hP)
theorem tk_untilHome (h : TkF S tg x ad f g v hist sl pad) {d t : Nat} (hd : d < 6) (ht : t < 60) (hU : UH (wy v d) (thF v) t) (hm : ∀ j, j < t → ¬ UH (wy v d) (thF v) j) (hP : P (nI t)) : wp_X7_untilHome S x (nI d) P := by
  have hx := h.2.1
  have hl := h.2.2.2.1
  obtain ⟨okv, t0, d0, xs, ys, hX⟩ := h.2.2.2.1
  have hw := pmWy v d
  unfold wp_X7_untilHome
  refine wp_below_t (by decide) hd (br_f n1z (gR_of hx rfl (rc_of hX.1 (wp_wayOf hl hd (gR_of hx rfl (gJ_of hX.1 rfl ?_))))))
  refine wpL_for t (fun k y => y = en (mv (thF v) (itr (wy v d) k))) (en_ext fun q hq => (mv_at (f := thF v) PM.id hq).symm) ?_ ?_
  · intro y hy K
    show wpb_X7_untilHome_32 _ _ _ (nI t) y
    unfold wpb_X7_untilHome_32
    refine br_f (nle_ge ht (by decide)) (br_t ?_ hP)
    rw [hy, home_en, lg0, mv_home hw okv.2.2.1.1]; exact hU
  · intro k y hk hy K hK
    show wpb_X7_untilHome_32 _ _ _ (nI k) y
    unfold wpb_X7_untilHome_32
    refine br_f (nle_ge (show k < 60 by omega) (by decide)) (br_f ?_ ?_)
    · rw [hy, home_en, lg0, mv_home hw okv.2.2.1.1]; exact hm k hk
    · rw [hy]
      refine wp_moved (mv_lt okv.2.2.1.lt16 (hw.it k)) hw ?_
      intro i e
      rw [e, nI_add]
      exact hK _ (en_ext fun q hq => mv_mv (hw.it k) hw hq)
theorem tk_untilHome_none (h : TkF S tg x ad f g v hist sl pad) {d : Nat} (hd : d < 6) (hm : ∀ j, j < 60 → ¬ UH (wy v d) (thF v) j) (hP : P (-6)) : wp_X7_untilHome S x (nI d) P := by
  have hx := h.2.1
  have hl := h.2.2.2.1
  obtain ⟨okv, t0, d0, xs, ys, hX⟩ := h.2.2.2.1
  have hw := pmWy v d
  unfold wp_X7_untilHome
  refine wp_below_t (by decide) hd (br_f n1z (gR_of hx rfl (rc_of hX.1 (wp_wayOf hl hd (gR_of hx rfl (gJ_of hX.1 rfl ?_))))))
  refine wpL_for 60 (fun k y => y = en (mv (thF v) (itr (wy v d) k))) (en_ext fun q hq => (mv_at (f := thF v) PM.id hq).symm) ?_ ?_
  · intro y hy K
    show wpb_X7_untilHome_32 _ _ _ (nI 60) y
    unfold wpb_X7_untilHome_32
    exact br_t (nle_re 60) hP
  · intro k y hk hy K hK
    show wpb_X7_untilHome_32 _ _ _ (nI k) y
    unfold wpb_X7_untilHome_32
    refine br_f (nle_ge hk (by decide)) (br_f ?_ ?_)
    · rw [hy, home_en, lg0, mv_home hw okv.2.2.1.1]; exact hm k hk
    · rw [hy]
      refine wp_moved (mv_lt okv.2.2.1.lt16 (hw.it k)) hw ?_
      intro i e
      rw [e, nI_add]
      exact hK _ (en_ext fun q hq => mv_mv (hw.it k) hw hq)
theorem tk_best_no {y : Int32} (h0 : ¬ y = 0) (h1 : ¬ y = nI 1) (hP : P (-2)) : wp_X7_bestDraft S x y P := by
  unfold wp_X7_bestDraft
  exact br_f h0 (br_f h1 hP)
theorem tk_best_aux (B : Nat → Int32 × Nat) (hB0 : B 0 = (-1, 0)) (hBs : ∀ n, B (n + 1) = if nI (hmD v n) ≤ (B n).1 then B n else (nI (hmD v n), n)) (h : TkF S tg x ad f g v hist sl pad) {y : Int32} (hy : y = 0 ∨ y = nI 1) (h0 : y = 0 → P (nI (B 6).2)) (h1 : ¬ y = 0 → P (B 6).1) : wp_X7_bestDraft S x y P := by
  have hx := h.2.1
  have hl := h.2.2.2.1
  obtain ⟨okv, t0, d0, xs, ys, hX⟩ := h.2.2.2.1
  have key : wpk_X7_bestDraft_12 S x y P := by
    unfold wpk_X7_bestDraft_12
    refine wpL_for 6 (fun k q => q = ((B k).1, nI (B k).2)) (by rw [hB0]) ?_ ?_
    · intro q hq K
      rw [hq]
      show wpb_X7_bestDraft_19 _ _ _ _ _ (nI 6) (B 6).1 (nI (B 6).2)
      unfold wpb_X7_bestDraft_19
      exact br_t (nle_re 6) ⟨h0, h1⟩
    · intro k q hk hq K hK
      rw [hq]
      show wpb_X7_bestDraft_19 _ _ _ _ _ (nI k) (B k).1 (nI (B k).2)
      unfold wpb_X7_bestDraft_19
      have hw := pmWy v k
      refine br_f (nle_ge hk (by decide)) (gR_of hx rfl (gJ_of hX.1 rfl (gR_of hx rfl (rc_of hX.1 (wp_wayOf hl hk (wp_moved okv.2.2.1.lt16 hw (wp_staying (mv_lt okv.2.2.1.lt16 hw) ?_)))))))
      have hb := hBs k
      refine br_c (fun c => ?_) (fun c => ?_)
      · intro i e
        rw [e, nI_add]
        refine hK _ ?_
        have c : nI (hmD v k) ≤ (B k).1 := c
        rw [hb, if_pos c]
      · intro i e
        rw [e, nI_add]
        refine hK _ ?_
        have c : ¬ nI (hmD v k) ≤ (B k).1 := c
        rw [hb, if_neg c]
        rfl
  unfold wp_X7_bestDraft
  exact br_c (fun _ => key) (fun c => br_t (hy.resolve_left c) key)
theorem tk_best (h : TkF S tg x ad f g v hist sl pad) {y : Int32} (hy : y = 0 ∨ y = nI 1) (h0 : y = 0 → P (nI (bst v 6).2)) (h1 : ¬ y = 0 → P (bst v 6).1) : wp_X7_bestDraft S x y P := tk_best_aux (bst v) rfl (fun _ => rfl) h hy h0 h1
end ASKS
