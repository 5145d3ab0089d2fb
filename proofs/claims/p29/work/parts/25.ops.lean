/-! ===== the calls of the class, on its heap ===== -/
def setSh (v : LM) (p s : Nat) : LM := ((fun q => if q = p then s else shF v q), v.2)
def setTi (v : LM) (t s : Nat) : LM := (v.1, (fun q => if q = t then s else tiF v q), v.2.2)
def setCo (v : LM) (c n : Nat) : LM := (v.1, v.2.1, v.2.2.1, (fun q => if q = c then n else coF v q), v.2.2.2.2)
def setDr (v : LM) (d : Nat) (l : List Nat) : LM := (v.1, v.2.1, v.2.2.1, v.2.2.2.1, (fun q => if q = d then l else drF v q), v.2.2.2.2.2)
noncomputable def wvn (v : LM) (d t : Nat) : LM := (v.1, v.2.1, mv (thF v) (itr (wyl v (drF v d)) t), v.2.2.2.1, v.2.2.2.2.1, pdF v + nI (drF v d).length * nI t, pkF v + nI t)
def hom (v : LM) : Nat := fb_ct (fun p => thF v p == p) 12
theorem pne {a b i j : Nat} (h : i ≠ j) : ((a, i) : Nat × Nat) ≠ (b, j) := fun e => h (congrArg Prod.snd e)
section OPS
variable {S S' : PS} {tg tg' : Nat → Nat × Nat} {x : Nat} {ad : Nat → Nat} {f g : Nat → Option Nat} {v : LM} {hist : List LM} {sl : Nat → Option LM} {pad : List Nat} {a t d : Nat} {xs ys : Nat → Nat}
theorem LmX.obj {v' : LM} (h : LmX S tg a v t d xs ys) (ok : okL v') (e1 : tiF v' = tiF v) (e2 : drF v' = drF v) (ha : S' a = .inl (1, [.long (en (shF v')), .long (en (thF v')), .long (en (coF v')), .ref t, .ref d, .int (pdF v'), .int (pkF v')])) (hS : ∀ b, b ≠ a → S' b = S b) : LmAt S' tg a v' := by
  obtain ⟨h1, ⟨f, h2, h2'⟩, ⟨g, h3, h3'⟩, h4, h5, h6, h7, h8⟩ := h
  refine ⟨ok, t, d, xs, ys, ha, ⟨f, by rw [hS t (tne h6 h5 (by simp))]; exact h2, by rw [e1]; exact h2'⟩, ⟨g, by rw [hS d (tne h7 h5 (by simp))]; exact h3, h3'⟩, fun i hi => ?_, h5, h6, h7, h8⟩
  obtain ⟨k1, f2, k2, k3⟩ := h4 i hi
  rw [e2]
  refine ⟨by rw [hS _ (tne (h8 i hi).1 h5 (pne (by omega)))]; exact k1, f2, by rw [hS _ (tne (h8 i hi).2 h5 (pne (by omega)))]; exact k2, k3⟩
theorem LmX.tie {k s : Nat} (h : LmX S tg a v t d xs ys) (okv : okL v) (hs : s < 64) {F : Nat → Int32} (hF : S t = aI 6 F) (hF' : ∀ k, k < 6 → F k = nI (tiF v k)) : LmAt (va_up S t (aI 6 (upd F k (nI s)))) tg a (setTi v k s) := by
  obtain ⟨h1, ⟨f, h2, h2'⟩, ⟨g, h3, h3'⟩, h4, h5, h6, h7, h8⟩ := h
  obtain ⟨v1, v2, v3, v4, v5⟩ := okv
  refine ⟨⟨v1, fun q hq => ?_, v3, v4, v5⟩, t, d, xs, ys, by rw [up_n (tne h5 h6 (by simp))]; exact h1, ⟨upd F k (nI s), up_s _ _ _, fun q hq => ?_⟩, ⟨g, by rw [up_n (tne h7 h6 (by simp))]; exact h3, h3'⟩, fun i hi => ?_, h5, h6, h7, h8⟩
  · show (if q = k then s else tiF v q) < 64
    split
    · exact hs
    · exact v2 q hq
  · show upd F k (nI s) q = nI (if q = k then s else tiF v q)
    by_cases z : q = k
    · subst z; rw [pk_us, if_pos rfl]
    · rw [pk_un z, if_neg z]; exact hF' q hq
  · obtain ⟨k1, f2, k2, k3⟩ := h4 i hi
    exact ⟨by rw [up_n (tne (h8 i hi).1 h6 (pne (by omega)))]; exact k1, f2, by rw [up_n (tne (h8 i hi).2 h6 (pne (by omega)))]; exact k2, k3⟩
theorem LmX.draft {e : Nat} {l : List Nat} (h : LmX S tg a v t d xs ys) (okv : okL v) (he : e < 6) (hl : okP l) (hd : DrAt S' (xs e) (ys e) l) (hS : ∀ b, b ≠ xs e → b ≠ ys e → S' b = S b) : LmAt S' tg a (setDr v e l) := by
  obtain ⟨h1, ⟨f, h2, h2'⟩, ⟨g, h3, h3'⟩, h4, h5, h6, h7, h8⟩ := h
  obtain ⟨v1, v2, v3, v4, v5⟩ := okv
  have ne : ∀ {b i : Nat}, tg b = (a, i) → i ≠ 3 + e → i ≠ 9 + e → S' b = S b := fun hb n1 n2 => hS _ (tne hb (h8 e he).1 (by intro h; exact n1 (congrArg Prod.snd h))) (tne hb (h8 e he).2 (by intro h; exact n2 (congrArg Prod.snd h)))
  refine ⟨⟨v1, v2, v3, v4, fun q hq => ?_⟩, t, d, xs, ys, by rw [ne h5 (by omega) (by omega)]; exact h1, ⟨f, by rw [ne h6 (by omega) (by omega)]; exact h2, h2'⟩, ⟨g, by rw [ne h7 (by omega) (by omega)]; exact h3, h3'⟩, fun i hi => ?_, h5, h6, h7, h8⟩
  · show okP (if q = e then l else drF v q)
    split
    · exact hl
    · exact v5 q hq
  · show DrAt S' (xs i) (ys i) (if i = e then l else drF v i)
    by_cases z : i = e
    · subst z; rw [if_pos rfl]; exact hd
    · rw [if_neg z]
      obtain ⟨k1, f2, k2, k3⟩ := h4 i hi
      exact ⟨by rw [ne (h8 i hi).1 (by omega) (by omega)]; exact k1, f2, by rw [ne (h8 i hi).2 (by omega) (by omega)]; exact k2, k3⟩
theorem m1z : ¬ (-1 : Int32) = 0 := by decide
def bad (z : Int32) (n : Nat) : Prop := z < 0 ∨ nI n ≤ z
theorem wp_below_f {z : Int32} {n : Nat} {Post : Int32 → Prop} (hn : n < 1000000) (hz : bad z n) (h : Post (nI 0)) : wp_X7_isBelow z (nI n) Post := wp_below hn (fun j hj e => by
  subst e
  rcases hz with q | q
  · exact absurd q (nI_pos (by omega))
  · exact absurd q (nI_ge hj (by omega))) (fun _ => h)
theorem tk_put_no {y z : Int32} {P : Int32 → PS → Prop} (hb : bad y 12 ∨ bad z 6) (h : P (-1) S) : wp_X7_put S x y z P := by
  unfold wp_X7_put
  by_cases q : bad y 12
  · exact wp_below_f (by decide) q (br_t rfl h)
  · refine wp_below (by decide) (fun j hj e => br_f n1z ?_) (fun c => absurd c q)
    exact wp_below_f (by decide) (hb.resolve_left q) (br_t rfl h)
theorem tk_put (h : TkF S tg x ad f g v hist sl pad) {p s : Nat} (hp : p < 12) (hs : s < 6) {P : Int32 → PS → Prop} (hP : ∀ S' tg' f', TkF S' tg' x ad f' g (setSh v p s) (pushH hist v) sl pad → CK 40 S tg S' tg' → P (nI (shF v p)) S') : wp_X7_put S x (nI p) (nI s) P := by
  have hx := h.2.1
  unfold wp_X7_put
  refine wp_below_t (by decide) hp (br_f n1z (wp_below_t (by decide) hs (br_f n1z (gR_of hx rfl (gR_of hx rfl (rc_of h.2.2.1.1 (wp_keep h (fun S1 tg1 f1 h1 c1 l1 => ?_))))))))
  have hx1 := h1.2.1
  obtain ⟨okv, t, d, xs, ys, hX⟩ := h1.2.2.2.1
  have s16 := en16 (n := 6) (by decide) okv.1
  refine gR_of hx1 rfl (gJ_of hX.1 rfl (wp_at s16 hp (gR_of hx1 rfl (gR_of hx1 rfl (gJ_of hX.1 rfl (wp_with s16 hp (by omega) (pF_of hX.1 (Nat.le_of_ble_eq_true rfl) _ rfl ?_)))))))
  refine hP _ tg1 f1 (h1.lm0 (fun b hb => up_n (fun e => hb ⟨0, by decide, by rw [e]; exact hX.2.2.2.2.1⟩)) (hX.obj (v' := setSh v p s) ⟨fun q hq => ?_, okv.2⟩ rfl rfl (up_s _ _ _) (fun b hb => up_n hb))) ((c1.wk (by decide)).tr (CK.up (h1.role 0 (by decide))))
  show (if q = p then s else shF v q) < 6
  split
  · exact hs
  · exact okv.1 q hq
theorem tk_dye_no1 {y z : Int32} {P : Int32 → PS → Prop} (hb : bad y 12) (h : P (-1) S) : wp_X7_dye S x y z P := by
  unfold wp_X7_dye
  exact wp_below_f (by decide) hb (br_t rfl h)
theorem tk_dye_no2 {p : Nat} {z : Int32} {P : Int32 → PS → Prop} (hp : p < 12) (hb : bad z 4) (h : P (-2) S) : wp_X7_dye S x (nI p) z P := by
  unfold wp_X7_dye
  exact wp_below_t (by decide) hp (br_f n1z (wp_below_f (by decide) hb (br_t rfl h)))
theorem tk_dye (h : TkF S tg x ad f g v hist sl pad) {p s : Nat} (hp : p < 12) (hs : s < 4) {P : Int32 → PS → Prop} (hP : ∀ S' tg' f', TkF S' tg' x ad f' g (setCo v p s) (pushH hist v) sl pad → CK 40 S tg S' tg' → P (nI (coF v p)) S') : wp_X7_dye S x (nI p) (nI s) P := by
  have hx := h.2.1
  unfold wp_X7_dye
  refine wp_below_t (by decide) hp (br_f n1z (wp_below_t (by decide) hs (br_f n1z (gR_of hx rfl (gR_of hx rfl (rc_of h.2.2.1.1 (wp_keep h (fun S1 tg1 f1 h1 c1 l1 => ?_))))))))
  have hx1 := h1.2.1
  obtain ⟨okv, t, d, xs, ys, hX⟩ := h1.2.2.2.1
  have s16 := en16 (n := 4) (by decide) okv.2.2.2.1
  refine gR_of hx1 rfl (gJ_of hX.1 rfl (wp_at s16 hp (gR_of hx1 rfl (gR_of hx1 rfl (gJ_of hX.1 rfl (wp_with s16 hp (by omega) (pF_of hX.1 (Nat.le_of_ble_eq_true rfl) _ rfl ?_)))))))
  refine hP _ tg1 f1 (h1.lm0 (fun b hb => up_n (fun e => hb ⟨0, by decide, by rw [e]; exact hX.2.2.2.2.1⟩)) (hX.obj (v' := setCo v p s) ⟨okv.1, okv.2.1, okv.2.2.1, fun q hq => ?_, okv.2.2.2.2⟩ rfl rfl (up_s _ _ _) (fun b hb => up_n hb))) ((c1.wk (by decide)).tr (CK.up (h1.role 0 (by decide))))
  show (if q = p then s else coF v q) < 4
  split
  · exact hs
  · exact okv.2.2.2.1 q hq
theorem tk_tie_no1 {y z : Int32} {P : Int32 → PS → Prop} (hb : bad y 6) (h : P (-1) S) : wp_X7_tie S x y z P := by
  unfold wp_X7_tie
  exact wp_below_f (by decide) hb (br_t rfl h)
theorem tk_tie_no2 {p : Nat} {z : Int32} {P : Int32 → PS → Prop} (hp : p < 6) (hb : bad z 64) (h : P (-2) S) : wp_X7_tie S x (nI p) z P := by
  unfold wp_X7_tie
  exact wp_below_t (by decide) hp (br_f n1z (wp_below_f (by decide) hb (br_t rfl h)))
theorem tk_tie (h : TkF S tg x ad f g v hist sl pad) {p s : Nat} (hp : p < 6) (hs : s < 64) {P : Int32 → PS → Prop} (hP : ∀ S' tg' f', TkF S' tg' x ad f' g (setTi v p s) (pushH hist v) sl pad → CK 40 S tg S' tg' → P (nI (fb_ct (ra (setTi v p s) p) 12)) S') : wp_X7_tie S x (nI p) (nI s) P := by
  have hx := h.2.1
  unfold wp_X7_tie
  refine wp_below_t (by decide) hp (br_f n1z (wp_below_t (by decide) hs (br_f n1z (gR_of hx rfl (gR_of hx rfl (rc_of h.2.2.1.1 (wp_keep h (fun S1 tg1 f1 h1 c1 l1 => ?_))))))))
  have hx1 := h1.2.1
  have hl := h1.2.2.2.1
  obtain ⟨okv, t, d, xs, ys, hX⟩ := h1.2.2.2.1
  obtain ⟨F, hF, hF'⟩ := hX.2.1
  have htg := hX.2.2.2.2.2.1
  refine gR_of hx1 rfl (gR_of hX.1 rfl (sI_of hF hp (by decide) ?_))
  have hl2 : LmAt _ tg1 (ad 0) (setTi v p s) := hX.tie (k := p) okv hs hF hF'
  have hxt : x ≠ t := tne h1.1.1 htg (pne (by decide))
  obtain ⟨fs, e2⟩ := hl2.at
  refine gR_of ((up_n hxt).trans hx1) rfl (rc_of e2 (wp_raisedBy hl2 hp (wp_bitCount (bs_lt _ 12) ?_)))
  rw [pop_bs]
  exact hP _ tg1 f1 (h1.lm0 (fun b hb => up_n (fun e => hb ⟨1, by decide, by rw [e]; exact htg⟩)) hl2) ((c1.wk (by decide)).tr (CK.up (by rw [htg]; show 1 < 40; decide)))
theorem tk_weave_no1 (h : TkF S tg x ad f g v hist sl pad) {y z : Int32} {P : Int32 → PS → Prop} (hb : bad y 6) (hP : P (-1) S) : wp_X7_weave S x y z P := by
  unfold wp_X7_weave
  obtain ⟨fs, e⟩ := h.2.2.2.1.at
  exact gR_of h.2.1 rfl (rc_of e (wp_draftAt_no hb ⟨fun _ => hP, fun _ c => (by cases c)⟩))
theorem tk_weave_no2 (h : TkF S tg x ad f g v hist sl pad) {d : Nat} {z : Int32} {P : Int32 → PS → Prop} (hd : d < 6) (hb : z < nI 1 ∨ ¬ z ≤ nI 1000) (hP : P (-2) S) : wp_X7_weave S x (nI d) z P := by
  unfold wp_X7_weave
  obtain ⟨fs, e⟩ := h.2.2.2.1.at
  refine gR_of h.2.1 rfl (rc_of e (wp_draftAt h.2.2.2.1 hd (fun a b _ _ _ => ⟨fun c => (by cases c), fun _ _ => br_c (fun _ => hP) (fun c => br_f (hb.resolve_left c) hP)⟩)))
theorem tk_weave (h : TkF S tg x ad f g v hist sl pad) {d t : Nat} (hd : d < 6) (ht1 : 1 ≤ t) (ht : t ≤ 1000) {P : Int32 → PS → Prop} (hP : ∀ S' tg' f', TkF S' tg' x ad f' g (wvn v d t) (pushH hist v) sl pad → CK 40 S tg S' tg' → P (nI (hom (wvn v d t))) S') : wp_X7_weave S x (nI d) (nI t) P := by
  have hx := h.2.1
  unfold wp_X7_weave
  obtain ⟨okv, t0, d0, xs, ys, hX⟩ := h.2.2.2.1
  have hlm := h.2.2.2.1
  refine gR_of hx rfl (rc_of hX.1 ?_)
  unfold wp_X1_draftAt
  refine wp_below_t (by decide) hd (br_f n1z ?_)
  obtain ⟨gd, hd1, hd2⟩ := hX.2.2.1
  refine gR_of hX.1 rfl (lD_of hd1 hd (by decide) (hd2 d hd) ⟨fun c => (by cases c), fun a6 e6 => ?_⟩)
  cases e6
  refine br_f (nI_nlt ht1 (by omega)) (br_t (nI_le ht (by decide)) (gR_of hx rfl (gR_of hx rfl (rc_of h.2.2.1.1 (wp_keep h (fun S1 tg1 f1 h1 c1 l1 => ?_))))))
  have hx1 := h1.2.1
  have hX1 : LmX S1 tg1 (ad 0) v t0 d0 xs ys := hX.keep l1
  have hl1 : LmAt S1 tg1 (ad 0) v := ⟨okv, t0, d0, xs, ys, hX1⟩
  have hw : PM (wyl v (drF v d)) := pmWyl v _
  have hth : ∀ p, p < 12 → thF v p < 16 := okv.2.2.1.lt16
  refine gR_of hx1 rfl (gR_of hx1 rfl (gJ_of hX1.1 rfl (gR_of hx1 rfl (rc_of hX1.1 (wp_wayOf hl1 hd (wp_power hw (by omega) (wp_moved hth (hw.it t) (pF_of hX1.1 (Nat.le_of_ble_eq_true rfl) _ rfl ?_))))))))
  have hx0 : x ≠ ad 0 := tne h1.1.1 hX1.2.2.2.2.1 (pne (by decide))
  have hxd : xs d ≠ ad 0 := tne (hX1.2.2.2.2.2.2.2 d hd).1 hX1.2.2.2.2.1 (pne (by omega))
  have hdr := (hX1.2.2.2.1 d hd).1
  refine gR_of ((up_n hx0).trans hx1) rfl (gI_of (up_s _ _ _) rfl (gI_of ((up_n hxd).trans hdr) rfl (pF_of (up_s _ _ _) (Nat.le_of_ble_eq_true rfl) _ rfl ?_)))
  rw [up_u]
  refine gR_of ((up_n hx0).trans hx1) rfl (gI_of (up_s _ _ _) rfl (pF_of (up_s _ _ _) (Nat.le_of_ble_eq_true rfl) _ rfl ?_))
  rw [up_u]
  have hth2 : PM (mv (thF v) (itr (wyl v (drF v d)) t)) := ⟨fun p hp => okv.2.2.1.1 _ (iv_spec (hw.it t) hp).1, fun p q hp hq e => (hw.it t).iv.2 p q hp hq (okv.2.2.1.2 _ _ (iv_spec (hw.it t) hp).1 (iv_spec (hw.it t) hq).1 e)⟩
  refine gR_of ((up_n hx0).trans hx1) rfl (gJ_of (up_s _ _ _) rfl (wp_staying hth2.lt16 ?_))
  refine hP _ tg1 f1 (h1.lm0 (fun b hb => up_n (fun e => hb ⟨0, by decide, by rw [e]; exact hX1.2.2.2.2.1⟩)) (hX1.obj (v' := wvn v d t) ⟨okv.1, okv.2.1, hth2, okv.2.2.2.1, okv.2.2.2.2⟩ rfl rfl (up_s _ _ _) (fun b hb => up_n hb))) ((c1.wk (by decide)).tr (CK.up (h1.role 0 (by decide))))
end OPS
