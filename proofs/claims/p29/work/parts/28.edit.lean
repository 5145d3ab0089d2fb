/-! ===== drafts made anew, undo, slots ===== -/
section EDIT
variable {S S' : PS} {tg tg' : Nat → Nat × Nat} {x : Nat} {ad : Nat → Nat} {f g : Nat → Option Nat} {v : LM} {hist : List LM} {sl : Nat → Option LM} {pad : List Nat} {P : Int32 → PS → Prop}
theorem TkF.frs (h : TkF S tg x ad f g v hist sl pad) (hS : ∀ b, b ≠ ad 10 → b ≠ ad 11 → S' b = S b) (hf : ShD S' (ad 10) (ad 11)) : TkF S' tg x ad f g v hist sl pad ∧ LK S tg S' tg (ad 0) ∧ CK 40 S tg S' tg := by
  obtain ⟨t1, t2⟩ := h.1
  have n : ∀ b, (tg b).2 ≠ 30 → (tg b).2 ≠ 31 → S' b = S b := fun b h1 h2 => hS b (fun e => h1 (by rw [e, t2 10 (by decide) (by decide)])) (fun e => h2 (by rw [e, t2 11 (by decide) (by decide)]))
  have nj : ∀ j, 1 ≤ j → j < 10 → S' (ad j) = S (ad j) := fun j j1 j2 => n _ (by rw [t2 j j1 (by omega)]; show 20 + j ≠ 30; omega) (by rw [t2 j j1 (by omega)]; show 20 + j ≠ 31; omega)
  refine ⟨h.scr (fun b hb => n b (by omega) (by omega)) (h.2.2.2.2.2.2.2.1.fr (nj 4 (by decide) (by decide)) (nj 5 (by decide) (by decide))) (h.2.2.2.2.2.2.2.2.1.fr (nj 6 (by decide) (by decide)) (nj 7 (by decide) (by decide)) (nj 8 (by decide) (by decide)) (nj 9 (by decide) (by decide))) hf, LK.of fun b ho => ?_, CK.of fun b hb => n b (by omega) (by omega)⟩
  obtain ⟨i, hi, e⟩ := ho
  exact n b (by rw [e]; show i ≠ 30; omega) (by rw [e]; show i ≠ 31; omega)
theorem tk_made {d t0 d0 : Nat} {l : List Nat} {xs ys : Nat → Nat} {Q : PS → Prop} (h : TkF S tg x ad f g v hist sl pad) (hX : LmX S tg (ad 0) v t0 d0 xs ys) (okv : okL v) (hd : d < 6) (hl : okP l) (hfr : DrAt S (ad 10) (ad 11) l) (hP : ∀ S', TkF S' tg x ad f g (setDr v d l) hist sl pad → CK 40 S tg S' tg → DrAt S' (xs d) (ys d) l → (∀ b, b ≠ xs d → b ≠ ys d → S' b = S b) → Q S') : wp_X0_copyFrom S (xs d) (ad 10) Q := by
  have hd4 := hX.2.2.2.1 d hd
  have htg := hX.2.2.2.2.2.2.2 d hd
  refine wp_copyD hd4.sh hfr hl.1 (fun S' d' f' => ?_)
  have hno : ∀ b, ¬ Ow tg (ad 0) b → S' b = S b := fun b hb => f' b (fun e => hb ⟨3 + d, by omega, by rw [e]; exact htg.1⟩) (fun e => hb ⟨9 + d, by omega, by rw [e]; exact htg.2⟩)
  exact hP S' (h.lm0 hno (hX.draft okv hd hl d' f')) (CK.ow (by decide) hno) d' f'
theorem wp_draftX {a t0 d0 e : Nat} {xs ys : Nat → Nat} {Q : Option Nat → Prop} (hX : LmX S tg a v t0 d0 xs ys) (he : e < 6) (h : Q (some (xs e))) : wp_X1_draftAt S a (nI e) Q := by
  obtain ⟨gd, hd1, hd2⟩ := hX.2.2.1
  unfold wp_X1_draftAt
  exact wp_below_t (by decide) he (br_f n1z (gR_of hX.1 rfl (lD_of hd1 he (by decide) (hd2 e he) h)))
theorem wp_draftC {a t0 d0 : Nat} {xs ys : Nat → Nat} {z : Int32} {Q : Option Nat → Prop} (hX : LmX S tg a v t0 d0 xs ys) (h1 : ∀ e, e < 6 → z = nI e → Q (some (xs e))) (h0 : bad z 6 → Q none) : wp_X1_draftAt S a z Q := by
  rcases pk_ix z (show 6 < 2 ^ 31 by decide) with q | q | ⟨j, hj, e⟩
  · exact wp_draftAt_no (Or.inl q) (h0 (Or.inl q))
  · exact wp_draftAt_no (Or.inr q) (h0 (Or.inr q))
  · subst e; exact wp_draftX hX hj (h1 j hj rfl)
theorem DrAt.xne {S : PS} {tg : Nat → Nat × Nat} {a t d e : Nat} {xs ys : Nat → Nat} {v : LM} {x : Nat} {ad : Nat → Nat} (hX : LmX S tg a v t d xs ys) (he : e < 6) (ht : ∀ j, 1 ≤ j → j < 12 → tg (ad j) = (x, 20 + j)) : xs e ≠ ad 10 ∧ ys e ≠ ad 11 := ⟨tne (hX.2.2.2.2.2.2.2 e he).1 (ht 10 (by decide) (by decide)) (pne (by omega)), tne (hX.2.2.2.2.2.2.2 e he).2 (ht 11 (by decide) (by decide)) (pne (by omega))⟩
theorem tk_compose_no {y z w : Int32} (h : TkF S tg x ad f g v hist sl pad) (hb : bad y 6 ∨ bad z 6 ∨ bad w 6) (hP : P (-1) S) : wp_X7_compose S x y z w P := by
  have hx := h.2.1
  obtain ⟨okv, t0, d0, xs, ys, hX⟩ := h.2.2.2.1
  unfold wp_X7_compose
  refine gR_of hx rfl (rc_of hX.1 (wp_draftC hX (fun a ha ea => ⟨fun c => (by cases c), fun a6 e6 => ?_⟩) (fun b1 => ⟨fun _ => ?_, fun _ c => (by cases c)⟩)))
  · cases e6
    refine gR_of hx rfl (rc_of hX.1 (wp_draftC hX (fun b hb2 eb => ⟨fun c => (by cases c), fun a30 e30 => ?_⟩) (fun b1 => ⟨fun _ => ?_, fun _ c => (by cases c)⟩)))
    · cases e30
      refine gR_of hx rfl (rc_of hX.1 (wp_draftC hX (fun c hc ec => ?_) (fun b1 => ⟨fun _ => hP, fun _ c => (by cases c)⟩)))
      subst ea; subst eb; subst ec
      have no : ∀ j, j < 6 → ¬ bad (nI j) 6 := fun j hj q => by
        rcases q with q | q
        · exact absurd q (nI_pos (by omega))
        · exact absurd q (nI_ge hj (by omega))
      rcases hb with q | q | q
      · exact absurd q (no a ha)
      · exact absurd q (no b hb2)
      · exact absurd q (no c hc)
    · exact gR_of hx rfl (rc_of hX.1 (wp_draftC hX (fun c hc ec => ⟨fun c => (by cases c), fun _ _ => hP⟩) (fun b1 => ⟨fun _ => hP, fun _ c => (by cases c)⟩)))
  · exact gR_of hx rfl (rc_of hX.1 (wp_draftC hX (fun b hb2 eb => ⟨fun c => (by cases c), fun _ _ => gR_of hx rfl (rc_of hX.1 (wp_draftC hX (fun c hc ec => ⟨fun c => (by cases c), fun _ _ => hP⟩) (fun b1 => ⟨fun _ => hP, fun _ c => (by cases c)⟩)))⟩) (fun b1 => ⟨fun _ => gR_of hx rfl (rc_of hX.1 (wp_draftC hX (fun c hc ec => ⟨fun c => (by cases c), fun _ _ => hP⟩) (fun b1 => ⟨fun _ => hP, fun _ c => (by cases c)⟩))), fun _ c => (by cases c)⟩)))
theorem tk_compose_many {a b c : Nat} (h : TkF S tg x ad f g v hist sl pad) (ha : a < 6) (hb : b < 6) (hc : c < 6) (hl : 24 < (drF v b).length + (drF v c).length) (hP : P (-4) S) : wp_X7_compose S x (nI a) (nI b) (nI c) P := by
  have hx := h.2.1
  obtain ⟨okv, t0, d0, xs, ys, hX⟩ := h.2.2.2.1
  have l1 := (okv.2.2.2.2 b hb).1
  have l2 := (okv.2.2.2.2 c hc).1
  unfold wp_X7_compose
  refine gR_of hx rfl (rc_of hX.1 (wp_draftX hX ha ⟨fun c => (by cases c), fun a6 e6 => ?_⟩))
  cases e6
  refine gR_of hx rfl (rc_of hX.1 (wp_draftX hX hb ⟨fun c => (by cases c), fun a6 e6 => ?_⟩))
  cases e6
  refine gR_of hx rfl (rc_of hX.1 (wp_draftX hX hc ⟨fun c => (by cases c), fun a6 e6 => ?_⟩))
  cases e6
  refine gI_of (hX.2.2.2.1 b hb).1 rfl (gI_of (hX.2.2.2.1 c hc).1 rfl ?_)
  rw [nI_add]
  exact br_f (nI_ge hl (by omega)) hP
theorem tk_compose {a b c : Nat} (h : TkF S tg x ad f g v hist sl pad) (ha : a < 6) (hb : b < 6) (hc : c < 6) (hl : (drF v b).length + (drF v c).length ≤ 24) (hP : ∀ S' tg' f', TkF S' tg' x ad f' g (setDr v a (drF v b ++ drF v c)) (pushH hist v) sl pad → CK 40 S tg S' tg' → P (nI ((drF v b).length + (drF v c).length)) S') : wp_X7_compose S x (nI a) (nI b) (nI c) P := by
  have hx := h.2.1
  obtain ⟨okv, t0, d0, xs, ys, hX⟩ := h.2.2.2.1
  have k1 := okv.2.2.2.2 b hb
  have k2 := okv.2.2.2.2 c hc
  unfold wp_X7_compose
  refine gR_of hx rfl (rc_of hX.1 (wp_draftX hX ha ⟨fun c => (by cases c), fun a6 e6 => ?_⟩))
  cases e6
  refine gR_of hx rfl (rc_of hX.1 (wp_draftX hX hb ⟨fun c => (by cases c), fun a6 e6 => ?_⟩))
  cases e6
  refine gR_of hx rfl (rc_of hX.1 (wp_draftX hX hc ⟨fun c => (by cases c), fun a6 e6 => ?_⟩))
  cases e6
  refine gI_of (hX.2.2.2.1 b hb).1 rfl (gI_of (hX.2.2.2.1 c hc).1 rfl ?_)
  rw [nI_add]
  refine br_t (nI_le hl (by decide)) (gR_of hx rfl (gR_of hx rfl (rc_of h.2.2.1.1 (wp_keep h (fun S1 tg1 f1 h1 c1 l1 => ?_)))))
  have hX1 : LmX S1 tg1 (ad 0) v t0 d0 xs ys := hX.keep l1
  obtain ⟨⟨n0, q1⟩, F, q2⟩ := h1.2.2.2.2.2.2.2.2.2
  have n1011 : ad 10 ≠ ad 11 := ob_ne q1 q2 lr_ne
  refine gR_of h1.2.1 rfl (pF_of q1 (Nat.le_of_ble_eq_true rfl) _ rfl ?_)
  have dr0 : DrAt (va_up S1 (ad 10) (.inl (0, [.ref (ad 11), .int (nI 0)]))) (ad 10) (ad 11) [] := ⟨up_s _ _ _, F, (up_n (Ne.symm n1011)).trans q2, fun k hk => absurd hk (Nat.not_lt_zero _)⟩
  obtain ⟨h2, l2, c2⟩ := h1.frs (S' := va_up S1 (ad 10) (.inl (0, [.ref (ad 11), .int (nI 0)]))) (fun b hb _ => up_n hb) dr0.sh
  have hX2 := hX1.keep l2
  have hn := fun {S tg} {e : Nat} (hX : LmX S tg (ad 0) v t0 d0 xs ys) he ht => DrAt.xne (x := x) (ad := ad) (e := e) hX he ht
  refine gR_of h2.2.1 rfl (rc_of dr0.1 (wp_append dr0 (hX2.2.2.2.1 b hb) k1 (by show 0 + _ ≤ 24; have := k1.1; omega) (hn hX2 hb h2.1.2).1 (hn hX2 hb h2.1.2).2 (fun S3 d3 f3 => ?_)))
  obtain ⟨h3, l3, c3⟩ := h2.frs f3 d3.sh
  have hX3 := hX2.keep l3
  refine gR_of h3.2.1 rfl (rc_of d3.1 (wp_append d3 (hX3.2.2.2.1 c hc) k2 (by rw [List.nil_append]; exact hl) (hn hX3 hc h3.1.2).1 (hn hX3 hc h3.1.2).2 (fun S4 d4 f4 => ?_)))
  obtain ⟨h4, l4, c4⟩ := h3.frs f4 d4.sh
  have hX4 := hX3.keep l4
  rw [List.nil_append] at d4
  have okl : okP (drF v b ++ drF v c) := okP_app k1 k2.2 hl
  refine gR_of h4.2.1 rfl (rc_of (hX4.2.2.2.1 a ha).1 (tk_made h4 hX4 okv ha okl d4 (fun S5 h5 c5 d5 f5 => gI_of d5.1 rfl ?_)))
  rw [List.length_append]
  exact hP S5 tg1 f1 h5 ((((c1.wk (by decide)).tr c2).tr c3).tr (c4.tr c5))
theorem tk_turn_no {y z : Int32} (h : TkF S tg x ad f g v hist sl pad) (hb : bad y 6 ∨ bad z 6) (hP : P (-1) S) : wp_X7_turnRound S x y z P := by
  have hx := h.2.1
  obtain ⟨okv, t0, d0, xs, ys, hX⟩ := h.2.2.2.1
  unfold wp_X7_turnRound
  refine gR_of hx rfl (rc_of hX.1 (wp_draftC hX (fun a ha ea => ⟨fun c => (by cases c), fun a6 e6 => ?_⟩) (fun b1 => ⟨fun _ => ?_, fun _ c => (by cases c)⟩)))
  · cases e6
    refine gR_of hx rfl (rc_of hX.1 (wp_draftC hX (fun c hc ec => ?_) (fun b1 => ⟨fun _ => hP, fun _ c => (by cases c)⟩)))
    subst ea; subst ec
    have no : ∀ j, j < 6 → ¬ bad (nI j) 6 := fun j hj q => by
      rcases q with q | q
      · exact absurd q (nI_pos (by omega))
      · exact absurd q (nI_ge hj (by omega))
    rcases hb with q | q
    · exact absurd q (no a ha)
    · exact absurd q (no c hc)
  · exact gR_of hx rfl (rc_of hX.1 (wp_draftC hX (fun c hc ec => ⟨fun c => (by cases c), fun _ _ => hP⟩) (fun b1 => ⟨fun _ => hP, fun _ c => (by cases c)⟩)))
theorem trn_ok {l : List Nat} (h : okP l) : okP (trn l) := by
  refine ⟨by rw [trn_len]; exact h.1, fun k hk => ?_⟩
  rw [trn_len] at hk
  have : (trn l).getD k 0 = ((trn l)[k]'(by rw [trn_len]; exact hk)) := by simp [List.getD, trn_len, hk]
  rw [this]
  unfold trn
  rw [List.getElem_map]
  exact Nat.mod_lt _ (by decide)
theorem tk_turn {a b : Nat} (h : TkF S tg x ad f g v hist sl pad) (ha : a < 6) (hb : b < 6) (hP : ∀ S' tg' f', TkF S' tg' x ad f' g (setDr v a (trn (drF v b))) (pushH hist v) sl pad → CK 40 S tg S' tg' → P (nI (drF v b).length) S') : wp_X7_turnRound S x (nI a) (nI b) P := by
  have hx := h.2.1
  obtain ⟨okv, t0, d0, xs, ys, hX⟩ := h.2.2.2.1
  have k1 := okv.2.2.2.2 b hb
  unfold wp_X7_turnRound
  refine gR_of hx rfl (rc_of hX.1 (wp_draftX hX ha ⟨fun c => (by cases c), fun a6 e6 => ?_⟩))
  cases e6
  refine gR_of hx rfl (rc_of hX.1 (wp_draftX hX hb ⟨fun c => (by cases c), fun a6 e6 => ?_⟩))
  cases e6
  refine gR_of hx rfl (gR_of hx rfl (rc_of h.2.2.1.1 (wp_keep h (fun S1 tg1 f1 h1 c1 l1 => ?_))))
  have hX1 : LmX S1 tg1 (ad 0) v t0 d0 xs ys := hX.keep l1
  obtain ⟨⟨n0, q1⟩, F, q2⟩ := h1.2.2.2.2.2.2.2.2.2
  have n1011 : ad 10 ≠ ad 11 := ob_ne q1 q2 lr_ne
  refine gR_of h1.2.1 rfl (pF_of q1 (Nat.le_of_ble_eq_true rfl) _ rfl ?_)
  have dr0 : DrAt (va_up S1 (ad 10) (.inl (0, [.ref (ad 11), .int (nI 0)]))) (ad 10) (ad 11) [] := ⟨up_s _ _ _, F, (up_n (Ne.symm n1011)).trans q2, fun k hk => absurd hk (Nat.not_lt_zero _)⟩
  obtain ⟨h2, l2, c2⟩ := h1.frs (S' := va_up S1 (ad 10) (.inl (0, [.ref (ad 11), .int (nI 0)]))) (fun b hb _ => up_n hb) dr0.sh
  have hX2 := hX1.keep l2
  have hn := DrAt.xne (e := b) hX2 hb h2.1.2
  refine gR_of h2.2.1 rfl (rc_of dr0.1 (wp_appendTurned dr0 (hX2.2.2.2.1 b hb) k1 hn.1 hn.2 (fun S3 d3 f3 => ?_)))
  obtain ⟨h3, l3, c3⟩ := h2.frs f3 d3.sh
  have hX3 := hX2.keep l3
  refine gR_of h3.2.1 rfl (rc_of (hX3.2.2.2.1 a ha).1 (tk_made h3 hX3 okv ha (trn_ok k1) d3 (fun S5 h5 c5 d5 f5 => gI_of d5.1 rfl ?_)))
  rw [trn_len]
  exact hP S5 tg1 f1 h5 ((((c1.wk (by decide)).tr c2).tr c3).tr c5)
def rpt (l : List Nat) : Nat → List Nat
  | 0 => []
  | n + 1 => rpt l n ++ l
theorem rpt_len (l : List Nat) : ∀ n, (rpt l n).length = l.length * n
  | 0 => rfl
  | n + 1 => by
    show (rpt l n ++ l).length = _
    rw [List.length_append, rpt_len l n, Nat.mul_succ]
theorem rpt_ok {l : List Nat} (h : okP l) : ∀ n, l.length * n ≤ 24 → okP (rpt l n)
  | 0, _ => ⟨Nat.zero_le 24, fun k hk => absurd hk (Nat.not_lt_zero _)⟩
  | n + 1, hn => by
    rw [Nat.mul_succ] at hn
    exact okP_app (rpt_ok h n (by omega)) h.2 (by rw [rpt_len]; exact hn)
theorem tk_repeat_no1 {y z w : Int32} (h : TkF S tg x ad f g v hist sl pad) (hb : bad y 6 ∨ bad z 6) (hP : P (-1) S) : wp_X7_repeat S x y z w P := by
  have hx := h.2.1
  obtain ⟨okv, t0, d0, xs, ys, hX⟩ := h.2.2.2.1
  unfold wp_X7_repeat
  refine gR_of hx rfl (rc_of hX.1 (wp_draftC hX (fun a ha ea => ⟨fun c => (by cases c), fun a6 e6 => ?_⟩) (fun b1 => ⟨fun _ => ?_, fun _ c => (by cases c)⟩)))
  · cases e6
    refine gR_of hx rfl (rc_of hX.1 (wp_draftC hX (fun c hc ec => ?_) (fun b1 => ⟨fun _ => hP, fun _ c => (by cases c)⟩)))
    subst ea; subst ec
    have no : ∀ j, j < 6 → ¬ bad (nI j) 6 := fun j hj q => by
      rcases q with q | q
      · exact absurd q (nI_pos (by omega))
      · exact absurd q (nI_ge hj (by omega))
    rcases hb with q | q
    · exact absurd q (no a ha)
    · exact absurd q (no c hc)
  · exact gR_of hx rfl (rc_of hX.1 (wp_draftC hX (fun c hc ec => ⟨fun c => (by cases c), fun _ _ => hP⟩) (fun b1 => ⟨fun _ => hP, fun _ c => (by cases c)⟩)))
theorem tk_repeat_no2 {a b : Nat} {w : Int32} (h : TkF S tg x ad f g v hist sl pad) (ha : a < 6) (hb : b < 6) (hw : w < 0 ∨ ¬ w ≤ nI 24) (hP : P (-2) S) : wp_X7_repeat S x (nI a) (nI b) w P := by
  have hx := h.2.1
  obtain ⟨okv, t0, d0, xs, ys, hX⟩ := h.2.2.2.1
  unfold wp_X7_repeat
  refine gR_of hx rfl (rc_of hX.1 (wp_draftX hX ha ⟨fun c => (by cases c), fun a6 e6 => ?_⟩))
  cases e6
  refine gR_of hx rfl (rc_of hX.1 (wp_draftX hX hb ⟨fun c => (by cases c), fun a6 e6 => ?_⟩))
  exact br_c (fun _ => hP) (fun c => br_f (hw.resolve_left c) hP)
theorem tk_repeat_many {a b t : Nat} (h : TkF S tg x ad f g v hist sl pad) (ha : a < 6) (hb : b < 6) (ht : t ≤ 24) (hl : 24 < (drF v b).length * t) (hP : P (-4) S) : wp_X7_repeat S x (nI a) (nI b) (nI t) P := by
  have hx := h.2.1
  obtain ⟨okv, t0, d0, xs, ys, hX⟩ := h.2.2.2.1
  have k1 := (okv.2.2.2.2 b hb).1
  have hmx : (drF v b).length * t ≤ 24 * 24 := Nat.mul_le_mul k1 ht
  unfold wp_X7_repeat
  refine gR_of hx rfl (rc_of hX.1 (wp_draftX hX ha ⟨fun c => (by cases c), fun a6 e6 => ?_⟩))
  cases e6
  refine gR_of hx rfl (rc_of hX.1 (wp_draftX hX hb ⟨fun c => (by cases c), fun a6 e6 => ?_⟩))
  cases e6
  refine br_f (nI_pos (by omega)) (br_t (nI_le ht (by decide)) (gI_of (hX.2.2.2.1 b hb).1 rfl ?_))
  rw [pk_mul]
  exact br_f (nI_ge hl (by omega)) hP
theorem tk_repeat {a b t : Nat} (h : TkF S tg x ad f g v hist sl pad) (ha : a < 6) (hb : b < 6) (ht : t ≤ 24) (hl : (drF v b).length * t ≤ 24) (hP : ∀ S' tg' f', TkF S' tg' x ad f' g (setDr v a (rpt (drF v b) t)) (pushH hist v) sl pad → CK 40 S tg S' tg' → P (nI ((drF v b).length * t)) S') : wp_X7_repeat S x (nI a) (nI b) (nI t) P := by
  have hx := h.2.1
  obtain ⟨okv, t0, d0, xs, ys, hX⟩ := h.2.2.2.1
  have k1 := okv.2.2.2.2 b hb
  unfold wp_X7_repeat
  refine gR_of hx rfl (rc_of hX.1 (wp_draftX hX ha ⟨fun c => (by cases c), fun a6 e6 => ?_⟩))
  cases e6
  refine gR_of hx rfl (rc_of hX.1 (wp_draftX hX hb ⟨fun c => (by cases c), fun a6 e6 => ?_⟩))
  cases e6
  refine br_f (nI_pos (by omega)) (br_t (nI_le ht (by decide)) (gI_of (hX.2.2.2.1 b hb).1 rfl ?_))
  rw [pk_mul]
  refine br_t (nI_le hl (by decide)) (gR_of hx rfl (gR_of hx rfl (rc_of h.2.2.1.1 (wp_keep h (fun S1 tg1 f1 h1 c1 l1 => ?_)))))
  have hX1 : LmX S1 tg1 (ad 0) v t0 d0 xs ys := hX.keep l1
  obtain ⟨⟨n0, q1⟩, F, q2⟩ := h1.2.2.2.2.2.2.2.2.2
  have n1011 : ad 10 ≠ ad 11 := ob_ne q1 q2 lr_ne
  refine gR_of h1.2.1 rfl (pF_of q1 (Nat.le_of_ble_eq_true rfl) _ rfl ?_)
  have dr0 : DrAt (va_up S1 (ad 10) (.inl (0, [.ref (ad 11), .int (nI 0)]))) (ad 10) (ad 11) [] := ⟨up_s _ _ _, F, (up_n (Ne.symm n1011)).trans q2, fun k hk => absurd hk (Nat.not_lt_zero _)⟩
  obtain ⟨h2, l2, c2⟩ := h1.frs (S' := va_up S1 (ad 10) (.inl (0, [.ref (ad 11), .int (nI 0)]))) (fun b hb _ => up_n hb) dr0.sh
  have hX2 := hX1.keep l2
  refine wpL_for t (fun k S3 => DrAt S3 (ad 10) (ad 11) (rpt (drF v b) k) ∧ TkF S3 tg1 x ad f1 g v (pushH hist v) sl pad ∧ LmX S3 tg1 (ad 0) v t0 d0 xs ys ∧ CK 40 S tg S3 tg1) ⟨dr0, h2, hX2, (c1.wk (by decide)).tr c2⟩ ?_ ?_
  · intro S3 hS K
    obtain ⟨d3, h3, hX3, c3⟩ := hS
    show wpb_X7_repeat_82 _ _ _ _ _ _ (nI t) S3
    unfold wpb_X7_repeat_82
    refine br_t (Int32.le_refl _) (gR_of h3.2.1 rfl (rc_of (hX3.2.2.2.1 a ha).1 (tk_made h3 hX3 okv ha (rpt_ok k1 t hl) d3 (fun S5 h5 c5 d5 f5 => gI_of d5.1 rfl ?_))))
    rw [rpt_len]
    exact hP S5 tg1 f1 h5 (c3.tr c5)
  · intro k S3 hk hS K hK
    obtain ⟨d3, h3, hX3, c3⟩ := hS
    show wpb_X7_repeat_82 _ _ _ _ _ _ (nI k) S3
    unfold wpb_X7_repeat_82
    have hn := DrAt.xne (e := b) hX3 hb h3.1.2
    have hlk : (drF v b).length * (k + 1) ≤ 24 := Nat.le_trans (Nat.mul_le_mul_left _ hk) hl
    rw [Nat.mul_succ] at hlk
    refine br_f (nI_ge hk (by omega)) (gR_of h3.2.1 rfl (rc_of d3.1 (wp_append d3 (hX3.2.2.2.1 b hb) k1 (by rw [rpt_len]; exact hlk) hn.1 hn.2 (fun S4 d4 f4 => ?_))))
    obtain ⟨h4, l4, c4⟩ := h3.frs f4 d4.sh
    intro i e
    rw [e, nI_add]
    exact hK _ ⟨d4, h4, hX3.keep l4, c3.tr c4⟩
end EDIT
