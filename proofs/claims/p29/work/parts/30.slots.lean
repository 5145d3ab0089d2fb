/-! ===== undo and the slots ===== -/
section SL
variable {S S' : PS} {tg tg' : Nat → Nat × Nat} {x : Nat} {ad : Nat → Nat} {f g : Nat → Option Nat} {v : LM} {hist : List LM} {sl : Nat → Option LM} {pad pad' : List Nat} {P : Int32 → PS → Prop}
theorem TkF.pop (h : TkF S tg x ad f g v hist sl pad) : TkF (va_up S (ad 1) (.inl (3, [.ref (ad 2), .int (nI (hist.length - 1))]))) tg x ad f g v hist.dropLast sl pad := by
  obtain ⟨⟨t1, t2⟩, a1, ⟨a2, a3, a4, a5⟩, a6, a7, a8, a9, b1, c1, d1⟩ := h
  have h12 : ad 1 ≠ ad 2 := ob_ne a2 a4 lr_ne
  have hro : ∀ b, (tg b).2 ≠ 21 → va_up S (ad 1) (.inl (3, [.ref (ad 2), .int (nI (hist.length - 1))])) b = S b := fun b h1 => up_n (fun e => h1 (by rw [e, t2 1 (by decide) (by decide)]))
  have hj : ∀ j, 2 ≤ j → j < 12 → va_up S (ad 1) (.inl (3, [.ref (ad 2), .int (nI (hist.length - 1))])) (ad j) = S (ad j) := fun j j1 j2 => hro _ (by rw [t2 j (by omega) j2]; show 20 + j ≠ 21; omega)
  have kl : ∀ {b w}, LmAt S tg b w → LmAt (va_up S (ad 1) (.inl (3, [.ref (ad 2), .int (nI (hist.length - 1))]))) tg b w := fun hw => hw.frame2 (fun b hb => hro b (by omega))
  refine ⟨⟨t1, t2⟩, by rw [hro x (by rw [t1]; show 20 ≠ 21; decide)]; exact a1, ⟨by rw [up_s, List.length_dropLast], by rw [List.length_dropLast]; omega, by rw [hj 2 (by decide) (by decide)]; exact a4, by rw [hj 3 (by decide) (by decide)]; exact a5⟩, kl a6, fun j hj6 => ⟨fun w hw => ?_, fun b hb => ?_⟩, fun j hj2 => ⟨(a8 j hj2).1, fun w hw => ?_⟩, a9, b1.fr (hj 4 (by decide) (by decide)) (hj 5 (by decide) (by decide)), c1.fr (hj 6 (by decide) (by decide)) (hj 7 (by decide) (by decide)) (hj 8 (by decide) (by decide)) (hj 9 (by decide) (by decide)), d1.fr (hj 10 (by decide) (by decide)) (hj 11 (by decide) (by decide))⟩
  · rw [List.getElem?_dropLast] at hw
    split at hw
    · obtain ⟨b, e1, e2⟩ := (a7 j hj6).1 w hw
      exact ⟨b, e1, kl e2⟩
    · cases hw
  · obtain ⟨w, e⟩ := (a7 j hj6).2 b hb
    exact ⟨w, kl e⟩
  · obtain ⟨b, e1, e2⟩ := (a8 j hj2).2 w hw
    exact ⟨b, e1, kl e2⟩
theorem tk_undo_no (h : TkF S tg x ad f g v hist sl pad) (h0 : hist.length = 0) (hP : P (-5) S) : wp_X7_undo S x P := by
  unfold wp_X7_undo
  refine gR_of h.2.1 rfl (gI_of h.2.2.1.1 rfl ?_)
  rw [h0]
  exact br_t rfl hP
theorem tk_undo {w : LM} (h : TkF S tg x ad f g v hist sl pad) (hw : hist[hist.length - 1]? = some w) (hP : ∀ S', TkF S' tg x ad f g w hist.dropLast sl pad → CK 40 S tg S' tg → P (nI (hist.length - 1)) S') : wp_X7_undo S x P := by
  have hlt := (List.getElem?_eq_some_iff.mp hw).1
  obtain ⟨a2, a3, a4, a5⟩ := h.2.2.1
  obtain ⟨a, e1, e2⟩ := (h.2.2.2.2.1 (hist.length - 1) (by omega)).1 w hw
  have hp := h.pop
  have h12 : ad 1 ≠ ad 2 := ob_ne a2 a4 lr_ne
  unfold wp_X7_undo
  refine gR_of h.2.1 rfl (gI_of a2 rfl (br_f (nI_ne0 (by omega) (by omega)) (gR_of h.2.1 rfl (gR_of h.2.1 rfl (rc_of a2 ?_)))))
  unfold wp_X3_giveBack
  refine gI_of a2 rfl ?_
  have es : nI hist.length - nI 1 = nI (hist.length - 1) := pk_sub (by omega)
  rw [es]
  refine wp_below_t (by decide) (by omega) (br_f n1z (gI_of a2 rfl (pF_of a2 (Nat.le_of_ble_eq_true rfl) _ rfl ?_)))
  rw [es]
  refine gR_of (up_s _ _ _) rfl (gI_of (up_s _ _ _) rfl (lL_of ((up_n (Ne.symm h12)).trans a4) (by omega) (by decide) e1 ?_))
  have hl : LmAt (va_up S (ad 1) (.inl (3, [.ref (ad 2), .int (nI (hist.length - 1))]))) tg a w := by
    refine e2.frame2 (fun b hb => up_n (fun e => ?_))
    rw [e, h.1.2 1 (by decide) (by decide)] at hb
    exact absurd hb (show ¬ 21 < 20 by decide)
  have ha0 : ad 0 ≠ a := fun z => by
    have := h.2.2.2.2.2.2.1 (hist.length - 1 + 1) 0 a (by omega) (by decide) (by rw [lo_f (by omega), e1]) (by rw [← z]; rfl)
    omega
  obtain ⟨fs, eq⟩ := hp.2.2.2.1.at
  refine rc_of eq (wp_copyL hp.2.2.2.1 hl ha0 (fun S3 l3 f3 => ?_))
  have h3 := hp.lm0 f3 l3
  refine gR_of h3.2.1 rfl (gI_of h3.2.2.1.1 rfl ?_)
  rw [List.length_dropLast]
  refine hP S3 h3 ((CK.up ?_).tr (CK.ow (by decide) f3))
  rw [h.1.2 1 (by decide) (by decide)]
  show 21 < 40
  decide
/-- the loom of a slot is written anew -/
theorem TkF.slotg {k a : Nat} {v' : LM} (h : TkF S tg x ad f g v hist sl pad) (hk : k < 2) (hf : g k = some a) (hS : ∀ b, ¬ Ow tg a b → S' b = S b) (hv : LmAt S' tg a v') : TkF S' tg x ad f g v hist (fun q => if q = k then some v' else sl q) pad := by
  obtain ⟨⟨t1, t2⟩, a1, ⟨a2, a3, a4, a5⟩, a6, a7, a8, a9, b1, c1, d1⟩ := h
  have ea : ∀ j, 1 ≤ j → j < 12 → S' (ad j) = S (ad j) := fun j j1 j2 => hS _ (Ow.no (by rw [t2 j j1 j2]; show 20 ≤ 20 + j; omega))
  have kl : ∀ {b w i}, i ≠ k + 7 → i < 9 → lo (ad 0) f g i = some b → LmAt S tg b w → LmAt S' tg b w := fun {b w i} hi hi2 ha hw => hw.other (fun e => hi (a9 i (k + 7) b hi2 (by omega) ha (by rw [lo_g, hf, e]))) hS
  refine ⟨⟨t1, t2⟩, by rw [hS x (Ow.no (by rw [t1]; exact Nat.le_refl 20))]; exact a1, ⟨by rw [ea 1 (by decide) (by decide)]; exact a2, a3, by rw [ea 2 (by decide) (by decide)]; exact a4, by rw [ea 3 (by decide) (by decide)]; exact a5⟩, kl (i := 0) (by omega) (by decide) rfl a6, fun j hj => ⟨fun w hw => ?_, fun b hb => ?_⟩, fun j hj => ⟨fun (hn : (if j = k then some v' else sl j) = none) => ?_, fun w (hw : (if j = k then some v' else sl j) = some w) => ?_⟩, a9, b1.fr (ea 4 (by decide) (by decide)) (ea 5 (by decide) (by decide)), c1.fr (ea 6 (by decide) (by decide)) (ea 7 (by decide) (by decide)) (ea 8 (by decide) (by decide)) (ea 9 (by decide) (by decide)), d1.fr (ea 10 (by decide) (by decide)) (ea 11 (by decide) (by decide))⟩
  · obtain ⟨b, e1, e2⟩ := (a7 j hj).1 w hw
    exact ⟨b, e1, kl (i := j + 1) (by omega) (by omega) (by rw [lo_f hj]; exact e1) e2⟩
  · obtain ⟨w, e⟩ := (a7 j hj).2 b hb
    exact ⟨w, kl (i := j + 1) (by omega) (by omega) (by rw [lo_f hj]; exact hb) e⟩
  · by_cases z : j = k
    · rw [if_pos z] at hn; cases hn
    · rw [if_neg z] at hn; exact (a8 j hj).1 hn
  · by_cases z : j = k
    · rw [if_pos z] at hw
      cases hw
      exact ⟨a, by rw [z]; exact hf, hv⟩
    · rw [if_neg z] at hw
      obtain ⟨b, e1, e2⟩ := (a8 j hj).2 w hw
      exact ⟨b, e1, kl (i := j + 7) (by omega) (by omega) (by rw [lo_g]; exact e1) e2⟩
/-- a new loom comes into a slot -/
theorem TkF.setg {k a : Nat} {v' : LM} (h : TkF S tg x ad f g v hist sl pad) (hk : k < 2) (ha : LmAt S tg a v') (hna : ∀ i, i < 9 → lo (ad 0) f g i ≠ some a) : TkF (va_up S (ad 3) (aL 2 (va_up g k (some a)))) tg x ad f (va_up g k (some a)) v hist (fun q => if q = k then some v' else sl q) pad := by
  obtain ⟨⟨t1, t2⟩, a1, ⟨a2, a3, a4, a5⟩, a6, a7, a8, a9, b1, c1, d1⟩ := h
  have hro : ∀ b, (tg b).2 ≠ 23 → va_up S (ad 3) (aL 2 (va_up g k (some a))) b = S b := fun b h1 => up_n (fun e => h1 (by rw [e, t2 3 (by decide) (by decide)]))
  have hj : ∀ j, 1 ≤ j → j ≠ 3 → j < 12 → va_up S (ad 3) (aL 2 (va_up g k (some a))) (ad j) = S (ad j) := fun j j1 j3 j2 => hro _ (by rw [t2 j j1 j2]; show 20 + j ≠ 23; omega)
  have kl : ∀ {b w}, LmAt S tg b w → LmAt (va_up S (ad 3) (aL 2 (va_up g k (some a)))) tg b w := fun hw => hw.frame2 (fun b hb => hro b (by omega))
  refine ⟨⟨t1, t2⟩, by rw [hro x (by rw [t1]; show 20 ≠ 23; decide)]; exact a1, ⟨by rw [hj 1 (by decide) (by decide) (by decide)]; exact a2, a3, by rw [hj 2 (by decide) (by decide) (by decide)]; exact a4, up_s _ _ _⟩, kl a6, fun j hj6 => ⟨fun w hw => ?_, fun b hb => ?_⟩, fun j hj2 => ⟨fun (hn : (if j = k then some v' else sl j) = none) => ?_, fun w (hw : (if j = k then some v' else sl j) = some w) => ?_⟩, ?_, b1.fr (hj 4 (by decide) (by decide) (by decide)) (hj 5 (by decide) (by decide) (by decide)), c1.fr (hj 6 (by decide) (by decide) (by decide)) (hj 7 (by decide) (by decide) (by decide)) (hj 8 (by decide) (by decide) (by decide)) (hj 9 (by decide) (by decide) (by decide)), d1.fr (hj 10 (by decide) (by decide) (by decide)) (hj 11 (by decide) (by decide) (by decide))⟩
  · obtain ⟨b, e1, e2⟩ := (a7 j hj6).1 w hw
    exact ⟨b, e1, kl e2⟩
  · obtain ⟨w, e⟩ := (a7 j hj6).2 b hb
    exact ⟨w, kl e⟩
  · by_cases z : j = k
    · rw [if_pos z] at hn; cases hn
    · rw [if_neg z] at hn; rw [va_up_ne _ _ z]; exact (a8 j hj2).1 hn
  · by_cases z : j = k
    · rw [if_pos z] at hw
      cases hw
      exact ⟨a, by rw [z, va_up_self], kl ha⟩
    · rw [if_neg z] at hw
      obtain ⟨b, e1, e2⟩ := (a8 j hj2).2 w hw
      exact ⟨b, by rw [va_up_ne _ _ z]; exact e1, kl e2⟩
  · have hlo : ∀ i, i ≠ k + 7 → i < 9 → lo (ad 0) f (va_up g k (some a)) i = lo (ad 0) f g i := fun i hi hi9 => by
      rcases lo_cases (l0 := ad 0) hi9 with z | ⟨q, hq, z⟩ | ⟨q, hq, z⟩
      · rw [z]; rfl
      · rw [z, lo_f hq, lo_f hq]
      · rw [z, lo_g, lo_g, va_up_ne _ _ (by omega)]
    have hlN : lo (ad 0) f (va_up g k (some a)) (k + 7) = some a := by rw [lo_g, va_up_self]
    intro i j b hi hj9 e1 e2
    by_cases zi : i = k + 7
    · by_cases zj : j = k + 7
      · omega
      · rw [zi, hlN] at e1
        cases e1
        rw [hlo j zj hj9] at e2
        exact absurd e2 (hna j hj9)
    · by_cases zj : j = k + 7
      · rw [zj, hlN] at e2
        cases e2
        rw [hlo i zi hi] at e1
        exact absurd e1 (hna i hi)
      · rw [hlo i zi hi] at e1
        rw [hlo j zj hj9] at e2
        exact a9 i j b hi hj9 e1 e2
end SL
