/-! ===== the history and the slots ===== -/
theorem wp_drop {S : PS} {pa st : Nat} {n : Int32} {f : Nat → Option Nat} {P : PS → Prop} (h1 : S pa = .inl (3, [.ref st, .int n])) (h2 : S st = aL 6 f) (hv : ∀ k, k < 6 → ∃ a fs, f k = some a ∧ S a = .inl (1, fs)) (hP : ∀ f', (∀ k, k < 5 → f' k = f (k + 1)) → f' 5 = f 0 → P (va_up (va_up S st (aL 6 f')) pa (.inl (3, [.ref st, .int (nI 5)])))) : wp_X3_dropOldest S pa P := by
  obtain ⟨a0, fs0, e0, k0⟩ := hv 0 (by decide)
  have hps : pa ≠ st := ob_ne h1 h2 lr_ne
  unfold wp_X3_dropOldest
  refine gR_of h1 rfl (lL_of h2 (by decide) (by decide) e0 ?_)
  refine wpL_from 6 (fun k S' => 1 ≤ k ∧ ∃ fk, S' = va_up S st (aL 6 fk) ∧ (∀ j, j + 1 < k → fk j = f (j + 1)) ∧ ∀ j, k ≤ j + 1 → fk j = f j) (by decide) ⟨Nat.le_refl _, f, (up_o h2).symm, fun j hj => by omega, fun _ _ => rfl⟩ ?_ ?_
  · intro S' hS' K
    obtain ⟨-, fk, e, c1, c2⟩ := hS'
    show wpb_X3_dropOldest_9 _ _ _ _ (nI 6) S'
    unfold wpb_X3_dropOldest_9
    rw [e]
    refine br_t (nle_re 6) (gR_of ((up_n hps).trans h1) rfl (sL_of (up_s _ _ _) (by decide) (by decide) ((up_n (ob_ne k0 h2 lr_ne)).trans k0) ?_))
    rw [up_u]
    refine pF_of ((up_n hps).trans h1) (Nat.le_of_ble_eq_true rfl) _ rfl ?_
    refine hP (va_up fk 5 (some a0)) (fun k hk => ?_) ?_
    · rw [va_up_ne _ _ (by omega)]; exact c1 k (by omega)
    · rw [va_up_self, e0]
  · intro k S' hk hS' K hK
    obtain ⟨hk1, fk, e, c1, c2⟩ := hS'
    obtain ⟨b, fs, eb, kb⟩ := hv k hk
    show wpb_X3_dropOldest_9 _ _ _ _ (nI k) S'
    unfold wpb_X3_dropOldest_9
    rw [e]
    refine br_f (nle_ge hk (by decide)) (gR_of ((up_n hps).trans h1) rfl (gR_of ((up_n hps).trans h1) rfl (lL_of (up_s _ _ _) hk (by decide) ((c2 k (by omega)).trans eb) ?_)))
    rw [pk_sub hk1]
    refine sL_of (up_s _ _ _) (by omega) (by decide) ((up_n (ob_ne kb h2 lr_ne)).trans kb) ?_
    rw [up_u]
    intro i ei
    rw [ei, nI_add]
    refine hK _ ⟨by omega, va_up fk (k - 1) (some b), rfl, fun j hj => ?_, fun j hj => ?_⟩
    · by_cases z : j = k - 1
      · rw [z, va_up_self, ← eb]; congr 1; omega
      · rw [va_up_ne _ _ z]; exact c1 j (by omega)
    · rw [va_up_ne _ _ (by omega)]; exact c2 j (by omega)
section PAST
variable {S S' : PS} {tg tg' : Nat → Nat × Nat} {x : Nat} {ad : Nat → Nat} {f g : Nat → Option Nat} {v : LM} {hist : List LM} {sl : Nat → Option LM} {pad : List Nat}
theorem lo_f {l0 : Nat} {k : Nat} (hk : k < 6) : lo l0 f g (k + 1) = f k := by
  show (if k + 1 = 0 then some l0 else if k + 1 < 7 then f (k + 1 - 1) else g (k + 1 - 7)) = f k
  rw [if_neg (by omega), if_pos (by omega)]; rfl
theorem lo_g {l0 : Nat} {j : Nat} : lo l0 f g (j + 7) = g j := by
  show (if j + 7 = 0 then some l0 else if j + 7 < 7 then f (j + 7 - 1) else g (j + 7 - 7)) = g j
  rw [if_neg (by omega), if_neg (by omega)]; rfl
theorem lo_0 {l0 : Nat} : lo l0 f g 0 = some l0 := rfl
theorem lo_cases {l0 : Nat} {i : Nat} (hi : i < 9) : i = 0 ∨ (∃ k, k < 6 ∧ i = k + 1) ∨ ∃ j, j < 2 ∧ i = j + 7 := by
  rcases Nat.eq_zero_or_pos i with z | z
  · exact Or.inl z
  · rcases Nat.lt_or_ge i 7 with q | q
    · exact Or.inr (Or.inl ⟨i - 1, by omega, by omega⟩)
    · exact Or.inr (Or.inr ⟨i - 7, by omega, by omega⟩)
/-- a loom in a place of the history that no longer, or not yet, counts is written anew -/
theorem TkF.slotk {k a : Nat} {v' : LM} (h : TkF S tg x ad f g v hist sl pad) (hk : k < 6) (hkh : hist.length ≤ k) (hf : f k = some a) (hS : ∀ b, ¬ Ow tg a b → S' b = S b) (hv : LmAt S' tg a v') : TkF S' tg x ad f g v hist sl pad := by
  obtain ⟨⟨t1, t2⟩, a1, ⟨a2, a3, a4, a5⟩, a6, a7, a8, a9, b1, c1, d1⟩ := h
  have h0 := hv.tag
  have ea : ∀ j, 1 ≤ j → j < 12 → S' (ad j) = S (ad j) := fun j j1 j2 => hS _ (Ow.no (by rw [t2 j j1 j2]; show 20 ≤ 20 + j; omega))
  have kl : ∀ {b w i}, i ≠ k + 1 → i < 9 → lo (ad 0) f g i = some b → LmAt S tg b w → LmAt S' tg b w := fun {b w i} hi hi2 ha hw => hw.other (fun e => hi (a9 i (k + 1) b hi2 (by omega) ha (by rw [lo_f hk, hf, e]))) hS
  refine ⟨⟨t1, t2⟩, by rw [hS x (Ow.no (by rw [t1]; exact Nat.le_refl 20))]; exact a1, ⟨by rw [ea 1 (by decide) (by decide)]; exact a2, a3, by rw [ea 2 (by decide) (by decide)]; exact a4, by rw [ea 3 (by decide) (by decide)]; exact a5⟩, kl (i := 0) (by omega) (by decide) rfl a6, fun j hj => ⟨fun w hw => ?_, fun b hb => ?_⟩, fun j hj => ⟨(a8 j hj).1, fun w hw => ?_⟩, a9, b1.fr (ea 4 (by decide) (by decide)) (ea 5 (by decide) (by decide)), c1.fr (ea 6 (by decide) (by decide)) (ea 7 (by decide) (by decide)) (ea 8 (by decide) (by decide)) (ea 9 (by decide) (by decide)), d1.fr (ea 10 (by decide) (by decide)) (ea 11 (by decide) (by decide))⟩
  · obtain ⟨b, e1, e2⟩ := (a7 j hj).1 w hw
    have : j < hist.length := (List.getElem?_eq_some_iff.mp hw).1
    exact ⟨b, e1, kl (i := j + 1) (by omega) (by omega) (by rw [lo_f hj]; exact e1) e2⟩
  · by_cases z : j = k
    · subst z
      rw [hf] at hb
      cases hb
      exact ⟨v', hv⟩
    · obtain ⟨w, e⟩ := (a7 j hj).2 b hb
      exact ⟨w, kl (i := j + 1) (by omega) (by omega) (by rw [lo_f hj]; exact hb) e⟩
  · obtain ⟨b, e1, e2⟩ := (a8 j hj).2 w hw
    exact ⟨b, e1, kl (i := j + 7) (by omega) (by omega) (by rw [lo_g]; exact e1) e2⟩
theorem TkF.push {a : Nat} (h : TkF S tg x ad f g v hist sl pad) (hn : hist.length < 6) (ha : LmAt S tg a v) (hna : ∀ i, i < 9 → lo (ad 0) f g i = some a → i = hist.length + 1) : TkF (va_up (va_up S (ad 2) (aL 6 (va_up f hist.length (some a)))) (ad 1) (.inl (3, [.ref (ad 2), .int (nI (hist.length + 1))]))) tg x ad (va_up f hist.length (some a)) g v (hist ++ [v]) sl pad := by
  obtain ⟨⟨t1, t2⟩, a1, ⟨a2, a3, a4, a5⟩, a6, a7, a8, a9, b1, c1, d1⟩ := h
  have h12 : ad 1 ≠ ad 2 := ob_ne a2 a4 lr_ne
  have hro : ∀ b, (tg b).2 ≠ 21 → (tg b).2 ≠ 22 → va_up (va_up S (ad 2) (aL 6 (va_up f hist.length (some a)))) (ad 1) (.inl (3, [.ref (ad 2), .int (nI (hist.length + 1))])) b = S b := fun b h1 h2 => by
    rw [up_n (fun e => h1 (by rw [e, t2 1 (by decide) (by decide)])), up_n (fun e => h2 (by rw [e, t2 2 (by decide) (by decide)]))]
  have hj : ∀ j, 3 ≤ j → j < 12 → va_up (va_up S (ad 2) (aL 6 (va_up f hist.length (some a)))) (ad 1) (.inl (3, [.ref (ad 2), .int (nI (hist.length + 1))])) (ad j) = S (ad j) := fun j j1 j2 => hro _ (by rw [t2 j (by omega) j2]; show 20 + j ≠ 21; omega) (by rw [t2 j (by omega) j2]; show 20 + j ≠ 22; omega)
  have kl : ∀ {b w}, LmAt S tg b w → LmAt (va_up (va_up S (ad 2) (aL 6 (va_up f hist.length (some a)))) (ad 1) (.inl (3, [.ref (ad 2), .int (nI (hist.length + 1))]))) tg b w := fun hw => hw.frame2 (fun b hb => hro b (by omega) (by omega))
  refine ⟨⟨t1, t2⟩, by rw [hro x (by rw [t1]; show 20 ≠ 21; decide) (by rw [t1]; show 20 ≠ 22; decide)]; exact a1, ⟨?_, by rw [List.length_append]; show hist.length + 1 ≤ 6; omega, ?_, by rw [hj 3 (by decide) (by decide)]; exact a5⟩, kl a6, fun j hj6 => ⟨fun w hw => ?_, fun b hb => ?_⟩, fun j hj2 => ⟨(a8 j hj2).1, fun w hw => ?_⟩, ?_, b1.fr (hj 4 (by decide) (by decide)) (hj 5 (by decide) (by decide)), c1.fr (hj 6 (by decide) (by decide)) (hj 7 (by decide) (by decide)) (hj 8 (by decide) (by decide)) (hj 9 (by decide) (by decide)), d1.fr (hj 10 (by decide) (by decide)) (hj 11 (by decide) (by decide))⟩
  · rw [up_s, List.length_append]; rfl
  · rw [up_n (Ne.symm h12), up_s]
  · by_cases z : j = hist.length
    · subst z
      rw [va_up_self]
      rw [List.getElem?_append_right (Nat.le_refl _), Nat.sub_self] at hw
      cases hw
      exact ⟨a, rfl, kl ha⟩
    · have hl : j < (hist ++ [v]).length := (List.getElem?_eq_some_iff.mp hw).1
      rw [List.length_append] at hl
      have hl : j < hist.length + 1 := hl
      rw [List.getElem?_append_left (by omega)] at hw
      obtain ⟨b, e1, e2⟩ := (a7 j hj6).1 w hw
      exact ⟨b, by rw [va_up_ne _ _ z]; exact e1, kl e2⟩
  · by_cases z : j = hist.length
    · subst z
      rw [va_up_self] at hb
      cases hb
      exact ⟨v, kl ha⟩
    · rw [va_up_ne _ _ z] at hb
      obtain ⟨w, e⟩ := (a7 j hj6).2 b hb
      exact ⟨w, kl e⟩
  · obtain ⟨b, e1, e2⟩ := (a8 j hj2).2 w hw
    exact ⟨b, e1, kl e2⟩
  · have hlo : ∀ i, i ≠ hist.length + 1 → i < 9 → lo (ad 0) (va_up f hist.length (some a)) g i = lo (ad 0) f g i := fun i hi hi9 => by
      rcases lo_cases (l0 := ad 0) hi9 with z | ⟨k, hk, z⟩ | ⟨k, hk, z⟩
      · rw [z]; rfl
      · rw [z, lo_f hk, lo_f hk, va_up_ne _ _ (by omega)]
      · rw [z, lo_g, lo_g]
    have hlN : lo (ad 0) (va_up f hist.length (some a)) g (hist.length + 1) = some a := by rw [lo_f hn, va_up_self]
    intro i j b hi hj9 e1 e2
    by_cases zi : i = hist.length + 1
    · by_cases zj : j = hist.length + 1
      · omega
      · rw [zi, hlN] at e1
        cases e1
        rw [hlo j zj hj9] at e2
        exact absurd (hna j hj9 e2) zj
    · by_cases zj : j = hist.length + 1
      · rw [zj, hlN] at e2
        cases e2
        rw [hlo i zi hi] at e1
        exact absurd (hna i hi e1) zi
      · rw [hlo i zi hi] at e1
        rw [hlo j zj hj9] at e2
        exact a9 i j b hi hj9 e1 e2
theorem TkF.alive (h : TkF S tg x ad f g v hist sl pad) {i a : Nat} (hi : i < 9) (ha : lo (ad 0) f g i = some a) (hg : ∀ j, j < 2 → ∀ a, g j = some a → ∃ w, LmAt S tg a w) : ∃ w, LmAt S tg a w := by
  obtain ⟨⟨t1, t2⟩, a1, ⟨a2, a3, a4, a5⟩, a6, a7, a8, a9, b1, c1, d1⟩ := h
  rcases lo_cases (l0 := ad 0) hi with z | ⟨k, hk, z⟩ | ⟨k, hk, z⟩
  · rw [z] at ha; cases ha; exact ⟨v, a6⟩
  · rw [z, lo_f hk] at ha; exact (a7 k hk).2 a ha
  · rw [z, lo_g] at ha; exact hg k hk a ha
theorem TkF.gal (h : TkF S tg x ad f g v hist sl pad) : ∀ j, j < 2 → ∀ a, g j = some a → ∃ w, LmAt S tg a w := by
  obtain ⟨⟨t1, t2⟩, a1, ⟨a2, a3, a4, a5⟩, a6, a7, a8, a9, b1, c1, d1⟩ := h
  intro j hj a ha
  cases e : sl j with
  | none => rw [(a8 j hj).1 e] at ha; cases ha
  | some w =>
    obtain ⟨b, e1, e2⟩ := (a8 j hj).2 w e
    rw [ha] at e1
    cases e1
    exact ⟨w, e2⟩
/-- cells of a loom that isn't the object's change -/
theorem TkF.out {q : Nat} (h : TkF S tg x ad f g v hist sl pad) (hq : ∀ i, i < 9 → lo (ad 0) f g i ≠ some q) (hS : ∀ b, ¬ Ow tg q b → S' b = S b) : TkF S' tg x ad f g v hist sl pad := by
  obtain ⟨⟨t1, t2⟩, a1, ⟨a2, a3, a4, a5⟩, a6, a7, a8, a9, b1, c1, d1⟩ := h
  have ea : ∀ j, 1 ≤ j → j < 12 → S' (ad j) = S (ad j) := fun j j1 j2 => hS _ (Ow.no (by rw [t2 j j1 j2]; show 20 ≤ 20 + j; omega))
  have kl : ∀ {b w i}, i < 9 → lo (ad 0) f g i = some b → LmAt S tg b w → LmAt S' tg b w := fun {b w i} hi ha hw => hw.other (fun e => hq i hi (by rw [ha, e])) hS
  refine ⟨⟨t1, t2⟩, by rw [hS x (Ow.no (by rw [t1]; exact Nat.le_refl 20))]; exact a1, ⟨by rw [ea 1 (by decide) (by decide)]; exact a2, a3, by rw [ea 2 (by decide) (by decide)]; exact a4, by rw [ea 3 (by decide) (by decide)]; exact a5⟩, kl (i := 0) (by decide) rfl a6, fun j hj => ⟨fun w hw => ?_, fun b hb => ?_⟩, fun j hj => ⟨(a8 j hj).1, fun w hw => ?_⟩, a9, b1.fr (ea 4 (by decide) (by decide)) (ea 5 (by decide) (by decide)), c1.fr (ea 6 (by decide) (by decide)) (ea 7 (by decide) (by decide)) (ea 8 (by decide) (by decide)) (ea 9 (by decide) (by decide)), d1.fr (ea 10 (by decide) (by decide)) (ea 11 (by decide) (by decide))⟩
  · obtain ⟨b, e1, e2⟩ := (a7 j hj).1 w hw
    exact ⟨b, e1, kl (i := j + 1) (by omega) (by rw [lo_f hj]; exact e1) e2⟩
  · obtain ⟨w, e⟩ := (a7 j hj).2 b hb
    exact ⟨w, kl (i := j + 1) (by omega) (by rw [lo_f hj]; exact hb) e⟩
  · obtain ⟨b, e1, e2⟩ := (a8 j hj).2 w hw
    exact ⟨b, e1, kl (i := j + 7) (by omega) (by rw [lo_g]; exact e1) e2⟩
/-- a loom's cells are as they were -/
def LK (S : PS) (tg : Nat → Nat × Nat) (S' : PS) (tg' : Nat → Nat × Nat) (a : Nat) : Prop := ∀ b, Ow tg a b → S b ≠ oJ → S' b = S b ∧ tg' b = tg b
theorem LK.tr {S S1 S2 : PS} {tg tg1 tg2 : Nat → Nat × Nat} {a : Nat} (h1 : LK S tg S1 tg1 a) (h2 : LK S1 tg1 S2 tg2 a) : LK S tg S2 tg2 a := fun b ho hb => by
  obtain ⟨a1, a2⟩ := h1 b ho hb
  obtain ⟨c1, c2⟩ := h2 b (by obtain ⟨i, hi, e⟩ := ho; exact ⟨i, hi, by rw [a2]; exact e⟩) (by rw [a1]; exact hb)
  exact ⟨c1.trans a1, c2.trans a2⟩
theorem LK.of {S S' : PS} {tg : Nat → Nat × Nat} {a : Nat} (h : ∀ b, Ow tg a b → S' b = S b) : LK S tg S' tg a := fun b ho _ => ⟨h b ho, rfl⟩
theorem LK.up {S : PS} {tg : Nat → Nat × Nat} {a c : Nat} {o : Ob} (h : 20 ≤ (tg c).2) : LK S tg (va_up S c o) tg a := LK.of fun b ho => up_n (fun e => Ow.no (by rw [e]; exact h) ho)
theorem wp_keep13 {P : PS → Prop} (h : TkF S tg x ad f g v hist sl pad) (hn : hist.length < 6) (hP : ∀ S' tg' f', TkF S' tg' x ad f' g v (hist ++ [v]) sl pad → CK 24 S tg S' tg' → LK S tg S' tg' (ad 0) → P S') : wpk_X3_keep_13 (ad 1) (ad 0) P S := by
  have hh := h
  obtain ⟨⟨t1, t2⟩, a1, ⟨a2, a3, a4, a5⟩, a6, a7, a8, a9, b1, c1, d1⟩ := h
  unfold wpk_X3_keep_13
  -- the loom is copied; it is laid into its place
  have fin : ∀ {S2 S3 : PS} {tg2 : Nat → Nat × Nat} {a : Nat}, TkF S2 tg2 x ad f g v hist sl pad → CK 24 S tg S2 tg2 → LK S tg S2 tg2 (ad 0) → TkF S3 tg2 x ad f g v hist sl pad → LmAt S3 tg2 a v → (∀ q, ¬ Ow tg2 a q → S3 q = S2 q) → (∀ i, i < 9 → lo (ad 0) f g i = some a → i = hist.length + 1) → gR S3 (ad 1) 3 0 (fun a48 => gI S3 (ad 1) 3 1 (fun i51 => sL S3 a48 i51 a (fun S57 => gI S57 (ad 1) 3 1 (fun i59 => pF S57 (ad 1) 3 1 (.int (i59 + (nI 1))) (fun S63 => P S63))))) := by
    intro S2 S3 tg2 a h2 ck lk h3 hl hf hna
    have ha0 : a ≠ ad 0 := fun z => by
      have := hna 0 (by decide) (by rw [z]; rfl)
      omega
    have hpush := h3.push hn hl hna
    obtain ⟨⟨u1, u2⟩, x1, ⟨x2, x3, x4, x5⟩, -⟩ := h3
    have h12 : ad 1 ≠ ad 2 := ob_ne x2 x4 lr_ne
    obtain ⟨fs, ea⟩ := hl.at
    refine gR_of x2 rfl (gI_of x2 rfl (sL_of x4 hn (by decide) ea (gI_of ((up_n h12).trans x2) rfl (pF_of ((up_n h12).trans x2) (Nat.le_of_ble_eq_true rfl) _ rfl ?_))))
    rw [nI_add]
    refine hP _ tg2 _ hpush ((ck.tr (CK.ow (by decide) hf)).tr ((CK.up ?_).tr (CK.up ?_))) ((lk.tr (LK.of fun b ho => hf b (fun z => ha0 (z.one ho)))).tr ((LK.up ?_).tr (LK.up ?_)))
    · rw [u2 2 (by decide) (by decide)]; show 22 < 24; decide
    · rw [u2 1 (by decide) (by decide)]; show 21 < 24; decide
    · rw [u2 2 (by decide) (by decide)]; show 20 ≤ 22; decide
    · rw [u2 1 (by decide) (by decide)]; show 20 ≤ 21; decide
  refine gI_of a2 rfl (wp_below_t (by decide) hn (br_f n1z (gR_of a2 rfl (gI_of a2 rfl (lLo_of a4 hn (by decide) (fun e => ?_) (fun a e => ?_))))))
  · intro q hq S1 e1
    have s1q : S1 q = .inl (1, [.long 0, .long 0, .long 0, .null, .null, .int 0, .int 0]) := by rw [e1, up_s]
    refine ⟨by rw [s1q]; exact l_ne_oJ (by decide), ?_⟩
    have nq : ∀ {b}, S b ≠ oJ → b ≠ q := fun hb z => hb (by rw [z]; exact hq)
    refine wp_initL (tg := va_up tg q (q, 0)) s1q (va_up_self _ _ _) (fun S2 tg2 l2 k2 => ?_)
    have old : ∀ b, S b ≠ oJ → tg2 b = tg b ∧ S2 b = S b := fun b hb => by
      have z := k2 b (by rw [e1, up_n (nq hb)]; exact hb)
      exact ⟨z.1.trans (va_up_ne _ _ (nq hb)), (z.2.2 (nq hb)).trans (by rw [e1, up_n (nq hb)])⟩
    have h2 : TkF S2 tg2 x ad f g v hist sl pad := hh.keep (fun b hb _ => ⟨(old b hb).2, (old b hb).1⟩)
    have hnq : ∀ i, i < 9 → lo (ad 0) f g i ≠ some q := fun i hi e => by
      obtain ⟨w, hw⟩ := hh.alive hi e hh.gal
      obtain ⟨fs, e⟩ := hw.at
      exact nq (by rw [e]; exact l_ne_oJ (by decide)) rfl
    have h0q : q ≠ ad 0 := fun e => hnq 0 (by decide) (by rw [e]; rfl)
    obtain ⟨fs, eq⟩ := l2.at
    refine rc_of eq (wp_copyL l2 h2.2.2.2.1 h0q (fun S3 l3 f3 => ?_))
    exact fin h2 (fun b hb _ => old b hb) (fun b _ hb => ⟨(old b hb).2, (old b hb).1⟩) (h2.out hnq f3) l3 f3 (fun i hi e => absurd e (hnq i hi))
  · obtain ⟨w, hw⟩ := (a7 hist.length hn).2 a e
    obtain ⟨fs, ea⟩ := hw.at
    have ha0 : a ≠ ad 0 := fun z => by
      have := a9 (hist.length + 1) 0 a (by omega) (by decide) (by rw [lo_f hn, e]) (by rw [z]; rfl)
      omega
    refine rc_of ea (wp_copyL hw a6 ha0 (fun S3 l3 f3 => ?_))
    exact fin hh CK.rf (fun _ _ _ => ⟨rfl, rfl⟩) (hh.slotk hn (Nat.le_refl _) e f3 l3) l3 f3 (fun i hi z => a9 i (hist.length + 1) a hi (by omega) z (by rw [lo_f hn, e]))
def pushH (hist : List LM) (v : LM) : List LM := if hist.length < 6 then hist ++ [v] else hist.tail ++ [v]
theorem wp_keep {P : PS → Prop} (h : TkF S tg x ad f g v hist sl pad) (hP : ∀ S' tg' f', TkF S' tg' x ad f' g v (pushH hist v) sl pad → CK 24 S tg S' tg' → LK S tg S' tg' (ad 0) → P S') : wp_X3_keep S (ad 1) (ad 0) P := by
  have hh := h
  obtain ⟨⟨t1, t2⟩, a1, ⟨a2, a3, a4, a5⟩, a6, a7, a8, a9, b1, c1, d1⟩ := h
  have h12 : ad 1 ≠ ad 2 := ob_ne a2 a4 lr_ne
  unfold wp_X3_keep
  unfold pushH at hP
  refine gI_of a2 rfl ?_
  rcases Nat.lt_or_ge hist.length 6 with z | z
  · rw [if_pos z] at hP
    exact br_t (nI_lt z (by decide)) (wp_keep13 hh z hP)
  · rw [if_neg (by omega)] at hP
    have e6 : hist.length = 6 := by omega
    refine br_f (nI_nlt z (by omega)) (rc_of a2 (wp_drop a2 a4 (fun k hk => ?_) (fun f' g1 g2 => ?_)))
    · have hk' : k < hist.length := by omega
      obtain ⟨a, e1, e2⟩ := (a7 k hk).1 hist[k] (List.getElem?_eq_getElem hk')
      obtain ⟨fs, e3⟩ := e2.at
      exact ⟨a, fs, e1, e3⟩
    · have hro : ∀ b, (tg b).2 ≠ 21 → (tg b).2 ≠ 22 → va_up (va_up S (ad 2) (aL 6 f')) (ad 1) (.inl (3, [.ref (ad 2), .int (nI 5)])) b = S b := fun b h1 h2 => by
        rw [up_n (fun e => h1 (by rw [e, t2 1 (by decide) (by decide)])), up_n (fun e => h2 (by rw [e, t2 2 (by decide) (by decide)]))]
      have hj : ∀ j, 3 ≤ j → j < 12 → va_up (va_up S (ad 2) (aL 6 f')) (ad 1) (.inl (3, [.ref (ad 2), .int (nI 5)])) (ad j) = S (ad j) := fun j j1 j2 => hro _ (by rw [t2 j (by omega) j2]; show 20 + j ≠ 21; omega) (by rw [t2 j (by omega) j2]; show 20 + j ≠ 22; omega)
      have kl : ∀ {b w}, LmAt S tg b w → LmAt (va_up (va_up S (ad 2) (aL 6 f')) (ad 1) (.inl (3, [.ref (ad 2), .int (nI 5)]))) tg b w := fun hw => hw.frame2 (fun b hb => hro b (by omega) (by omega))
      have hrot : ∀ k, k < 6 → f' k = f (if k < 5 then k + 1 else 0) := fun k hk => by
        by_cases q : k < 5
        · rw [if_pos q]; exact g1 k q
        · rw [if_neg q, show k = 5 by omega]; exact g2
      have hl5 : hist.tail.length = 5 := by rw [List.length_tail]; omega
      have hT : TkF (va_up (va_up S (ad 2) (aL 6 f')) (ad 1) (.inl (3, [.ref (ad 2), .int (nI 5)]))) tg x ad f' g v hist.tail sl pad := by
        refine ⟨⟨t1, t2⟩, by rw [hro x (by rw [t1]; show 20 ≠ 21; decide) (by rw [t1]; show 20 ≠ 22; decide)]; exact a1, ⟨by rw [up_s, hl5], by omega, by rw [up_n (Ne.symm h12), up_s], by rw [hj 3 (by decide) (by decide)]; exact a5⟩, kl a6, fun j hj6 => ⟨fun w hw => ?_, fun b hb => ?_⟩, fun j hj2 => ⟨(a8 j hj2).1, fun w hw => ?_⟩, ?_, b1.fr (hj 4 (by decide) (by decide)) (hj 5 (by decide) (by decide)), c1.fr (hj 6 (by decide) (by decide)) (hj 7 (by decide) (by decide)) (hj 8 (by decide) (by decide)) (hj 9 (by decide) (by decide)), d1.fr (hj 10 (by decide) (by decide)) (hj 11 (by decide) (by decide))⟩
        · have hl : j < hist.tail.length := (List.getElem?_eq_some_iff.mp hw).1
          rw [List.getElem?_tail] at hw
          obtain ⟨b, e1, e2⟩ := (a7 (j + 1) (by omega)).1 w hw
          exact ⟨b, by rw [g1 j (by omega)]; exact e1, kl e2⟩
        · rw [hrot j hj6] at hb
          obtain ⟨w, e⟩ := (a7 _ (by split <;> omega)).2 b hb
          exact ⟨w, kl e⟩
        · obtain ⟨b, e1, e2⟩ := (a8 j hj2).2 w hw
          exact ⟨b, e1, kl e2⟩
        · have hlo : ∀ i, i < 9 → lo (ad 0) f' g i = lo (ad 0) f g (if i = 0 then 0 else if i < 6 then i + 1 else if i = 6 then 1 else i) := fun i hi => by
            rcases lo_cases (l0 := ad 0) hi with z | ⟨k, hk, z⟩ | ⟨k, hk, z⟩
            · rw [z]; rfl
            · rw [z, lo_f hk, hrot k hk]
              by_cases q : k < 5
              · have e : (if k + 1 = 0 then 0 else if k + 1 < 6 then k + 1 + 1 else if k + 1 = 6 then 1 else k + 1) = k + 1 + 1 := by rw [if_neg (by omega), if_pos (by omega)]
                rw [if_pos q, e, lo_f (by omega)]
              · have e : (if k + 1 = 0 then 0 else if k + 1 < 6 then k + 1 + 1 else if k + 1 = 6 then 1 else k + 1) = 0 + 1 := by rw [if_neg (by omega), if_neg (by omega), if_pos (by omega)]
                rw [if_neg q, e, lo_f (by decide)]
            · rw [z, lo_g, if_neg (by omega), if_neg (by omega), if_neg (by omega), lo_g]
          intro i j b hi hj9 e1 e2
          rw [hlo i hi] at e1
          rw [hlo j hj9] at e2
          have := a9 _ _ b (by split <;> (try split) <;> (try split) <;> omega) (by split <;> (try split) <;> (try split) <;> omega) e1 e2
          split at this <;> (try split at this) <;> (try split at this) <;> (try split at this) <;> (try split at this) <;> (try split at this) <;> omega
      refine wp_keep13 hT (by omega) (fun S' tg' f'' h1 h2 h3 => hP S' tg' f'' h1 (CK.tr (CK.of fun b hb => hro b (by omega) (by omega)) h2) (LK.tr (LK.of fun b ho => hro b (by obtain ⟨i, hi, e⟩ := ho; rw [e]; show i ≠ 21; omega) (by obtain ⟨i, hi, e⟩ := ho; rw [e]; show i ≠ 22; omega)) h3))
end PAST
