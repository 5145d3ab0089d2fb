/-! ===== the reference: undo, slots, put, tie, dye ===== -/
theorem va2 {α : Type} (A : Nat → α) (i : Nat) (x y : α) : va_up (va_up A i x) i y = va_up A i y := funext fun j => (if z : j = i then by rw [z, va_up_self, va_up_self] else by rw [va_up_ne _ _ z, va_up_ne _ _ z, va_up_ne _ _ z])
theorem va1 {α : Type} (A : Nat → α) (i : Nat) : va_up A i (A i) = A := funext fun j => (if z : j = i then by rw [z, va_up_self] else va_up_ne _ _ z)
theorem wp_win {x : Int32} (n : Nat) {Q : Int32 → Prop} (hn : n < 1000000) (h0 : 0 < n) (h1 : ∀ j, j < n → x = nI j → Q (nI 1)) (hb : bad x n → Q (nI 0)) : wp_X8_within x (nI 0) (nI (n - 1)) Q := by
  unfold wp_X8_within
  rcases pk_ix x (show n < 2 ^ 31 by omega) with g | g | ⟨j, hj, e⟩
  · exact br_t g (hb (Or.inl g))
  · refine br_c (fun c => hb (Or.inl c)) (fun _ => br_t ?_ (hb (Or.inr g)))
    have e : nI n = nI (n - 1) + 1 := by rw [← nI_succ]; congr 1; omega
    rw [fa_lt]
    rw [fa_le, nI_toInt (by omega)] at g
    rw [nI_toInt (by omega)]
    omega
  · subst e
    exact br_f (nI_pos (by omega)) (br_f (fun c => absurd ((nI_ltI (by omega) (by omega)).mp c) (by omega)) (h1 j hj rfl))
theorem b11 : nI 1 &&& 1 = nI 1 := by decide
theorem b00 : nI 0 &&& 1 = nI 0 := by decide
theorem wp_isP {x : Int32} {Q : Int32 → Prop} (h1 : ∀ j, j < 12 → x = nI j → Q (nI 1)) (hb : bad x 12 → Q (nI 0)) : wp_X8_isPlace x Q := wp_win 12 (by decide) (by decide) (fun j hj e => ⟨b11, h1 j hj e⟩) (fun b => ⟨b00, hb b⟩)
theorem wp_isD {x : Int32} {Q : Int32 → Prop} (h1 : ∀ j, j < 6 → x = nI j → Q (nI 1)) (hb : bad x 6 → Q (nI 0)) : wp_X8_isDraft x Q := wp_win 6 (by decide) (by decide) (fun j hj e => ⟨b11, h1 j hj e⟩) (fun b => ⟨b00, hb b⟩)
theorem wp_isS {x : Int32} {Q : Int32 → Prop} (h1 : ∀ j, j < 64 → x = nI j → Q (nI 1)) (hb : bad x 64 → Q (nI 0)) : wp_X8_areDrafts x Q := wp_win 64 (by decide) (by decide) (fun j hj e => ⟨b11, h1 j hj e⟩) (fun b => ⟨b00, hb b⟩)
theorem no_bad {j n : Nat} (hj : j < n) (hn : n < 1000000) : ¬ bad (nI j) n := fun q => by
  rcases q with q | q
  · exact absurd q (nI_pos (by omega))
  · exact absurd q (nI_ge hj (by omega))
section MO
variable {S0 S S' : PS} {tg : Nat → Nat × Nat} {m : Nat} {bd : Nat → Nat} {A A' : Nat → Nat → Int32} {I I' : Nat → Int32} {v w : LM} {hist : List LM} {sl : Nat → Option LM} {pad : List Nat} {P : Int32 → PS → Prop} {Q : Int32 → Prop}
/-- a cell of the row of numbers -/
theorem md_st (h : MdS S0 S tg m bd A I) {k : Nat} {x : Int32} (hk : k < 194) (e : A 0 k = x) (hQ : Q x) : lI S (bd 0) (nI k) Q := lI_of (h.ar (i := 0) (by decide)) (show k < 194 from hk) (by decide) (by rw [e]; exact hQ)
theorem md_set (h : MdS S0 S tg m bd A I) {k : Nat} {x : Int32} {R : PS → Prop} (hk : k < 194) (hR : ∀ S', MdS S0 S' tg m bd (va_up A 0 (upd (A 0) k x)) I → R S') : sI S (bd 0) (nI k) x R := sI_of (h.ar (i := 0) (by decide)) (show k < 194 from hk) (by decide) (hR _ (h.setA (i := 0) (by decide)))
theorem wp_atHome (h : MdS S0 S tg m bd A I) (hv : okL v) (hA : ∀ k, k < 194 → A 0 k = stn v k) (hQ : Q (nI (hom v))) : wp_X8_atHome S m Q := by
  unfold wp_X8_atHome
  refine wpL_for 12 (fun k t => t = nI (fb_ct (fun p => thF v p == p) k)) rfl ?_ ?_
  · intro t ht K
    show wpb_X8_atHome_4 _ _ _ _ (nI 12) t
    unfold wpb_X8_atHome_4
    exact br_t (nle_re 12) (by rw [ht]; exact hQ)
  · intro k t hk ht K hK
    show wpb_X8_atHome_4 _ _ _ _ (nI k) t
    unfold wpb_X8_atHome_4
    refine br_f (nle_ge hk (by decide)) (gR_of h.ob rfl ?_)
    rw [nI_add]
    refine md_st h (show 18 + k < 194 by omega) ((hA _ (by omega)).trans (stn_th hk)) (br_c (fun e => ?_) (fun e => ?_))
    · have e := (nI_eq (show thF v k < 2 ^ 31 by have := hv.2.2.1.1 k hk; omega) (by omega)).mp e
      intro i14 e14 i15 e15
      rw [e15, e14, nI_add, ht, nI_add]
      refine hK _ ?_
      rw [fb_ct_succ, if_pos (by simp [e])]
    · have e : ¬ thF v k = k := fun c => e (by rw [c])
      intro i14 e14 i15 e15
      rw [e15, e14, nI_add, ht, nI_add]
      refine hK _ ?_
      rw [fb_ct_succ, if_neg (by simp [e])]
theorem md_undo_no (h : MdS S0 S tg m bd A I) (hr : RA A I v hist sl pad) (h0 : hist.length = 0) (hP : P (-5) S) : wp_X8_undo S m P := by
  unfold wp_X8_undo
  refine gI_of h.ob rfl ?_
  rw [hr.2.1.1, h0]
  exact br_t rfl hP
theorem md_undo (h : MdS S0 S tg m bd A I) (hr : RA A I v hist sl pad) (hw : hist[hist.length - 1]? = some w) (hP : ∀ S' A' I', MdS S0 S' tg m bd A' I' → RA A' I' w hist.dropLast sl pad → P (nI (hist.length - 1)) S') : wp_X8_undo S m P := by
  obtain ⟨r1, ⟨r2, r3⟩, r4, r5, r6, r7⟩ := hr
  have hlt := (List.getElem?_eq_some_iff.mp hw).1
  have ew : hist.getD (hist.length - 1) v0 = w := by simp [List.getD, hw]
  unfold wp_X8_undo
  refine gI_of h.ob rfl (br_f (by rw [r2]; exact nI_ne0 (by omega) (by omega)) (gI_of h.ob rfl (pF_of h.ob (Nat.le_of_ble_eq_true rfl) _ rfl ?_)))
  have es : I 0 - nI 1 = nI (hist.length - 1) := by rw [r2]; exact pk_sub (by omega)
  have h1 := h.setI (k := 0) (x := I 0 - nI 1) rfl
  refine wpL_for 194 (fun k S1 => ∃ F, MdS S0 S1 tg m bd (va_up A 0 F) (va_up I 0 (I 0 - nI 1)) ∧ ∀ q, q < k → F q = stn w q) ⟨A 0, by rw [va1]; exact h1, fun q hq => absurd hq (Nat.not_lt_zero _)⟩ ?_ ?_
  · intro S1 hS K
    obtain ⟨F, h2, h3⟩ := hS
    show wpb_X8_undo_22 _ _ _ (nI 194) S1
    unfold wpb_X8_undo_22
    refine br_t (nle_re 194) (gI_of h2.ob rfl ?_)
    show P (I 0 - nI 1) S1
    rw [es]
    refine hP _ _ _ h2 ⟨h3, ⟨by rw [va_up_self, es, List.length_dropLast], by rw [List.length_dropLast]; omega⟩, fun j hj k hk => ?_, r5, r6, r7⟩
    rw [List.length_dropLast] at hj
    show A 1 (194 * j + k) = _
    rw [r4 j (by omega) k hk]
    have e : hist.dropLast.getD j v0 = hist.getD j v0 := by
      show (hist.dropLast[j]?).getD v0 = (hist[j]?).getD v0
      rw [List.getElem?_dropLast, if_pos hj]
    rw [e]
  · intro k S1 hk hS K hK
    obtain ⟨F, h2, h3⟩ := hS
    show wpb_X8_undo_22 _ _ _ (nI k) S1
    unfold wpb_X8_undo_22
    refine br_f (nle_ge hk (by decide)) (gR_of h2.ob rfl (gR_of h2.ob rfl (gI_of h2.ob rfl ?_)))
    show lI S1 (bd 1) ((I 0 - nI 1) * nI 194 + nI k) _
    rw [es, pk_mul, nI_add, Nat.mul_comm]
    refine lI_of (h2.ar (i := 1) (by decide)) (show 194 * (hist.length - 1) + k < 1164 by omega) (by decide) (md_set h2 hk (fun S2 h4 i34 e34 => ?_))
    rw [e34, nI_add]
    rw [va2] at h4
    refine hK _ ⟨_, h4, fun q hq => ?_⟩
    by_cases z : q = k
    · rw [z, pk_us]
      show A 1 (194 * (hist.length - 1) + k) = _
      rw [r4 _ (by omega) k hk, ew]
    · rw [pk_un z]; exact h3 q (by omega)
theorem md_save_no {y : Int32} (hb : bad y 2) (hP : P (-2) S) : wp_X8_save S m y P := wp_win 2 (by decide) (by decide) (fun j hj e => absurd (e ▸ hb) (no_bad hj (by decide))) (fun _ => br_t rfl hP)
theorem md_save {j : Nat} (h : MdS S0 S tg m bd A I) (hr : RA A I v hist sl pad) (hv : okL v) (hj : j < 2) (hP : ∀ S' A' I', MdS S0 S' tg m bd A' I' → RA A' I' v hist (fun q => if q = j then some v else sl q) pad → P (nI (hom v)) S') : wp_X8_save S m (nI j) P := by
  obtain ⟨r1, ⟨r2, r3⟩, r4, r5, r6, r7⟩ := hr
  refine wp_win 2 (by decide) (by decide) (fun _ _ _ => br_f n1z ?_) (fun b => absurd b (no_bad hj (by decide)))
  refine wpL_for 194 (fun k S1 => ∃ F, MdS S0 S1 tg m bd (va_up A 2 F) I ∧ (∀ q, q < k → F (194 * j + q) = stn v q) ∧ ∀ i, i < 2 → i ≠ j → ∀ q, q < 194 → F (194 * i + q) = A 2 (194 * i + q)) ⟨A 2, by rw [va1]; exact h, fun q hq => absurd hq (Nat.not_lt_zero _), fun _ _ _ _ _ => rfl⟩ ?_ ?_
  · intro S1 hS K
    obtain ⟨F, h2, h3, h4⟩ := hS
    show wpb_X8_save_14 _ _ _ _ (nI 194) S1
    unfold wpb_X8_save_14
    refine br_t (nle_re 194) (gR_of h2.ob rfl (sI_of (h2.ar (i := 3) (by decide)) (show j < 2 from hj) (by decide) ?_))
    have h5 := h2.setA (i := 3) (F := upd (A 3) j (nI 1)) (by decide)
    refine rc_of h5.ob (wp_atHome h5 hv (fun k hk => r1 k hk) ?_)
    refine hP _ _ _ h5 ⟨r1, ⟨r2, r3⟩, r4, fun i hi => ⟨fun (hn : (if i = j then some v else sl i) = none) => ?_, fun w (hw : (if i = j then some v else sl i) = some w) => ?_⟩, r6, r7⟩
    · show upd (A 3) j (nI 1) i = nI 0
      by_cases z : i = j
      · rw [if_pos z] at hn; cases hn
      · rw [if_neg z] at hn; rw [pk_un z]; exact (r5 i hi).1 hn
    · show upd (A 3) j (nI 1) i = nI 1 ∧ ∀ k, k < 194 → F (194 * i + k) = stn w k
      by_cases z : i = j
      · rw [if_pos z] at hw
        cases hw
        rw [z, pk_us]
        exact ⟨rfl, h3⟩
      · rw [if_neg z] at hw
        rw [pk_un z]
        obtain ⟨a1, a2⟩ := (r5 i hi).2 w hw
        exact ⟨a1, fun k hk => (h4 i hi z k hk).trans (a2 k hk)⟩
  · intro k S1 hk hS K hK
    obtain ⟨F, h2, h3, h4⟩ := hS
    show wpb_X8_save_14 _ _ _ _ (nI k) S1
    unfold wpb_X8_save_14
    refine br_f (nle_ge hk (by decide)) (gR_of h2.ob rfl (gR_of h2.ob rfl (md_st h2 hk (r1 k hk) ?_)))
    rw [pk_mul, nI_add]
    refine sI_of (h2.ar (i := 2) (by decide)) (show 194 * j + k < 388 by omega) (by decide) (fun i30 e30 => ?_)
    have h5 := h2.setA (i := 2) (F := upd F (194 * j + k) (stn v k)) (by decide)
    rw [va2] at h5
    rw [e30, nI_add]
    refine hK _ ⟨_, h5, fun q hq => ?_, fun i hi hij q hq => ?_⟩
    · by_cases z : q = k
      · rw [z, pk_us]
      · rw [pk_un (by omega)]; exact h3 q (by omega)
    · rw [pk_un (by omega)]; exact h4 i hi hij q hq
theorem md_restore_no {y : Int32} (hb : bad y 2) (hP : P (-2) S) : wp_X8_restore S m y P := wp_win 2 (by decide) (by decide) (fun j hj e => absurd (e ▸ hb) (no_bad hj (by decide))) (fun _ => br_t rfl hP)
theorem md_restore_none {j : Nat} (h : MdS S0 S tg m bd A I) (hr : RA A I v hist sl pad) (hj : j < 2) (hs : sl j = none) (hP : P (-5) S) : wp_X8_restore S m (nI j) P := by
  refine wp_win 2 (by decide) (by decide) (fun _ _ _ => br_f n1z ?_) (fun b => absurd b (no_bad hj (by decide)))
  refine gR_of h.ob rfl (lI_of (h.ar (i := 3) (by decide)) (show j < 2 from hj) (by decide) ?_)
  exact br_t ((hr.2.2.2.1 j hj).1 hs) hP
theorem md_restore {j : Nat} (h : MdS S0 S tg m bd A I) (hr : RA A I v hist sl pad) (hw : okL w) (hj : j < 2) (hs : sl j = some w) (hP : ∀ S' A' I', MdS S0 S' tg m bd A' I' → RA A' I' w (pushH hist v) sl pad → P (nI (hom w)) S') : wp_X8_restore S m (nI j) P := by
  refine wp_win 2 (by decide) (by decide) (fun _ _ _ => br_f n1z ?_) (fun b => absurd b (no_bad hj (by decide)))
  refine gR_of h.ob rfl (lI_of (h.ar (i := 3) (by decide)) (show j < 2 from hj) (by decide) ?_)
  refine br_f (by rw [((hr.2.2.2.1 j hj).2 w hs).1]; exact n1z) (rc_of h.ob (wp_record h hr (fun S1 A1 I1 h1 hr1 => ?_)))
  obtain ⟨r1, ⟨r2, r3⟩, r4, r5, r6, r7⟩ := hr1
  obtain ⟨a1, a2⟩ := (r5 j hj).2 w hs
  refine wpL_for 194 (fun k S2 => ∃ F, MdS S0 S2 tg m bd (va_up A1 0 F) I1 ∧ ∀ q, q < k → F q = stn w q) ⟨A1 0, by rw [va1]; exact h1, fun q hq => absurd hq (Nat.not_lt_zero _)⟩ ?_ ?_
  · intro S2 hS K
    obtain ⟨F, h2, h3⟩ := hS
    show wpb_X8_restore_30 _ _ _ _ (nI 194) S2
    unfold wpb_X8_restore_30
    exact br_t (nle_re 194) (rc_of h2.ob (wp_atHome h2 hw h3 (hP _ _ _ h2 ⟨h3, ⟨r2, r3⟩, r4, r5, r6, r7⟩)))
  · intro k S2 hk hS K hK
    obtain ⟨F, h2, h3⟩ := hS
    show wpb_X8_restore_30 _ _ _ _ (nI k) S2
    unfold wpb_X8_restore_30
    refine br_f (nle_ge hk (by decide)) (gR_of h2.ob rfl (gR_of h2.ob rfl ?_))
    rw [pk_mul, nI_add]
    refine lI_of (h2.ar (i := 2) (by decide)) (show 194 * j + k < 388 by omega) (by decide) (md_set h2 hk (fun S3 h4 i34 e34 => ?_))
    rw [e34, nI_add]
    rw [va2] at h4
    refine hK _ ⟨_, h4, fun q hq => ?_⟩
    by_cases z : q = k
    · rw [z, pk_us]; exact a2 k hk
    · rw [pk_un z]; exact h3 q (by omega)
end MO
