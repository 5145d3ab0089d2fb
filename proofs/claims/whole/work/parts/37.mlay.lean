/-! ===== the reference: where threads come ===== -/
section ML
variable {S0 S S' : PS} {tg : Nat → Nat × Nat} {m : Nat} {bd : Nat → Nat} {A A' : Nat → Nat → Int32} {I I' : Nat → Int32} {v w : LM} {hist : List LM} {sl : Nat → Option LM} {pad : List Nat} {P : PS → Prop} {Q : Int32 → Prop}
theorem wp_len (h : MdS S0 S tg m bd A I) (hA : ∀ k, k < 194 → A 0 k = stn v k) {d : Nat} (hd : d < 6) (hQ : Q (nI (drF v d).length)) : wp_X8_lengthOf S m (nI d) Q := by
  unfold wp_X8_lengthOf
  refine gR_of h.ob rfl ?_
  rw [nI_add]
  exact md_st h (show 42 + d < 194 by omega) ((hA _ (by omega)).trans (stn_le hd)) hQ
theorem wp_prO (h : MdS S0 S tg m bd A I) (hA : ∀ k, k < 194 → A 0 k = stn v k) {d k : Nat} (hd : d < 6) (hk : k < 24) (hQ : Q (nI ((drF v d).getD k 0))) : wp_X8_pressOf S m (nI d) (nI k) Q := by
  unfold wp_X8_pressOf
  refine gR_of h.ob rfl ?_
  rw [pk_mul, nI_add, nI_add]
  exact md_st h (show 48 + 24 * d + k < 194 by omega) ((hA _ (by omega)).trans (stn_pr hd hk)) hQ
theorem wp_go {R : Nat → Bool} {s p : Nat} (hs : s < 12) (hp : p < 12) (hR : R p = true) (hQ : Q (nI (go R s 12 ((p + s) % 12)))) : wpk_X8_pressed_33 (nI p) (nI (bs R 12)) Q (nI s) := by
  unfold wpk_X8_pressed_33
  intro i6 e6
  rw [e6, nI_add, pk_rem (by omega) (by decide) (by decide)]
  have key : ∀ k n q, q < 12 → k < n → R ((q + k * s) % 12) = true → Q (nI (go R s n q)) → wpL (fun (K42 : (Int32) → Prop) (q : Int32) => wpb_X8_pressed_42 (nI (bs R 12)) (nI s) Q K42 q) (k + 1) (nI q) := by
    intro k
    induction k with
    | zero =>
      intro n q hq hn hr h
      show wpb_X8_pressed_42 _ _ _ _ (nI q)
      unfold wpb_X8_pressed_42
      rw [Nat.zero_mul, Nat.add_zero, Nat.mod_eq_of_lt hq] at hr
      rw [sr_bit (Nat.lt_trans (bs_lt R 12) (by decide)) (by omega), bs_bit]
      obtain ⟨n', rfl⟩ : ∃ n', n = n' + 1 := ⟨n - 1, by omega⟩
      have e : go R s (n' + 1) q = q := by show (if R q then q else _) = q; rw [if_pos hr]
      rw [e] at h
      exact br_f (by simp [hq, hr]; exact n1z) h
    | succ k ih =>
      intro n q hq hn hr h
      show wpb_X8_pressed_42 _ _ _ _ (nI q)
      unfold wpb_X8_pressed_42
      rw [sr_bit (Nat.lt_trans (bs_lt R 12) (by decide)) (by omega), bs_bit]
      obtain ⟨n', rfl⟩ : ∃ n', n = n' + 1 := ⟨n - 1, by omega⟩
      cases c : R q with
      | true =>
        have e : go R s (n' + 1) q = q := by show (if R q then q else _) = q; rw [if_pos c]
        rw [e] at h
        exact br_f (by simp [hq]; exact n1z) h
      | false =>
        have e : go R s (n' + 1) q = go R s n' ((q + s) % 12) := by show (if R q then q else _) = _; rw [if_neg (by rw [c]; decide)]
        rw [e] at h
        refine br_t (by simp; rfl) (fun i9 e9 => ?_)
        rw [e9, nI_add, pk_rem (by omega) (by decide) (by decide)]
        refine ih n' _ (Nat.mod_lt _ (by decide)) (by omega) ?_ h
        rw [Nat.mod_add_mod, show q + s + k * s = q + (k + 1) * s by rw [Nat.succ_mul]; omega]
        exact hr
  refine ⟨12, key 11 12 _ (Nat.mod_lt _ (by decide)) (by decide) ?_ hQ⟩
  rw [Nat.mod_add_mod, show p + s + 11 * s = p + 12 * s by omega, Nat.add_mul_mod_self_left, Nat.mod_eq_of_lt hp]
  exact hR
theorem wp_pressed (h : MdS S0 S tg m bd A I) (hA : ∀ k, k < 194 → A 0 k = stn v k) (hv : okL v) {q x : Nat} (hq : q < 12) (hx : x < 12) (hQ : Q (nI (prW v x q))) : wp_X8_pressed S m (nI q) (nI x) Q := by
  unfold wp_X8_pressed
  rw [pk_rem (by omega) (by decide) (by decide)]
  refine rc_of h.ob (wp_raised h hA hv (Nat.mod_lt _ (by decide)) ?_)
  rw [sr_bit (Nat.lt_trans (bs_lt _ 12) (by decide)) (by omega)]
  unfold prW prs at hQ
  have ebs : bs (fun p => (bs (ra v (x % 6)) 12).testBit p) 12 = bs (ra v (x % 6)) 12 := bs_ext fun j hj => by rw [bs_bit]; simp [hj]
  cases c : (bs (ra v (x % 6)) 12).testBit q with
  | false =>
    rw [if_neg (show ¬ (fun p => (bs (ra v (x % 6)) 12).testBit p) q = true from fun z => by rw [show (bs (ra v (x % 6)) 12).testBit q = true from z] at c; cases c)] at hQ
    exact br_t (by simp; rfl) hQ
  | true =>
    rw [if_pos c] at hQ
    refine br_f (by simp; exact n1z) ?_
    rw [← ebs]
    rcases Nat.lt_or_ge x 6 with z | z
    · rw [if_pos z] at hQ
      exact br_f (nI_ge z (by decide)) (wp_go (by decide) hq c hQ)
    · rw [if_neg (by omega)] at hQ
      exact br_t (nI_le z (by omega)) (wp_go (by decide) hq c hQ)
/-- where the threads come by a draft is laid -/
theorem wp_lay (h : MdS S0 S tg m bd A I) (hA : ∀ k, k < 194 → A 0 k = stn v k) (hv : okL v) {d : Nat} (hd : d < 6) (hP : ∀ S' F, MdS S0 S' tg m bd (va_up A 6 F) I → (∀ p, p < 12 → F (12 * d + p) = nI (wy v d p)) → (∀ i, (i < 12 * d ∨ 12 * d + 12 ≤ i) → F i = A 6 i) → P S') : wp_X8_lay S m (nI d) P := by
  have hl := hv.2.2.2.2 d hd
  unfold wp_X8_lay
  refine wpL_for 12 (fun k S1 => ∃ F, MdS S0 S1 tg m bd (va_up A 6 F) I ∧ (∀ p, p < k → F (12 * d + p) = nI (wy v d p)) ∧ ∀ i, (i < 12 * d ∨ 12 * d + 12 ≤ i) → F i = A 6 i) ⟨A 6, by rw [va1]; exact h, fun p hp => absurd hp (Nat.not_lt_zero _), fun _ _ => rfl⟩ ?_ ?_
  · intro S1 hS K
    obtain ⟨F, h1, h2, h3⟩ := hS
    show wpb_X8_lay_2 _ _ _ _ (nI 12) S1
    unfold wpb_X8_lay_2
    exact br_t (nle_re 12) (hP S1 F h1 h2 h3)
  · intro p S1 hp hS K hK
    obtain ⟨F, h1, h2, h3⟩ := hS
    show wpb_X8_lay_2 _ _ _ _ (nI p) S1
    unfold wpb_X8_lay_2
    refine br_f (nle_ge hp (by decide)) ?_
    refine wpL_for (drF v d).length (fun k t => t = nI (wyl v ((drF v d).take k) p)) rfl ?_ ?_
    · intro t ht K2
      show wpb_X8_lay_13 _ _ _ _ _ _ (nI (drF v d).length) t
      unfold wpb_X8_lay_13
      refine rc_of h1.ob (wp_len h1 hA hd (br_t (Int32.le_refl _) (gR_of h1.ob rfl ?_)))
      rw [pk_mul, nI_add]
      refine sI_of (h1.ar (i := 6) (by decide)) (show 12 * d + p < 72 by omega) (by decide) (fun i17 e17 => ?_)
      have h4 := h1.setA (i := 6) (F := upd F (12 * d + p) t) (by decide)
      rw [va2] at h4
      rw [e17, nI_add]
      refine hK _ ⟨_, h4, fun q hq => ?_, fun i hi => ?_⟩
      · by_cases z : q = p
        · rw [z, pk_us, ht, List.take_length]; rfl
        · rw [pk_un (by omega)]; exact h2 q (by omega)
      · rw [pk_un (by omega)]; exact h3 i hi
    · intro k t hk ht K2 hK2
      show wpb_X8_lay_13 _ _ _ _ _ _ (nI k) t
      unfold wpb_X8_lay_13
      have hk24 := hl.1
      refine rc_of h1.ob (wp_len h1 hA hd (br_f (nI_ge hk (by omega)) (rc_of h1.ob (wp_prO h1 hA hd (by omega) (rc_of h1.ob ?_)))))
      rw [ht]
      refine wp_pressed h1 hA hv ((pmWyl v _).1 p hp) (hl.2 k hk) (fun i24 e24 => ?_)
      rw [e24, nI_add]
      refine hK2 _ (congrArg nI ?_)
      rw [take_snoc hk, wyl_snoc]
theorem wp_cb (h : MdS S0 S tg m bd A I) {d p x : Nat} (hd : d < 6) (hp : p < 12) (e : A 6 (12 * d + p) = nI x) (hQ : Q (nI x)) : wp_X8_comesBy S m (nI d) (nI p) Q := by
  unfold wp_X8_comesBy
  refine gR_of h.ob rfl ?_
  rw [pk_mul, nI_add]
  exact lI_of (h.ar (i := 6) (by decide)) (show 12 * d + p < 72 by omega) (by decide) (by rw [e]; exact hQ)
theorem wp_layAll (h : MdS S0 S tg m bd A I) (hA : ∀ k, k < 194 → A 0 k = stn v k) (hv : okL v) (hP : ∀ S' F, MdS S0 S' tg m bd (va_up A 6 F) I → (∀ d p, d < 6 → p < 12 → F (12 * d + p) = nI (wy v d p)) → P S') : wp_X8_layAll S m P := by
  unfold wp_X8_layAll
  refine wpL_for 6 (fun k S1 => ∃ F, MdS S0 S1 tg m bd (va_up A 6 F) I ∧ ∀ d p, d < k → p < 12 → F (12 * d + p) = nI (wy v d p)) ⟨A 6, by rw [va1]; exact h, fun d p hd => absurd hd (Nat.not_lt_zero _)⟩ ?_ ?_
  · intro S1 hS K
    obtain ⟨F, h1, h2⟩ := hS
    show wpb_X8_layAll_2 _ _ _ (nI 6) S1
    unfold wpb_X8_layAll_2
    exact br_t (nle_re 6) (hP S1 F h1 h2)
  · intro k S1 hk hS K hK
    obtain ⟨F, h1, h2⟩ := hS
    show wpb_X8_layAll_2 _ _ _ (nI k) S1
    unfold wpb_X8_layAll_2
    refine br_f (nle_ge hk (by decide)) (rc_of h1.ob (wp_lay h1 hA hv hk (fun S2 G h3 g1 g2 i7 e7 => ?_)))
    rw [va2] at h3
    rw [e7, nI_add]
    refine hK _ ⟨G, h3, fun d p hd hp => ?_⟩
    by_cases z : d = k
    · rw [z]; exact g1 p hp
    · rw [g2 _ (by omega)]; exact h2 d p (by omega) hp
end ML
