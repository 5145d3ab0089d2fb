section MCM
variable {S0 S S' : PS} {tg : Nat → Nat × Nat} {m : Nat} {bd : Nat → Nat} {A A' : Nat → Nat → Int32} {I I' : Nat → Int32} {v : LM} {hist : List LM} {sl : Nat → Option LM} {pad : List Nat} {P : Int32 → PS → Prop} {Q : Int32 → Prop} {d : Nat} {w : Nat → Nat}
theorem wp_winL {x : Int32} {n : Nat} {U : Int32 → Prop} (hn : n < 1000000) (h1 : ∀ j, j < n → x = nI j → U (nI 1)) (hb : bad x n → U (nI 0)) : wp_X8_within x (nI 0) (nI n - nI 1) U := by
  rcases Nat.eq_zero_or_pos n with z | z
  · subst z
    unfold wp_X8_within
    refine br_c (fun c => hb (Or.inl c)) (fun c => br_c (fun _ => hb (Or.inr (fa_of_nlt c))) (fun c2 => ?_))
    have c : ¬ x < 0 := c
    rw [fa_lt] at c c2
    have e1 : (nI 0 - nI 1).toInt = -1 := by decide
    rw [e1] at c2
    have e0 : (0 : Int32).toInt = 0 := by decide
    rw [e0] at c
    omega
  · rw [pk_sub (by omega)]
    exact wp_win n hn z h1 hb
theorem md_press_no1 {y z : Int32} (hb : bad y 6) (hQ : Q (-1)) : wp_X8_press S m y z Q := wp_isD (fun j hj e => absurd (e ▸ hb) (no_bad hj (by decide))) (fun _ => br_t rfl hQ)
theorem md_press_no2 {z : Int32} (h : MdS S0 S tg m bd A I) (hA : ∀ k, k < 194 → A 0 k = stn v k) (hv : okL v) (hd : d < 6) (hb : bad z (drF v d).length) (hQ : Q (-1)) : wp_X8_press S m (nI d) z Q := by
  have h24 := (hv.2.2.2.2 d hd).1
  exact wp_isD (fun _ _ _ => br_f n1z (rc_of h.ob (wp_len h hA hd (wp_winL (by omega) (fun j hj e => absurd (e ▸ hb) (no_bad hj (by omega))) (fun _ => br_t rfl hQ))))) (fun b => absurd b (no_bad hd (by decide)))
theorem md_press {k : Nat} (h : MdS S0 S tg m bd A I) (hA : ∀ k, k < 194 → A 0 k = stn v k) (hv : okL v) (hd : d < 6) (hk : k < (drF v d).length) (hQ : Q (nI ((drF v d).getD k 0))) : wp_X8_press S m (nI d) (nI k) Q := by
  have h24 := (hv.2.2.2.2 d hd).1
  exact wp_isD (fun _ _ _ => br_f n1z (rc_of h.ob (wp_len h hA hd (wp_winL (by omega) (fun _ _ _ => br_f n1z (rc_of h.ob (wp_prO h hA hd (by omega) hQ))) (fun b => absurd b (no_bad hk (by omega))))))) (fun b => absurd b (no_bad hd (by decide)))
theorem wp_wM {x : Int32} {U : Int32 → Prop} (h1 : ∀ t, t ≤ 1000000 → x = nI t → U (nI 1)) (hb : (x < 0 ∨ ¬ x ≤ nI 1000000) → U (nI 0)) : wp_X8_within x (nI 0) (1000000 : Int32) U := by
  unfold wp_X8_within
  refine br_c (fun c => hb (Or.inl c)) (fun c => br_c (fun c2 => hb (Or.inr (fa_of_lt c2).2.1)) (fun c2 => ?_))
  have c : ¬ x < 0 := c
  obtain ⟨j, hj, e⟩ := nI_of c
  have c2 : ¬ nI 1000000 < x := c2
  rw [e, nI_ltI (by decide) hj] at c2
  exact h1 j (by omega) e
theorem md_comesTo_no1 {y z u : Int32} (hb : bad y 6 ∨ bad z 12) (hP : P (-1) S) : wp_X8_comesTo S m y z u P := wp_isD (fun j hj e => br_f n1z (wp_isP (fun i hi e2 => by
  subst e; subst e2
  rcases hb with c | c
  · exact absurd c (no_bad hj (by decide))
  · exact absurd c (no_bad hi (by decide))) (fun _ => br_t rfl hP))) (fun _ => br_t rfl hP)
theorem md_comesTo_no2 {p : Nat} {u : Int32} (hd : d < 6) (hp : p < 12) (hb : u < 0 ∨ ¬ u ≤ nI 1000000) (hP : P (-2) S) : wp_X8_comesTo S m (nI d) (nI p) u P := wp_isD (fun _ _ _ => br_f n1z (wp_isP (fun _ _ _ => br_f n1z (wp_wM (fun t ht e => by
  subst e
  rcases hb with c | c
  · exact absurd c (nI_pos (by omega))
  · exact absurd (nI_le ht (by decide)) c) (fun _ => br_t rfl hP))) (fun b => absurd b (no_bad hp (by decide))))) (fun b => absurd b (no_bad hd (by decide)))
theorem md_comesTo {p t : Nat} (h : MdS S0 S tg m bd A I) (hr : RA A I v hist sl pad) (hv : okL v) (hd : d < 6) (hp : p < 12) (ht : t ≤ 1000000) (hP : ∀ S' A' I', MdS S0 S' tg m bd A' I' → RA A' I' v hist sl pad → P (nI (itr (wy v d) t p)) S') : wp_X8_comesTo S m (nI d) (nI p) (nI t) P := by
  have hw := pmWy v d
  refine wp_isD (fun _ _ _ => br_f n1z (wp_isP (fun _ _ _ => br_f n1z (wp_wM (fun _ _ _ => br_f n1z (rc_of h.ob (wp_lay h hr.1 hv hd (fun S1 F h1 c1 _ => ?_)))) (fun b => ?_))) (fun b => absurd b (no_bad hp (by decide))))) (fun b => absurd b (no_bad hd (by decide)))
  · have hc : ∀ p, p < 12 → va_up A 6 F 6 (12 * d + p) = nI (wy v d p) := c1
    obtain ⟨g1, g2, g3, g4⟩ := cyc_spec hw hp
    have hres := hP S1 _ I h1 (hr.scr (fun i hi => va_up_ne _ _ (by omega)) rfl rfl)
    rw [itr_rem g3 t] at hres
    have hm := Nat.mod_lt t g1
    have e0 : ∀ i12 : Int32, i12 = nI (cyc (wy v d) p) → nI t - nI t / i12 * i12 = nI (t % cyc (wy v d) p) := fun i12 e => by rw [e]; exact pk_rem (by omega) (by omega) (by omega)
    refine wpL_for (t % cyc (wy v d) p) (fun k x => x = nI (itr (wy v d) k p)) rfl ?_ ?_
    · intro x hx K
      show wpb_X8_comesTo_40 _ _ _ _ _ _ _ (nI (t % cyc (wy v d) p)) x
      unfold wpb_X8_comesTo_40
      refine rc_of h1.ob (wp_cyc h1 hd hw hc hp ⟨nI_ne0 (by omega) (by omega), ?_⟩)
      rw [e0 _ rfl, hx]
      exact br_t (Int32.le_refl _) hres
    · intro k x hk hx K hK
      show wpb_X8_comesTo_40 _ _ _ _ _ _ _ (nI k) x
      unfold wpb_X8_comesTo_40
      have hlt := (hw.it k).1 p hp
      refine rc_of h1.ob (wp_cyc h1 hd hw hc hp ⟨nI_ne0 (by omega) (by omega), ?_⟩)
      rw [e0 _ rfl, hx]
      refine br_f (nI_ge hk (by omega)) (rc_of h1.ob (wp_cb h1 hd hlt (hc _ hlt) (fun i20 e20 => ?_)))
      rw [e20, nI_add]
      exact hK _ rfl
  · rcases b with c | c
    · exact absurd c (nI_pos (by omega))
    · exact absurd (nI_le ht (by decide)) c
/-! kernel and orbit -/
theorem bs_and2 (P R : Nat → Bool) (n : Nat) : bs P n &&& bs R n = bs (fun q => P q && R q) n := by
  refine bs_of (Nat.lt_of_le_of_lt Nat.and_le_left (bs_lt P n)) fun j hj => ?_
  rw [Nat.testBit_and, bs_bit, bs_bit]
  simp [hj]
theorem md_kernel_no {y : Int32} (hb : bad y 64) (hP : P (-2) S) : wp_X8_kernel S m y P := wp_isS (fun j hj e => absurd (e ▸ hb) (no_bad hj (by decide))) (fun _ => br_t rfl hP)
theorem krn_succ (v : LM) (s k p : Nat) : krn v s (k + 1) p = (krn v s k p && (!s.testBit k || (wy v k p == p))) := by
  unfold krn
  rw [List.range_succ, List.all_append]
  simp
theorem bs_all : nI 4095 = nI (bs (fun _ => true) 12) := by decide
theorem md_kernel {s : Nat} (h : MdS S0 S tg m bd A I) (hr : RA A I v hist sl pad) (hv : okL v) (hs : s < 64) (hP : ∀ S' A' I', MdS S0 S' tg m bd A' I' → RA A' I' v hist sl pad → P (nI (bs (krn v s 6) 12)) S') : wp_X8_kernel S m (nI s) P := by
  refine wp_isS (fun _ _ _ => br_f n1z (rc_of h.ob (wp_layAll h hr.1 hv (fun S1 F h1 c1 => ?_)))) (fun b => absurd b (no_bad hs (by decide)))
  have hres := hP S1 _ I h1 (hr.scr (fun i hi => va_up_ne _ _ (by omega)) rfl rfl)
  refine wpL_for 6 (fun k x => x = nI (bs (krn v s k) 12)) bs_all ?_ ?_
  · intro x hx K
    show wpb_X8_kernel_20 _ _ _ _ _ (nI 6) x
    unfold wpb_X8_kernel_20
    exact br_t (nle_re 6) (by rw [hx]; exact hres)
  · intro k x hk hx K hK
    show wpb_X8_kernel_20 _ _ _ _ _ (nI k) x
    unfold wpb_X8_kernel_20
    refine br_f (nle_ge hk (by decide)) ?_
    rw [sr_bit (by omega) (by omega)]
    cases e : s.testBit k with
    | true =>
      refine br_t rfl (rc_of h1.ob (wp_stays h1 hk (pmWy v k) (fun p hp => c1 k p hk hp) (fun i15 e15 i16 e16 => ?_)))
      rw [e16, nI_add, e15, hx, fa_and, bs_and2]
      refine hK _ (congrArg nI (bs_ext fun p _ => ?_))
      rw [krn_succ, e]; rfl
    | false =>
      refine br_f n01 (fun i15 e15 i16 e16 => ?_)
      rw [e16, nI_add, e15, hx, fa_and, Nat.and_self]
      refine hK _ (congrArg nI (bs_ext fun p _ => ?_))
      rw [krn_succ, e]; simp
end MCM
