/-! ===== the reference: orbit, pair ===== -/
def stm (v : LM) (D : Nat) (R : Nat → Bool) : Nat → Nat → Bool
  | 0 => R
  | k + 1 => fun q => stm v D R k q || (stm v D R k (k % 12) && D.testBit (k / 12) && (wy v (k / 12) (k % 12) == q))
theorem stm_up {v : LM} {D : Nat} {R : Nat → Bool} {q : Nat} (n : Nat) : ∀ k, stm v D R n q = true → stm v D R (n + k) q = true
  | 0, h => h
  | k + 1, h => by
    show (stm v D R (n + k) q || _) = true
    rw [stm_up n k h]; rfl
theorem clo_mod {v : LM} {D p : Nat} (hp : p < 12) : ∀ q, q < 12 → itB (fun R => stm v D R 72) 12 (fun q => q == p) q = rchB (mkp v D 6) p q := by
  refine clo12 hp (fun w hw a ha => ?_) _ (fun P q h => ?_) (fun P T hT hP => ?_) (fun P hP w hw a ha h => ?_)
  · obtain ⟨d, -, -, e⟩ := mkp_mem.mp hw
    rw [e]; exact (pmWy v d).1 a ha
  · have := stm_up (v := v) (D := D) (R := P) (q := q) 0 72 h
    exact this
  · have : ∀ k, k ≤ 72 → ∀ q, q < 12 → stm v D P k q = true → T q := by
      intro k
      induction k with
      | zero => exact fun _ => hP
      | succ k ih =>
        intro hk q hq h
        have h : (stm v D P k q || (stm v D P k (k % 12) && D.testBit (k / 12) && (wy v (k / 12) (k % 12) == q))) = true := h
        rw [Bool.or_eq_true] at h
        rcases h with h | h
        · exact ih (by omega) q hq h
        · rw [Bool.and_eq_true, Bool.and_eq_true] at h
          obtain ⟨⟨h1, h2⟩, h3⟩ := h
          have h3 : wy v (k / 12) (k % 12) = q := by simpa using h3
          rw [← h3]
          exact hT _ (mkp_mem.mpr ⟨k / 12, by omega, h2, rfl⟩) _ (Nat.mod_lt _ (by decide)) (ih (by omega) _ (Nat.mod_lt _ (by decide)) h1)
    exact this 72 (Nat.le_refl _)
  · obtain ⟨d, hd, hb, e⟩ := mkp_mem.mp hw
    have h1 := stm_up (v := v) (D := D) (R := P) (q := a) 0 (12 * d + a) h
    rw [Nat.zero_add] at h1
    have h2 : stm v D P (12 * d + a + 1) (w a) = true := by
      show (stm v D P (12 * d + a) (w a) || (stm v D P (12 * d + a) ((12 * d + a) % 12) && D.testBit ((12 * d + a) / 12) && (wy v ((12 * d + a) / 12) ((12 * d + a) % 12) == w a))) = true
      rw [show (12 * d + a) % 12 = a by omega, show (12 * d + a) / 12 = d by omega, h1, hb, e]
      simp
    have h3 := stm_up (v := v) (D := D) (R := P) (q := w a) (12 * d + a + 1) (72 - (12 * d + a + 1)) h2
    rw [show 12 * d + a + 1 + (72 - (12 * d + a + 1)) = 72 by omega] at h3
    have hwa : w a < 12 := by rw [e]; exact (pmWy v d).1 a ha
    rw [← hP _ hwa]
    exact h3
section MOR
variable {S0 S S' : PS} {tg : Nat → Nat × Nat} {m : Nat} {bd : Nat → Nat} {A A' : Nat → Nat → Int32} {I I' : Nat → Int32} {v : LM} {hist : List LM} {sl : Nat → Option LM} {pad : List Nat} {P : Int32 → PS → Prop} {Q : Int32 → Prop} {d : Nat} {w : Nat → Nat}
theorem md_orbit_no1 {y z : Int32} (hb : bad z 12) (hP : P (-1) S) : wp_X8_orbit S m y z P := wp_isP (fun j hj e => absurd (e ▸ hb) (no_bad hj (by decide))) (fun _ => br_t rfl hP)
theorem md_orbit_no2 {p : Nat} {y : Int32} (hp : p < 12) (hb : bad y 64) (hP : P (-2) S) : wp_X8_orbit S m y (nI p) P := wp_isP (fun _ _ _ => br_f n1z (wp_isS (fun j hj e => absurd (e ▸ hb) (no_bad hj (by decide))) (fun _ => br_t rfl hP))) (fun b => absurd b (no_bad hp (by decide)))
theorem md_orbit {D p : Nat} (h : MdS S0 S tg m bd A I) (hr : RA A I v hist sl pad) (hv : okL v) (hp : p < 12) (hD : D < 64) (hP : ∀ S' A' I', MdS S0 S' tg m bd A' I' → RA A' I' v hist sl pad → P (nI (bs (rchB (mkp v D 6) p) 12)) S') : wp_X8_orbit S m (nI D) (nI p) P := by
  refine wp_isP (fun _ _ _ => br_f n1z (wp_isS (fun _ _ _ => br_f n1z (rc_of h.ob (wp_layAll h hr.1 hv (fun S1 F h1 c1 i8 e8 => ?_)))) (fun b => absurd b (no_bad hD (by decide))))) (fun b => absurd b (no_bad hp (by decide)))
  have hres := hP S1 _ I h1 (hr.scr (fun i hi => va_up_ne _ _ (by omega)) rfl rfl)
  have h31 : ∀ R : Nat → Bool, bs R 12 < 2 ^ 31 := fun R => Nat.lt_trans (bs_lt R 12) (by decide)
  rw [e8, sh1 (by omega), bs_one hp]
  refine wpL_for 12 (fun n t => t = nI (bs (itB (fun R => stm v D R 72) n (fun q => q == p)) 12)) rfl ?_ ?_
  · intro t ht K
    show wpb_X8_orbit_30 _ _ _ _ _ (nI 12) t
    unfold wpb_X8_orbit_30
    refine br_t (nle_re 12) ?_
    rw [ht, bs_ext (clo_mod hp)]
    exact hres
  · intro n t hn ht K hK
    show wpb_X8_orbit_30 _ _ _ _ _ (nI n) t
    unfold wpb_X8_orbit_30
    refine br_f (nle_ge hn (by decide)) ?_
    rw [ht]
    refine wpL_for 72 (fun k t => t = nI (bs (stm v D (itB (fun R => stm v D R 72) n (fun q => q == p)) k) 12)) rfl ?_ ?_
    · intro t2 ht2 K2
      show wpb_X8_orbit_40 _ _ _ _ _ _ (nI 72) t2
      unfold wpb_X8_orbit_40
      refine br_t (nle_re 72) (fun i15 e15 => ?_)
      rw [e15, nI_add, ht2]
      exact hK _ rfl
    · intro k t2 hk ht2 K2 hK2
      show wpb_X8_orbit_40 _ _ _ _ _ _ (nI k) t2
      unfold wpb_X8_orbit_40
      generalize itB (fun R => stm v D R 72) n (fun q => q == p) = R at *
      have hm : k % 12 < 12 := Nat.mod_lt _ (by decide)
      have hdv : k / 12 < 6 := by omega
      have ek : 12 * (k / 12) + k % 12 = k := Nat.div_add_mod k 12
      refine br_f (nle_ge hk (by decide)) ?_
      rw [pk_rem (by omega) (by decide) (by decide), pk_div (by omega) (by decide) (by decide), ht2, sr_bit (h31 _) (by omega), sr_bit (by omega) (by omega), bs_bit]
      have same : (stm v D R k (k % 12) && D.testBit (k / 12)) = false → ∀ i17 : Int32, i17 = nI (bs (stm v D R k) 12) ||| nI 0 → ∀ i18 : Int32, i18 = nI k + nI 1 → K2 (i18, i17) := fun hz i17 e17 i18 e18 => by
        rw [e18, nI_add, e17, or0]
        refine hK2 _ (congrArg nI (bs_ext fun q _ => ?_))
        show _ = (stm v D R k q || (stm v D R k (k % 12) && D.testBit (k / 12) && (wy v (k / 12) (k % 12) == q)))
        rw [hz, Bool.false_and, Bool.or_false]
      cases g : stm v D R k (k % 12) with
      | false => exact br_f (by simp; exact n01) (same (by rw [g]; rfl))
      | true =>
        refine br_t (by simp [hm]) ?_
        cases g2 : D.testBit (k / 12) with
        | false => exact br_f (by simp; exact n01) (same (by rw [g, g2]; rfl))
        | true =>
          have hwk := (pmWy v (k / 12)).1 (k % 12) hm
          refine br_t (by simp) (gR_of h1.ob rfl (lI_of (h1.ar (i := 6) (by decide)) (show k < 72 from hk) (by decide) (fun i29 e29 i30 e30 => ?_)))
          have ec : va_up A 6 F 6 k = nI (wy v (k / 12) (k % 12)) := by
            have := c1 (k / 12) (k % 12) hdv hm
            rw [ek] at this
            exact this
          rw [ec, or_sh (by omega), bs_or1 _ hwk] at e29
          rw [e30, nI_add, e29]
          refine hK2 _ (congrArg nI (bs_ext fun q _ => ?_))
          show _ = (stm v D R k q || (stm v D R k (k % 12) && D.testBit (k / 12) && (wy v (k / 12) (k % 12) == q)))
          rw [g, g2]; rfl
end MOR
