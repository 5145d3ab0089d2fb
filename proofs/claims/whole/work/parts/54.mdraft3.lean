section MD3
variable {S0 S S' : PS} {tg : Nat → Nat × Nat} {m : Nat} {bd : Nat → Nat} {A A' : Nat → Nat → Int32} {I I' : Nat → Int32} {v : LM} {hist : List LM} {sl : Nat → Option LM} {pad : List Nat} {P : Int32 → PS → Prop} {d : Nat}
theorem md_draft_no {y z : Int32} (hb : bad y 6) (hP : P (-1) S) : wp_X8_draft S m y z P := wp_isD (fun j hj e => absurd (e ▸ hb) (no_bad hj (by decide))) (fun _ => br_t rfl hP)
theorem md_draft {x : Int32} (h : MdS S0 S tg m bd A I) (hr : RA A I v hist sl pad) (hv : okL v) (hd : d < 6) (hP : ∀ S' A' I', MdS S0 S' tg m bd A' I' → RA A' I' v hist sl pad → (x.toInt < 0 ∨ 6 < x.toInt → P (-2) S') ∧ (x.toInt = 0 → P (nI (drF v d).length) S') ∧ (x.toInt = 1 → P (nI (tua (fun p => p) (wy v d))) S') ∧ (x.toInt = 2 → P (nI (bs (fun p => wy v d p == p) 12)) S') ∧ (x.toInt = 3 → P (nI (cys (wy v d))) S') ∧ (x.toInt = 4 → P (nI (lng (wy v d))) S') ∧ (x.toInt = 5 → P (nI (crs (wy v d))) S') ∧ (x.toInt = 6 → P (nI (tua (cbp v) (wy v d))) S')) : wp_X8_draft S m (nI d) x P := by
  have hw := pmWy v d
  refine wp_isD (fun _ _ _ => br_f n1z (rc_of h.ob (wp_lay h hr.1 hv hd (fun S1 F h1 c1 _ => ?_)))) (fun b => absurd b (no_bad hd (by decide)))
  have hc : ∀ p, p < 12 → va_up A 6 F 6 (12 * d + p) = nI (wy v d p) := c1
  have hr1 : RA (va_up A 6 F) I v hist sl pad := hr.scr (fun i hi => va_up_ne _ _ (by omega)) rfl rfl
  obtain ⟨qn, q0, q1, q2, q3, q4, q5, -⟩ := hP S1 _ I h1 hr1
  exact ⟨qn, fun e => rc_of h1.ob (wp_len h1 hr1.1 hd (q0 e)), fun e => rc_of h1.ob (wp_order h1 hd hw hc (q1 e)), fun e => rc_of h1.ob (wp_stays h1 hd hw hc (q2 e)), fun e => rc_of h1.ob (wp_cysM h1 hd hw hc (q3 e)), fun e => rc_of h1.ob (wp_longM h1 hd hw hc (q4 e)), fun e => rc_of h1.ob (wp_turned h1 hd hw hc (q5 e)), fun e => rc_of h1.ob (wp_repeats h1 hr1.1 hv hd hw hc (fun S2 A2 h2 b2 => (hP S2 A2 I h2 (hr1.scr (fun i hi => b2 i (by omega)) rfl rfl)).2.2.2.2.2.2.2 e))⟩
end MD3
