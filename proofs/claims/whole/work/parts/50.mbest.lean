section MBE
variable {S0 S S' : PS} {tg : Nat → Nat × Nat} {m : Nat} {bd : Nat → Nat} {A A' : Nat → Nat → Int32} {I I' : Nat → Int32} {v : LM} {hist : List LM} {sl : Nat → Option LM} {pad : List Nat} {P : Int32 → PS → Prop}
theorem md_best_aux (B : Nat → Int32 × Nat) (hB0 : B 0 = (-1, 0)) (hBs : ∀ n, B (n + 1) = if nI (hmD v n) ≤ (B n).1 then B n else (nI (hmD v n), n)) {j : Nat} (hj : j < 2) (h : MdS S0 S tg m bd A I) (hr : RA A I v hist sl pad) (hv : okL v) (hP : ∀ S' A' I', MdS S0 S' tg m bd A' I' → RA A' I' v hist sl pad → P (if j = 0 then nI (B 6).2 else (B 6).1) S') : wp_X8_bestDraft S m (nI j) P := by
  refine wp_win 2 (by decide) (by decide) (fun _ _ _ => br_f n1z ?_) (fun b => absurd b (no_bad hj (by decide)))
  refine wpL_for (τ := Int32 × Int32 × PS) (body := fun (K19 : (Int32 × Int32 × Int32 × PS) → Prop) (q : Int32 × Int32 × Int32 × PS) => wpb_X8_bestDraft_19 m (nI j) P K19 q.1 q.2.1 q.2.2.1 q.2.2.2) 6 (fun k q => q.1 = (B k).1 ∧ q.2.1 = nI (B k).2 ∧ ∃ A1, MdS S0 q.2.2 tg m bd A1 I ∧ ∀ i, i < 6 → A1 i = A i) ⟨by rw [hB0], by rw [hB0], A, h, fun _ _ => rfl⟩ ?_ ?_
  · rintro ⟨i4, i5, S1⟩ ⟨e4, e5, A1, h1, b1⟩ K
    have e4 : i4 = (B 6).1 := e4
    have e5 : i5 = nI (B 6).2 := e5
    show wpb_X8_bestDraft_19 _ _ _ _ (nI 6) i4 i5 S1
    unfold wpb_X8_bestDraft_19
    have hres := hP S1 A1 I h1 (hr.scr (fun i hi => b1 i (by omega)) rfl rfl)
    refine br_t (nle_re 6) (br_c (fun c => ?_) (fun c => ?_))
    · have c := (nI_eq (b := 0) (by omega) (by decide)).mp c
      rw [if_pos c] at hres
      rw [e5]; exact hres
    · rw [if_neg (fun z => c (by rw [z]; rfl))] at hres
      rw [e4]; exact hres
  · rintro k ⟨i4, i5, S1⟩ hk ⟨e4, e5, A1, h1, b1⟩ K hK
    have e4 : i4 = (B k).1 := e4
    have e5 : i5 = nI (B k).2 := e5
    show wpb_X8_bestDraft_19 _ _ _ _ (nI k) i4 i5 S1
    unfold wpb_X8_bestDraft_19
    have hw := pmWy v k
    have hA1 : ∀ q, q < 194 → A1 0 q = stn v q := fun q hq => by rw [b1 0 (by decide)]; exact hr.1 q hq
    refine br_f (nle_ge hk (by decide)) (rc_of h1.ob (wp_lay h1 hA1 hv hk (fun S2 F h2 c2 _ => rc_of h2.ob (wp_take (v := v) h2 hA1 (fun S3 G h3 c3 => rc_of h3.ob (wp_once h3 hk hw c2 c3 (fun S4 F4 G4 h4 c4 => ?_)))))))
    have hh : ∀ {U : Int32 → Prop}, U (nI (hmD v k)) → rc S4 m 6 (wp_X8_homeNow S4 m U) := fun hU => rc_of h4.ob (wp_homeNow h4 c4 (mv_lt hv.2.2.1.1 hw) hU)
    have keep : ∀ i, i < 6 → va_up (va_up (va_up (va_up A1 6 F) 7 G) 8 G4) 7 F4 i = A i := fun i hi => by
      rw [va_up_ne _ _ (by omega), va_up_ne _ _ (by omega), va_up_ne _ _ (by omega), va_up_ne _ _ (by omega)]; exact b1 i hi
    have hs := hBs k
    refine hh (br_c (fun c => hh (br_t c (fun i26 e26 => ?_))) (fun c => hh (br_f c (hh (fun i39 e39 => ?_)))))
    · rw [e26, nI_add]
      rw [e4] at c
      rw [if_pos c] at hs
      exact hK (i4, i5, S4) ⟨by rw [hs]; exact e4, by rw [hs]; exact e5, _, h4, keep⟩
    · rw [e39, nI_add]
      rw [e4] at c
      rw [if_neg c] at hs
      exact hK (_, _, S4) ⟨by rw [hs], by rw [hs], _, h4, keep⟩
end MBE
