section MRP
variable {S0 S S' : PS} {tg : Nat → Nat × Nat} {m : Nat} {bd : Nat → Nat} {A A' : Nat → Nat → Int32} {I I' : Nat → Int32} {v : LM} {hist : List LM} {sl : Nat → Option LM} {pad : List Nat} {P : Int32 → PS → Prop} {Q : Int32 → Prop} {d : Nat}
theorem wp_same {g : Nat → Nat} (h : MdS S0 S tg m bd A I) (hA : ∀ k, k < 194 → A 0 k = stn v k) (hv : okL v) (hg : ∀ p, p < 12 → A 7 p = nI (g p)) (hlt : ∀ p, p < 12 → g p < 12) (h1 : (∀ p, p < 12 → coF v (g p) = coF v (thF v p)) → Q (nI 1)) (h0 : ¬ (∀ p, p < 12 → coF v (g p) = coF v (thF v p)) → Q (nI 0)) : wp_X8_isSameCloth S m Q := by
  unfold wp_X8_isSameCloth
  refine wpL_for 12 (fun k x => ∃ b : Bool, x = nI (b2 b) ∧ (b = true ↔ ∀ p, p < k → coF v (g p) = coF v (thF v p))) ⟨true, rfl, fun _ p hp => absurd hp (Nat.not_lt_zero _), fun _ => rfl⟩ ?_ ?_
  · intro x hx K
    obtain ⟨b, e1, e2⟩ := hx
    show wpb_X8_isSameCloth_4 _ _ _ _ (nI 12) x
    unfold wpb_X8_isSameCloth_4
    rw [e1]
    cases b with
    | true => exact br_t (nle_re 12) ⟨b11, h1 (e2.mp rfl)⟩
    | false => exact br_t (nle_re 12) ⟨b00, h0 (fun c => by have := e2.mpr c; cases this)⟩
  · intro k x hk hx K hK
    obtain ⟨b, e1, e2⟩ := hx
    show wpb_X8_isSameCloth_4 _ _ _ _ (nI k) x
    unfold wpb_X8_isSameCloth_4
    rw [e1]
    have nxt : ∀ {b' : Bool}, (b' = true ↔ b = true ∧ coF v (g k) = coF v (thF v k)) → ∀ i16 : Int32, i16 = nI k + nI 1 → K (i16, nI (b2 b')) := fun hb' i16 e16 => by
      rw [e16, nI_add]
      refine hK _ ⟨_, rfl, hb'.trans ⟨fun c p hp => ?_, fun c => ⟨e2.mpr fun p hp => c p (by omega), c k (by omega)⟩⟩⟩
      by_cases z : p = k
      · rw [z]; exact c.2
      · exact e2.mp c.1 p (by omega)
    refine br_f (nle_ge hk (by decide)) ?_
    cases b with
    | false => exact br_t rfl (nxt (b' := false) ⟨fun c => (by cases c), fun c => c.1⟩)
    | true =>
      have gk := hlt k hk
      have tk := hv.2.2.1.1 k hk
      have c1 := hv.2.2.2.1 _ gk
      have c2 := hv.2.2.2.1 _ tk
      refine br_f n1z (gR_of h.ob rfl (gR_of h.ob rfl (lI_of (h.ar (i := 7) (by decide)) (show k < 12 from hk) (by decide) ?_)))
      rw [hg k hk, nI_add]
      refine md_st h (show 30 + g k < 194 by omega) ((hA _ (by omega)).trans (stn_co gk)) (gR_of h.ob rfl (gR_of h.ob rfl ?_))
      rw [nI_add]
      refine md_st h (show 18 + k < 194 by omega) ((hA _ (by omega)).trans (stn_th hk)) ?_
      rw [nI_add]
      refine md_st h (show 30 + thF v k < 194 by omega) ((hA _ (by omega)).trans (stn_co tk)) (br_c (fun c => ?_) (fun c => ?_))
      · have c := (nI_eq (by omega) (by omega)).mp c
        exact nxt (b' := true) ⟨fun _ => ⟨rfl, c⟩, fun _ => rfl⟩
      · exact nxt (b' := false) ⟨fun z => (by cases z), fun z => absurd (congrArg nI z.2) c⟩
end MRP
