/-! ===== the reference: the text is read ===== -/
theorem wp_wsub {c a : Nat} {Q : Int32 → Prop} (hc : c < 1000) (ha : a < 1000) (h1 : a ≤ c → c ≤ a + 5 → Q (nI 1)) (h0 : ¬ (a ≤ c ∧ c ≤ a + 5) → Q (nI 0)) : wp_X8_within (nI c - nI a) (nI 0) (nI 5) Q := by
  rcases Nat.lt_or_ge c a with z | z
  · unfold wp_X8_within
    exact br_t (pk_sneg (by omega) z) (h0 (by omega))
  · rw [pk_sub z]
    exact wp_wn (by omega) (by decide) (by decide) (fun _ g => h1 z (by omega)) (fun g => h0 (by omega))
theorem n_m6 {p : Nat} (hp : p < 1000) : ¬ nI p = -6 := fun c => nI_pos (show p < 2 ^ 31 by omega) (by rw [c]; decide)
section MFA
variable {S0 S S' : PS} {tg : Nat → Nat × Nat} {m : Nat} {bd : Nat → Nat} {A A' : Nat → Nat → Int32} {I I' : Nat → Int32} {v : LM} {hist : List LM} {sl : Nat → Option LM} {pad : List Nat} {P : Int32 → PS → Prop} {Q : Int32 → Prop} {l : List Nat}
def PaM (A : Nat → Nat → Int32) (I : Nat → Int32) (pad : List Nat) : Prop := I 1 = nI pad.length ∧ pad.length ≤ 40 ∧ (∀ k, k < pad.length → A 4 k = nI (pad.getD k 0)) ∧ ∀ k, k < pad.length → pad.getD k 0 < 1000
theorem PaM.cg (h : PaM A I pad) (h4 : A' 4 = A 4) (h1 : I' 1 = I 1) : PaM A' I' pad := by unfold PaM at h ⊢; rw [h4, h1]; exact h
theorem PaM.lt (h : PaM A I pad) (k : Nat) : pad.getD k 0 < 1000 := by
  rcases Nat.lt_or_ge k pad.length with z | z
  · exact h.2.2.2 k z
  · rw [getD_out z]; decide
theorem wp_next {i : Nat} (h : MdS S0 S tg m bd A I) (hp : PaM A I pad) (hi : I 2 = nI i) (hi2 : i ≤ pad.length) (hQ : Q (nI (pad.getD i 0))) : wp_X8_next S m Q := by
  obtain ⟨p1, p2, p3, p4⟩ := hp
  unfold wp_X8_next
  refine gI_of h.ob rfl (gI_of h.ob rfl ?_)
  show (I 1 ≤ I 2 → _) ∧ (¬ I 1 ≤ I 2 → _)
  rw [hi, p1]
  rcases Nat.lt_or_ge i pad.length with z | z
  · refine br_f (nI_ge z (by omega)) (gR_of h.ob rfl (gI_of h.ob rfl ?_))
    show lI S (bd 4) (I 2) _
    rw [hi]
    exact lI_of (h.ar (i := 4) (by decide)) (show i < 40 by omega) (by decide) (by rw [p3 i z]; exact hQ)
  · rw [getD_out z] at hQ
    exact br_t (nI_le z (by omega)) hQ
theorem wp_rows {p t : Nat} (h : MdS S0 S tg m bd A I) (hl : RowM A I l) (hn : l.length + t ≤ 24) (hP : ∀ S' A' I', MdS S0 S' tg m bd A' I' → RowM A' I' (l ++ List.replicate t p) → (∀ i, i ≠ 5 → A' i = A i) → (∀ k, k ≠ 3 → I' k = I k) → P (nI 1) S') : wpk_X8_readsPress_136 m (nI p) (nI t) P S := by
  unfold wpk_X8_readsPress_136
  refine wpL_for t (fun k S1 => ∃ A1 I1, MdS S0 S1 tg m bd A1 I1 ∧ RowM A1 I1 (l ++ List.replicate k p) ∧ (∀ i, i ≠ 5 → A1 i = A i) ∧ ∀ k, k ≠ 3 → I1 k = I k) ⟨A, I, h, by rw [List.replicate_zero, List.append_nil]; exact hl, fun _ _ => rfl, fun _ _ => rfl⟩ ?_ ?_
  · intro S1 hS K
    obtain ⟨A1, I1, h1, l1, e1, e2⟩ := hS
    show wpb_X8_readsPress_139 _ _ _ _ _ (nI t) S1
    unfold wpb_X8_readsPress_139
    exact br_t (Int32.le_refl _) (hP S1 A1 I1 h1 l1 e1 e2)
  · intro k S1 hk hS K hK
    obtain ⟨A1, I1, h1, l1, e1, e2⟩ := hS
    show wpb_X8_readsPress_139 _ _ _ _ _ (nI k) S1
    unfold wpb_X8_readsPress_139
    refine br_f (nI_ge hk (by omega)) (gR_of h1.ob rfl (RowM.add h1 l1 (by rw [List.length_append, List.length_replicate]; omega) (fun S2 A2 I2 h2 l2 f1 f2 i54 e54 => ?_)))
    rw [e54, nI_add]
    refine hK _ ⟨A2, I2, h2, ?_, fun i hi => (f1 i hi).trans (e1 i hi), fun k hk => (f2 k hk).trans (e2 k hk)⟩
    rw [List.replicate_succ', ← List.append_assoc]; exact l2
theorem wp_reads {i : Nat} {last : Option Nat} (h : MdS S0 S tg m bd A I) (hp : PaM A I pad) (hi : I 2 = nI i) (hil : i < pad.length) (hl : RowM A I l) (hz : pz (pad.drop i) i last l = pzP pad) (hla : ∀ q, last = some q → dg (pad.getD i 0) < 2)
    (hfail : ∀ S' A' I' j, MdS S0 S' tg m bd A' I' → (∀ i, i ≠ 5 → A' i = A i) → (∀ k, k ≠ 2 → k ≠ 3 → I' k = I k) → I' 2 = nI j → (pzP pad).1 = some j → P (nI 0) S')
    (hok : ∀ S' A' I' j l' last', MdS S0 S' tg m bd A' I' → (∀ i, i ≠ 5 → A' i = A i) → (∀ k, k ≠ 2 → k ≠ 3 → I' k = I k) → I' 2 = nI j → i < j → j ≤ pad.length → RowM A' I' l' → pz (pad.drop j) j last' l' = pzP pad → (∀ q, last' = some q → dg (pad.getD j 0) < 2) → P (nI 1) S') : wp_X8_readsPress S m P := by
  have hc := hp.lt i
  have h40 := hp.2.1
  rw [drop_cons hil] at hz
  have hll := hl.2.1
  -- what comes after the press is known
  have press : ∀ p, prO (pad.getD i 0) = some p → wpk_X8_readsPress_48 S m P (nI p) := by
    intro p ep
    have hp12 := prO_lt ep
    rw [pz_p ep] at hz
    unfold wpk_X8_readsPress_48
    refine br_f (n_m6 (by omega)) (gI_of h.ob rfl ?_)
    show (I 3 = nI 24 → _) ∧ (¬ I 3 = nI 24 → _)
    rw [hl.1]
    rcases Nat.lt_or_ge l.length 24 with z | z
    · rw [if_pos (by omega)] at hz
      refine br_f (fun c => by have := (nI_eq (by omega) (by decide)).mp c; omega) (gI_of h.ob rfl ?_)
      show pF S m 6 7 (.int (I 2 + nI 1)) _
      rw [hi, nI_add]
      refine pF_of h.ob (Nat.le_of_ble_eq_true rfl) _ rfl ?_
      have h1 := h.setI (k := 2) (x := nI (i + 1)) rfl
      have hp1 : PaM A (va_up I 2 (nI (i + 1))) pad := hp.cg rfl (va_up_ne _ _ (by decide))
      have hc2 := hp.lt (i + 1)
      -- the last step, for t presses and j characters
      have fin : ∀ {t j : Nat}, 1 ≤ t → t ≤ 9 → (t = 1 → j = i + 1) → (1 < t → j = i + 2) → (l.length + t ≤ 24 → j ≤ pad.length ∧ ∃ last', pz (pad.drop j) j last' (l ++ List.replicate t p) = pzP pad ∧ ∀ q, last' = some q → dg (pad.getD j 0) < 2) → (¬ l.length + t ≤ 24 → (pzP pad).1 = some (i + 1)) → wpk_X8_readsPress_102 m (nI p) (va_up S m (.inl (6, (mdF bd I).set 7 (.int (nI (i + 1)))))) P (nI t) := by
        intro t j t1 t9 j1 j2 hgood hbad
        unfold wpk_X8_readsPress_102
        refine gI_of h1.ob rfl ?_
        show (I 3 + nI t ≤ nI 24 → _) ∧ (¬ I 3 + nI t ≤ nI 24 → _)
        rw [hl.1, nI_add]
        by_cases g : l.length + t ≤ 24
        · obtain ⟨g1, last', g2, g3⟩ := hgood g
          refine br_t (nI_le g (by decide)) (gI_of h1.ob rfl ?_)
          have go1 : ∀ {d : Nat}, i + 1 + d = j → pF (va_up S m (.inl (6, (mdF bd I).set 7 (.int (nI (i + 1)))))) m 6 7 (.int (nI (i + 1) + nI d)) (fun S62 => wpk_X8_readsPress_136 m (nI p) (nI t) P S62) := fun hd => by
            rw [nI_add, hd]
            refine pF_of h1.ob (Nat.le_of_ble_eq_true rfl) _ rfl ?_
            have h2 := h1.setI (k := 2) (x := nI j) rfl
            refine wp_rows (l := l) h2 ⟨hl.1, hl.2.1, hl.2.2⟩ g (fun S3 A3 I3 h3 l3 e1 e2 => ?_)
            refine hok S3 A3 I3 j _ last' h3 e1 (fun k k2 k3 => ?_) ?_ (by omega) g1 l3 g2 g3
            · rw [e2 k k3, va_up_ne _ _ k2, va_up_ne _ _ k2]
            · rw [e2 2 (by decide), va_up_self]
          rcases Nat.lt_or_ge 1 t with c | c
          · exact br_f (nI_ge c (by omega)) (go1 (d := 1) (j2 c).symm)
          · exact br_t (nI_le c (by decide)) (go1 (d := 0) (j1 (by omega)).symm)
        · refine br_f (nI_ge (by omega) (by omega)) (hfail _ A _ (i + 1) h1 (fun _ _ => rfl) (fun k k2 _ => va_up_ne _ _ k2) (va_up_self _ _ _) (hbad g))
      refine rc_of h1.ob (wp_next h1 hp1 (va_up_self _ _ _) (by omega) (wp_wn (by omega) (by decide) (by decide) (fun g1 g2 => ?_) (fun g => ?_)))
      · -- a digit
        have hil2 : i + 1 < pad.length := by
          rcases Nat.lt_or_ge (i + 1) pad.length with c | c
          · exact c
          · rw [getD_out c] at g1; omega
        have edg : dg (pad.getD (i + 1) 0) = pad.getD (i + 1) 0 - 48 := by unfold dg; rw [if_pos ⟨g1, g2⟩]
        have epr : prO (pad.getD (i + 1) 0) = none := by unfold prO; rw [if_neg (by omega), if_neg (by omega)]
        refine br_f n1z (rc_of h1.ob (wp_next h1 hp1 (va_up_self _ _ _) (by omega) (fun i67 e67 => ?_)))
        rw [e67, pk_sub (by omega)]
        rw [drop_cons hil2, pz_d epr, edg, List.length_append] at hz
        have el : [p].length = 1 := rfl
        rw [el] at hz
        refine fin (j := i + 2) (by omega) (by omega) (fun c => by omega) (fun _ => rfl) (fun g => ⟨by omega, none, ?_, fun q c => (by cases c)⟩) (fun g => ?_)
        · rw [if_pos (by omega)] at hz
          have er : l ++ List.replicate (pad.getD (i + 1) 0 - 48) p = l ++ [p] ++ List.replicate (pad.getD (i + 1) 0 - 48 - 1) p := by
            obtain ⟨n, hn⟩ : ∃ n, pad.getD (i + 1) 0 - 48 = n + 1 := ⟨pad.getD (i + 1) 0 - 49, by omega⟩
            rw [hn, List.replicate_succ, List.append_assoc]; rfl
          rw [er]; exact hz
        · rw [if_neg (by omega)] at hz
          rw [← hz]
      · refine br_t rfl (fin (j := i + 1) (Nat.le_refl _) (by decide) (fun _ => rfl) (fun c => absurd c (by decide)) (fun _ => ⟨by omega, some p, hz, fun q _ => ?_⟩) (fun c => by omega))
        have : dg (pad.getD (i + 1) 0) = 0 := by unfold dg; rw [if_neg g]
        omega
    · rw [if_neg (by omega)] at hz
      exact br_t (by rw [show l.length = 24 by omega]) (hfail S A I i h (fun _ _ => rfl) (fun _ _ _ => rfl) hi (by rw [← hz]))
  have none' : prO (pad.getD i 0) = none → wpk_X8_readsPress_48 S m P (-6) := by
    intro ep
    unfold wpk_X8_readsPress_48
    refine br_t rfl (hfail S A I i h (fun _ _ => rfl) (fun _ _ _ => rfl) hi ?_)
    cases last with
    | none => rw [← hz, pz_n ep]
    | some q =>
      have := hla q rfl
      rw [pz_d ep, if_neg (by omega)] at hz
      rw [← hz]
  unfold wp_X8_readsPress
  refine rc_of h.ob (wp_next h hp hi (by omega) (fun i4 e4 => rc_of h.ob (wp_next h hp hi (by omega) (fun i8 e8 => ?_))))
  rw [e4, e8]
  refine wp_wsub hc (by decide) (fun g1 g2 => br_f n1z ?_) (fun g => br_t rfl (wp_wsub hc (by decide) (fun g1 g2 => br_f n1z (fun i71 e71 => ?_)) (fun g2 => br_t rfl ?_)))
  · rw [pk_sub g1]
    exact press _ (by unfold prO; rw [if_pos ⟨g1, by omega⟩])
  · rw [e71, pk_sub g1, nI_add]
    exact press _ (by unfold prO; rw [if_neg (by omega), if_pos ⟨g1, by omega⟩])
  · exact none' (by unfold prO; rw [if_neg (by omega), if_neg (by omega)])
end MFA
