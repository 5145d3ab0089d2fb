theorem pz_at : ∀ (cs : List Nat) (i : Nat) (la : Option Nat) (l : List Nat) (j : Nat), (pz cs i la l).1 = some j → j ≤ i + cs.length
  | [], i, la, l, j, h => by cases h
  | c :: cs, i, la, l, j, h => by
    rw [List.length_cons]
    cases e : prO c with
    | some p =>
      rw [pz_p e] at h
      split at h
      · have := pz_at cs (i + 1) _ _ j h
        omega
      · cases h; omega
    | none =>
      cases la with
      | none => rw [pz_n e] at h; cases h; omega
      | some q =>
        rw [pz_d e] at h
        split at h
        · have := pz_at cs (i + 1) _ _ j h
          omega
        · cases h; omega
section MRD
variable {S0 S S' : PS} {tg : Nat → Nat × Nat} {m : Nat} {bd : Nat → Nat} {A A' : Nat → Nat → Int32} {I I' : Nat → Int32} {v : LM} {hist : List LM} {sl : Nat → Option LM} {pad : List Nat} {P : Int32 → PS → Prop} {Q : Int32 → Prop} {l : List Nat}
theorem wp_find (h : MdS S0 S tg m bd A I) (hp : PaM A I pad) (hP : ∀ S' A' I', MdS S0 S' tg m bd A' I' → (∀ i, i ≠ 5 → A' i = A i) → (∀ k, k ≠ 2 → k ≠ 3 → I' k = I k) → (flt pad = -6 → RowM A' I' (pzP pad).2) → P (flt pad) S') : wp_X8_findFault S m P := by
  unfold wp_X8_findFault
  refine pF_of h.ob (Nat.le_of_ble_eq_true rfl) _ rfl ?_
  have h1 := h.setI (k := 2) (x := nI 0) rfl
  refine pF_of h1.ob (Nat.le_of_ble_eq_true rfl) _ rfl ?_
  have h2 := h1.setI (k := 3) (x := nI 0) rfl
  have h40 := hp.2.1
  have fin0 : ∀ n S1 A1 I1 l last, MdS S0 S1 tg m bd A1 I1 → (∀ i, i ≠ 5 → A1 i = A i) → (∀ k, k ≠ 2 → k ≠ 3 → I1 k = I k) → I1 2 = nI pad.length → RowM A1 I1 l → pz (pad.drop pad.length) pad.length last l = pzP pad → wpL (fun (K12 : (Int32 × PS) → Prop) (q : Int32 × PS) => wpb_X8_findFault_12 m P K12 q.1 q.2) (n + 1) (nI 1, S1) := by
    intro n S1 A1 I1 l last h3 e1 e2 e3 hl hz
    have hp1 : PaM A1 I1 pad := hp.cg (e1 4 (by decide)) (e2 1 (by decide) (by decide))
    show wpb_X8_findFault_12 _ _ _ (nI 1) S1
    unfold wpb_X8_findFault_12
    refine br_f n1z (gI_of h3.ob rfl (gI_of h3.ob rfl ?_))
    show (I1 1 ≤ I1 2 → _) ∧ (¬ I1 1 ≤ I1 2 → _)
    rw [hp1.1, e3]
    refine br_t (Int32.le_refl _) ?_
    rw [List.drop_length] at hz
    have hz : (none, l) = pzP pad := hz
    unfold wpk_X8_findFault_35
    refine br_f n1z (gI_of h3.ob rfl ?_)
    show (I1 1 ≤ 0 → _) ∧ (¬ I1 1 ≤ 0 → _)
    rw [hp1.1]
    unfold flt at hP
    rw [← hz] at hP
    rcases Nat.eq_zero_or_pos pad.length with z | z
    · rw [if_pos z] at hP
      refine br_t (by rw [z]; decide) (gI_of h3.ob rfl ?_)
      show P (I1 2) S1
      rw [e3, z]
      exact hP S1 A1 I1 h3 e1 e2 (fun c => absurd c (n_m6 (by decide)))
    · rw [if_neg (by omega)] at hP
      exact br_f (nI_nle z (by omega)) (hP S1 A1 I1 h3 e1 e2 (fun _ => hl))
  have exitF : ∀ n S2 A2 I2 j, MdS S0 S2 tg m bd A2 I2 → (∀ i, i ≠ 5 → A2 i = A i) → (∀ k, k ≠ 2 → k ≠ 3 → I2 k = I k) → I2 2 = nI j → (pzP pad).1 = some j → j ≤ 40 → pad.length ≠ 0 → wpL (fun (K12 : (Int32 × PS) → Prop) (q : Int32 × PS) => wpb_X8_findFault_12 m P K12 q.1 q.2) (n + 1) (nI 0, S2) := by
    intro n S2 A2 I2 j h4 f1 f2 f3 f4 f5 hne
    show wpb_X8_findFault_12 _ _ _ (nI 0) S2
    unfold wpb_X8_findFault_12
    refine br_t rfl ?_
    unfold wpk_X8_findFault_35
    refine br_t rfl (gI_of h4.ob rfl ?_)
    show P (I2 2) S2
    unfold flt at hP
    rw [if_neg hne, f4] at hP
    rw [f3]
    exact hP S2 A2 I2 h4 f1 f2 (fun c => absurd c (n_m6 (by omega)))
  have key : ∀ d i S1 A1 I1 l last, pad.length - i ≤ d → i ≤ pad.length → MdS S0 S1 tg m bd A1 I1 → (∀ i, i ≠ 5 → A1 i = A i) → (∀ k, k ≠ 2 → k ≠ 3 → I1 k = I k) → I1 2 = nI i → RowM A1 I1 l → pz (pad.drop i) i last l = pzP pad → (∀ q, last = some q → dg (pad.getD i 0) < 2) → wpL (fun (K12 : (Int32 × PS) → Prop) (q : Int32 × PS) => wpb_X8_findFault_12 m P K12 q.1 q.2) (d + 2) (nI 1, S1) := by
    intro d
    induction d with
    | zero =>
      intro i S1 A1 I1 l last hd hi h3 e1 e2 e3 hl hz hla
      have e : i = pad.length := by omega
      subst e
      exact fin0 _ S1 A1 I1 l last h3 e1 e2 e3 hl hz
    | succ d ih =>
      intro i S1 A1 I1 l last hd hi h3 e1 e2 e3 hl hz hla
      have hp1 : PaM A1 I1 pad := hp.cg (e1 4 (by decide)) (e2 1 (by decide) (by decide))
      rcases Nat.lt_or_ge i pad.length with c | c
      · show wpb_X8_findFault_12 _ _ _ (nI 1) S1
        unfold wpb_X8_findFault_12
        refine br_f n1z (gI_of h3.ob rfl (gI_of h3.ob rfl ?_))
        show (I1 1 ≤ I1 2 → _) ∧ (¬ I1 1 ≤ I1 2 → _)
        rw [hp1.1, e3]
        refine br_f (nI_ge c (by omega)) (rc_of h3.ob (wp_reads h3 hp1 e3 c hl hz hla (fun S2 A2 I2 j h4 f1 f2 f3 f4 => ?_) (fun S2 A2 I2 j l' last' h4 f1 f2 f3 f4 f5 f6 f7 f8 => ?_)))
        · exact exitF _ S2 A2 I2 j h4 (fun i hi => (f1 i hi).trans (e1 i hi)) (fun k k2 k3 => (f2 k k2 k3).trans (e2 k k2 k3)) f3 f4 (Nat.le_trans (pz_at pad 0 none [] j f4) (by omega)) (by omega)
        · exact ih j S2 A2 I2 l' last' (by omega) f5 h4 (fun i hi => (f1 i hi).trans (e1 i hi)) (fun k k2 k3 => (f2 k k2 k3).trans (e2 k k2 k3)) f3 f6 f7 f8
      · have e : i = pad.length := by omega
        subst e
        exact fin0 _ S1 A1 I1 l last h3 e1 e2 e3 hl hz
  exact ⟨pad.length + 2, key pad.length 0 _ A _ [] none (by omega) (Nat.zero_le _) h2 (fun _ _ => rfl) (fun k k2 k3 => (va_up_ne _ _ k3).trans (va_up_ne _ _ k2)) ((va_up_ne _ _ (by decide)).trans (va_up_self _ _ _)) RowM.nil rfl (fun q c => (by cases c))⟩
theorem md_fault (h : MdS S0 S tg m bd A I) (hr : RA A I v hist sl pad) (hpc : ∀ k, k < pad.length → pad.getD k 0 < 1000) (hP : ∀ S' A' I', MdS S0 S' tg m bd A' I' → RA A' I' v hist sl pad → P (flt pad) S') : wp_X8_fault S m P := by
  unfold wp_X8_fault
  refine rc_of h.ob (wp_find h ⟨hr.2.2.2.2.1.1, hr.2.2.2.2.1.2, hr.2.2.2.2.2, hpc⟩ (fun S1 A1 I1 h1 e1 e2 _ => ?_))
  exact hP S1 A1 I1 h1 (hr.scr (fun i hi => e1 i (by omega)) (e2 0 (by decide) (by decide)) (e2 1 (by decide) (by decide)))
theorem md_read_no {y : Int32} (hb : bad y 6) (hP : P (-1) S) : wp_X8_read S m y P := wp_isD (fun j hj e => absurd (e ▸ hb) (no_bad hj (by decide))) (fun _ => br_t rfl hP)
theorem md_read_bad {d : Nat} (h : MdS S0 S tg m bd A I) (hr : RA A I v hist sl pad) (hpc : ∀ k, k < pad.length → pad.getD k 0 < 1000) (hd : d < 6) (hf : ¬ flt pad = -6) (hP : ∀ S' A' I', MdS S0 S' tg m bd A' I' → RA A' I' v hist sl pad → P (-3) S') : wp_X8_read S m (nI d) P := by
  refine wp_isD (fun _ _ _ => br_f n1z (rc_of h.ob (wp_find h ⟨hr.2.2.2.2.1.1, hr.2.2.2.2.1.2, hr.2.2.2.2.2, hpc⟩ (fun S1 A1 I1 h1 e1 e2 _ => ?_)))) (fun b => absurd b (no_bad hd (by decide)))
  exact br_f hf (hP S1 A1 I1 h1 (hr.scr (fun i hi => e1 i (by omega)) (e2 0 (by decide) (by decide)) (e2 1 (by decide) (by decide))))
theorem md_read {d : Nat} (h : MdS S0 S tg m bd A I) (hr : RA A I v hist sl pad) (hpc : ∀ k, k < pad.length → pad.getD k 0 < 1000) (hd : d < 6) (hf : flt pad = -6) (hP : ∀ S' A' I', MdS S0 S' tg m bd A' I' → RA A' I' (setDr v d (pzP pad).2) (pushH hist v) sl [] → P (nI (pzP pad).2.length) S') : wp_X8_read S m (nI d) P := by
  refine wp_isD (fun _ _ _ => br_f n1z (rc_of h.ob (wp_find h ⟨hr.2.2.2.2.1.1, hr.2.2.2.2.1.2, hr.2.2.2.2.2, hpc⟩ (fun S1 A1 I1 h1 e1 e2 hrow => ?_)))) (fun b => absurd b (no_bad hd (by decide)))
  have hl := hrow hf
  refine br_t hf (pF_of h1.ob (Nat.le_of_ble_eq_true rfl) _ rfl ?_)
  have h2 := h1.setI (k := 1) (x := nI 0) rfl
  have hr1 : RA A1 I1 v hist sl pad := hr.scr (fun i hi => e1 i (by omega)) (e2 0 (by decide) (by decide)) (e2 1 (by decide) (by decide))
  obtain ⟨r1, r2, r4, r5, r6, r7⟩ := hr1
  have hr2 : RA A1 (va_up I1 1 (nI 0)) v hist sl [] := ⟨r1, r2, r4, r5, ⟨va_up_self _ _ _, Nat.zero_le _⟩, fun k hk => absurd hk (Nat.not_lt_zero _)⟩
  exact rc_of h2.ob (wp_make h2 hr2 hd ⟨hl.1, hl.2.1, hl.2.2⟩ hP)
end MRD
