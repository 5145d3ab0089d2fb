/-! ===== the law's own presses ===== -/
theorem bit_c {s k : Nat} (hs : s < 2 ^ 31) (hk : k < 32) {A B : Prop} (h1 : s.testBit k = true → A) (h0 : s.testBit k = false → B) : (((nI s >>> (nI k &&& 31)) &&& nI 1) = nI 1 → A) ∧ (¬ ((nI s >>> (nI k &&& 31)) &&& nI 1) = nI 1 → B) := by
  rw [sr_bit hs hk]
  cases g : s.testBit k with
  | true => exact br_t rfl (h1 g)
  | false => exact br_f n01 (h0 g)
theorem prs1_next {R : Nat → Bool} {a b : Nat} (hb : b < 12) (hab : a < b) (ha : R a = true) (hRb : R b = true) (hn : ∀ y, a < y → y < b → R y = false) : prs R 1 a = b := by
  rw [prs_spec (k := b - a) (by omega) (by omega) ha]
  · omega
  · rw [show (a + (b - a) * 1) % 12 = b by omega]; exact hRb
  · intro j hj hjk
    rw [show (a + j * 1) % 12 = a + j by omega]; exact hn _ (by omega) (by omega)
theorem prs1_wrap {R : Nat → Bool} {F La : Nat} (hL : La < 12) (hFL : F ≤ La) (hF : R F = true) (hLa : R La = true) (h0 : ∀ q, q < F → R q = false) (h1 : ∀ q, La < q → q < 12 → R q = false) : prs R 1 La = F := by
  rw [prs_spec (k := 12 - La + F) (by omega) (by omega) hLa]
  · omega
  · rw [show (La + (12 - La + F) * 1) % 12 = F by omega]; exact hF
  · intro j hj hjk
    rcases Nat.lt_or_ge (La + j) 12 with z | z
    · rw [show (La + j * 1) % 12 = La + j by omega]; exact h1 _ (by omega) z
    · rw [show (La + j * 1) % 12 = La + j - 12 by omega]; exact h0 _ (by omega)
theorem prs11_prev {R : Nat → Bool} {a b : Nat} (hb : b < 12) (hab : a < b) (ha : R a = true) (hRb : R b = true) (hn : ∀ y, a < y → y < b → R y = false) : prs R 11 b = a := by
  have := prs_back (R := R) (p := a) (by omega)
  rw [prs1_next hb hab ha hRb hn] at this
  exact this
theorem prs11_wrap {R : Nat → Bool} {F La : Nat} (hL : La < 12) (hFL : F ≤ La) (hF : R F = true) (hLa : R La = true) (h0 : ∀ q, q < F → R q = false) (h1 : ∀ q, La < q → q < 12 → R q = false) : prs R 11 F = La := by
  have := prs_back (R := R) (p := La) hL
  rw [prs1_wrap hL hFL hF hLa h0 h1] at this
  exact this
section LB
variable {S : PS}
/-- forward: the first raised place gets what was at the last one, each next one what was at the one before -/
theorem wq_forth {s F La aw : Nat} {w w' : Nat → Nat} {Post : PS → Prop} (hs : s < 4096) (h3 : AN S aw 12 w) (hL : La < 12) (hFL : F ≤ La) (hF : s.testBit F = true) (hLa : s.testBit La = true) (h0 : ∀ q, q < F → s.testBit q = false) (h1 : ∀ q, La < q → q < 12 → s.testBit q = false) (hw' : ∀ p, p < 12 → w' (prs (fun p => s.testBit p) 1 p) = w p) (h : ∀ S', AN S' aw 12 w' → (∀ b, b ≠ aw → S' b = S b) → Post S') : ∃ n : Nat, wpL (fun (K113 : (Int32 × Int32 × PS) → Prop) (q : Int32 × Int32 × PS) => wpb_L_presses_113 aw (nI s) (nI La) Post K113 q.1 q.2.1 q.2.2) n (nI F, nI (w La), S) := by
  have no : ∀ p, s.testBit p = false → p < 12 → w' p = w p := fun p g hp => by
    have := hw' p hp
    rw [prs_no (R := fun p => s.testBit p) g] at this
    exact this
  refine wpL_from (La + 1) (fun k x => AF x.2 aw 12 (fun j => if j < k then nI (w' j) else nI (w j)) ∧ (∀ b, b ≠ aw → x.2 b = S b) ∧ F ≤ k ∧ ((k ≤ La ∧ ∃ m, k ≤ m ∧ m ≤ La ∧ s.testBit m = true ∧ (∀ y, k ≤ y → y < m → s.testBit y = false) ∧ x.1 = nI (w' m)) ∨ k = La + 1)) (by omega) ⟨?_, fun _ _ => rfl, Nat.le_refl _, Or.inl ⟨hFL, F, Nat.le_refl _, hFL, hF, fun y a b => by omega, ?_⟩⟩ ?_ ?_
  · refine h3.ext (fun j hj => ?_)
    by_cases g : j < F
    · rw [if_pos g, no j (h0 j g) hj]
    · rw [if_neg g]
  · have := hw' La hL
    rw [prs1_wrap (R := fun p => s.testBit p) hL hFL hF hLa h0 h1] at this
    rw [this]
  · intro x hx K
    obtain ⟨y, T⟩ := x
    obtain ⟨a1, a2, -, -⟩ := hx
    show wpb_L_presses_113 _ _ _ _ _ (nI (La + 1)) y T
    unfold wpb_L_presses_113
    refine br_t (nI_lt (Nat.lt_succ_self _) (by omega)) (h T (a1.ext fun j hj => ?_) a2)
    by_cases g : j < La + 1
    · rw [if_pos g]
    · rw [if_neg g, no j (h1 j (by omega) hj) hj]
  · intro k x hk hx K hK
    obtain ⟨y, T⟩ := x
    obtain ⟨a1, a2, a3, a4⟩ := hx
    have a1 : AF T aw 12 (fun j => if j < k then nI (w' j) else nI (w j)) := a1
    have a2 : ∀ b, b ≠ aw → T b = S b := a2
    show wpb_L_presses_113 _ _ _ _ _ (nI k) y T
    unfold wpb_L_presses_113
    refine br_f (nI_nlt (by omega) (by omega)) (bit_c (by omega) (by omega) (fun g => ?_) (fun g => ?_))
    · refine a1.get (by omega) (a1.set (by omega) (fun T' d1 d2 => ?_))
      intro i39 e39
      rw [e39, nI_add]
      rcases a4 with ⟨b1, m, b2, b3, b4, b5, b6⟩ | b1
      · have em : m = k := by
          rcases Nat.lt_or_ge k m with z | z
          · have := b5 k (Nat.le_refl _) z
            rw [g] at this; cases this
          · omega
        subst em
        have b6 : y = nI (w' m) := b6
        refine hK (_, T') ⟨d1.ext (fun j hj => ?_), fun b hb => by show T' b = _; rw [d2 b hb, a2 b hb], by omega, ?_⟩
        · by_cases z : j = m
          · rw [if_pos z, z, if_pos (Nat.lt_succ_self _), b6]
          · rw [if_neg z]
            by_cases z2 : j < m
            · rw [if_pos z2, if_pos (by omega)]
            · rw [if_neg z2, if_neg (by omega)]
        · rcases Nat.lt_or_ge m La with z | z
          · obtain ⟨i, ⟨i1, i2⟩, i3⟩ := pk_least (fun i => m < i ∧ s.testBit i = true) ⟨La, z, hLa⟩
            have i4 : i ≤ La := by
              rcases Nat.lt_or_ge La i with q | q
              · exact absurd ⟨z, hLa⟩ (i3 La q)
              · exact q
            have i5 : ∀ y, m < y → y < i → s.testBit y = false := fun y q1 q2 => by
              cases e : s.testBit y with
              | false => rfl
              | true => exact absurd ⟨q1, e⟩ (i3 y q2)
            refine Or.inl ⟨by omega, i, i1, i4, i2, fun y q1 q2 => i5 y (by omega) q2, ?_⟩
            have hp := prs1_next (R := fun p => s.testBit p) (show i < 12 by omega) i1 g i2 i5
            have := hw' m (by omega)
            rw [hp] at this
            show (if m < m then nI (w' m) else nI (w m)) = nI (w' i)
            rw [if_neg (Nat.lt_irrefl _), this]
          · exact Or.inr (by omega)
      · omega
    · intro i30 e30
      rw [e30, nI_add]
      refine hK (_, T) ⟨a1.ext (fun j hj => ?_), a2, by omega, ?_⟩
      · by_cases z : j = k
        · rw [z, if_neg (Nat.lt_irrefl _), if_pos (Nat.lt_succ_self _), no k g (by omega)]
        · by_cases z2 : j < k
          · rw [if_pos z2, if_pos (by omega)]
          · rw [if_neg z2, if_neg (by omega)]
      · rcases a4 with ⟨b1, m, b2, b3, b4, b5, b6⟩ | b1
        · have : m ≠ k := fun z => by rw [z, g] at b4; cases b4
          exact Or.inl ⟨by omega, m, by omega, b3, b4, fun y q1 q2 => b5 y (by omega) q2, b6⟩
        · omega
/-- back: the last raised place gets what was at the first one, each one before what was at the next one -/
theorem wq_aback {s F La aw : Nat} {w w' : Nat → Nat} {Post : PS → Prop} (hs : s < 4096) (h3 : AN S aw 12 w) (hL : La < 12) (hFL : F ≤ La) (hF : s.testBit F = true) (hLa : s.testBit La = true) (h0 : ∀ q, q < F → s.testBit q = false) (h1 : ∀ q, La < q → q < 12 → s.testBit q = false) (hw' : ∀ p, p < 12 → w' (prs (fun p => s.testBit p) 11 p) = w p) (h : ∀ S', AN S' aw 12 w' → (∀ b, b ≠ aw → S' b = S b) → Post S') : ∃ n : Nat, wpL (fun (K160 : (Int32 × Int32 × PS) → Prop) (q : Int32 × Int32 × PS) => wpb_L_presses_160 aw (nI s) (nI F) Post K160 q.1 q.2.1 q.2.2) n (nI La, nI (w F), S) := by
  have no : ∀ p, s.testBit p = false → p < 12 → w' p = w p := fun p g hp => by
    have := hw' p hp
    rw [prs_no (R := fun p => s.testBit p) g] at this
    exact this
  have ep : ∀ k, nI k + (-1 : Int32) = pv k := fun k => by
    cases k with
    | zero => decide
    | succ k => exact pk_m1 k
  refine wpL_inv (fun q => ∃ k, q.1 = pv k ∧ AF q.2.2 aw 12 (fun j => if k ≤ j then nI (w' j) else nI (w j)) ∧ (∀ b, b ≠ aw → q.2.2 b = S b) ∧ F ≤ k ∧ k ≤ La + 1 ∧ (F < k → ∃ m, F ≤ m ∧ m < k ∧ s.testBit m = true ∧ (∀ y, m < y → y < k → s.testBit y = false) ∧ q.2.1 = nI (w' m))) (fun q => (q.1 + 1).toNatClampNeg) ?_ ⟨La + 1, rfl, ?_, fun _ _ => rfl, by omega, Nat.le_refl _, fun _ => ⟨La, hFL, Nat.lt_succ_self _, hLa, fun y a b => by omega, ?_⟩⟩
  · intro q hq K hK
    obtain ⟨i, y, T⟩ := q
    obtain ⟨k, e, a1, a2, a3, a4, a5⟩ := hq
    have e : i = pv k := e
    have a1 : AF T aw 12 (fun j => if k ≤ j then nI (w' j) else nI (w j)) := a1
    have a2 : ∀ b, b ≠ aw → T b = S b := a2
    have a5 : F < k → ∃ m, F ≤ m ∧ m < k ∧ s.testBit m = true ∧ (∀ y, m < y → y < k → s.testBit y = false) ∧ y = nI (w' m) := a5
    subst e
    show wpb_L_presses_160 _ _ _ _ _ (pv k) y T
    unfold wpb_L_presses_160
    rcases Nat.eq_or_lt_of_le a3 with z | z
    · subst z
      refine br_t ?_ (h T (a1.ext fun j hj => ?_) a2)
      · cases F with
        | zero => decide
        | succ F => exact nI_lt (Nat.lt_succ_self _) (by omega)
      · by_cases g : F ≤ j
        · rw [if_pos g]
        · rw [if_neg g, no j (h0 j (by omega)) hj]
    · obtain ⟨k, rfl⟩ : ∃ k', k = k' + 1 := ⟨k - 1, by omega⟩
      obtain ⟨m, b2, b3, b4, b5, b6⟩ := a5 z
      have hm : ((pv k + 1).toNatClampNeg) < ((pv (k + 1) + 1).toNatClampNeg) := by
        have e1 : pv (k + 1) + 1 = nI (k + 1) := nI_1 k
        have e2 : pv k + 1 = nI k := by
          cases k with
          | zero => decide
          | succ k => exact nI_1 k
        rw [e1, e2, nI_clamp (by omega), nI_clamp (by omega)]
        exact Nat.lt_succ_self _
      show (nI k < nI F → _) ∧ (¬ nI k < nI F → _)
      refine br_f (nI_nlt (by omega) (by omega)) (bit_c (by omega) (by omega) (fun g => ?_) (fun g => ?_))
      · refine a1.get (k := k) (by omega) (a1.set (k := k) (by omega) (fun T' d1 d2 => ?_))
        intro i23 e23
        rw [show i23 = nI k + (-1 : Int32) from e23, ep]
        have em : m = k := by
          rcases Nat.lt_or_ge m k with z2 | z2
          · have := b5 k z2 (Nat.lt_succ_self _)
            rw [g] at this; cases this
          · omega
        subst em
        refine hK (_, _, T') ⟨m, rfl, d1.ext (fun j hj => ?_), fun b hb => by show T' b = _; rw [d2 b hb, a2 b hb], b2, by omega, fun zF => ?_⟩ hm
        · by_cases z : j = m
          · rw [if_pos z, z, if_pos (Nat.le_refl _)]; exact b6
          · rw [if_neg z]
            by_cases z2 : m + 1 ≤ j
            · rw [if_pos z2, if_pos (by omega)]
            · rw [if_neg z2, if_neg (by omega)]
        · obtain ⟨i, i1, ⟨i2, i3⟩, i4⟩ : ∃ i, i < m ∧ (F ≤ i ∧ s.testBit i = true) ∧ ∀ j, i < j → j < m → ¬ (F ≤ j ∧ s.testBit j = true) := fb_last (p := fun i => F ≤ i ∧ s.testBit i = true) ⟨F, zF, Nat.le_refl _, hF⟩
          have i5 : ∀ y, i < y → y < m → s.testBit y = false := fun y q1 q2 => by
            cases e : s.testBit y with
            | false => rfl
            | true => exact absurd ⟨by omega, e⟩ (i4 y q1 q2)
          refine ⟨i, i2, i1, i3, i5, ?_⟩
          have hp := prs11_prev (R := fun p => s.testBit p) (show m < 12 by omega) i1 i3 g i5
          have := hw' m (by omega)
          rw [hp] at this
          show (if m + 1 ≤ m then nI (w' m) else nI (w m)) = nI (w' i)
          rw [if_neg (by omega), this]
      · intro i14 e14
        rw [show i14 = nI k + (-1 : Int32) from e14, ep]
        have : m ≠ k := fun z => by rw [z, g] at b4; cases b4
        refine hK (_, _, T) ⟨k, rfl, a1.ext (fun j hj => ?_), a2, by omega, by omega, fun zF => ⟨m, b2, by omega, b4, fun y q1 q2 => b5 y q1 (by omega), b6⟩⟩ hm
        by_cases z : j = k
        · rw [z, if_neg (by omega), if_pos (Nat.le_refl _), no k g (by omega)]
        · by_cases z2 : k + 1 ≤ j
          · rw [if_pos z2, if_pos (by omega)]
          · rw [if_neg z2, if_neg (by omega)]
  · refine h3.ext (fun j hj => ?_)
    by_cases g : La + 1 ≤ j
    · rw [if_pos g, no j (h1 j g hj) hj]
    · rw [if_neg g]
  · have := hw' F (by omega)
    rw [prs11_wrap (R := fun p => s.testBit p) hL hFL hF hLa h0 h1] at this
    rw [this]
theorem wq_presses {v : LM} {x ah ti aw : Nat} {w w' : Nat → Nat} {Post : PS → Prop} (hv : okL v) (hx : x < 12) (h1 : AN S ah 12 (shF v)) (h2 : AN S ti 6 (tiF v)) (h3 : AN S aw 12 w) (hw' : ∀ p, p < 12 → w' (prW v x p) = w p) (h : ∀ S', AN S' aw 12 w' → (∀ b, b ≠ aw → S' b = S b) → Post S') : wp_L_presses S (nI x) ah ti aw Post := by
  unfold wp_L_presses
  rw [pk_rem (by omega) (by decide) (by decide)]
  refine wq_raised hv (Nat.mod_lt _ (by decide)) h1 h2 ?_
  unfold prW at hw'
  have hs := bs_lt (ra v (x % 6)) 12
  generalize bs (ra v (x % 6)) 12 = s at hw' hs ⊢
  have hs : s < 4096 := hs
  refine wpL_for 12 (fun k q => ((∀ p, p < k → s.testBit p = false) ∧ q = ((-1 : Int32), (-1 : Int32))) ∨ ∃ F La, F ≤ La ∧ La < k ∧ s.testBit F = true ∧ s.testBit La = true ∧ (∀ p, p < F → s.testBit p = false) ∧ (∀ p, La < p → p < k → s.testBit p = false) ∧ q = (nI La, nI F)) (Or.inl ⟨fun p hp => absurd hp (Nat.not_lt_zero _), rfl⟩) ?_ ?_
  · intro q hq K
    rcases hq with ⟨g1, rfl⟩ | ⟨F, La, hFL, hL, hF, hLa, h0, hh, rfl⟩
    · show wpb_L_presses_20 _ _ _ _ _ _ (nI 12) (-1) (-1)
      unfold wpb_L_presses_20
      refine br_t (nle_re 12) (br_f n0m1 (h S (h3.ext fun k hk => ?_) (fun _ _ => rfl)))
      have := hw' k hk
      rw [prs_no (R := fun p => s.testBit p) (g1 k hk)] at this
      rw [this]
    · show wpb_L_presses_20 _ _ _ _ _ _ (nI 12) (nI La) (nI F)
      unfold wpb_L_presses_20
      refine br_t (nle_re 12) (br_t (nneg (by omega)) ?_)
      by_cases g : x < 6
      · rw [if_pos g] at hw'
        refine br_f (nle_ge g (by decide)) (h3.get hL ?_)
        unfold wpk_L_presses_103
        exact br_f (nle_ge g (by decide)) (wq_forth hs h3 hL hFL hF hLa h0 hh hw' h)
      · rw [if_neg g] at hw'
        refine br_t (nI_le (by omega) (by omega)) (h3.get (by omega) ?_)
        unfold wpk_L_presses_103
        exact br_t (nI_le (by omega) (by omega)) (wq_aback hs h3 hL hFL hF hLa h0 hh hw' h)
  · intro k q hk hq K hK
    rcases hq with ⟨g1, rfl⟩ | ⟨F, La, hFL, hL, hF, hLa, h0, hh, rfl⟩
    · show wpb_L_presses_20 _ _ _ _ _ _ (nI k) (-1) (-1)
      unfold wpb_L_presses_20
      refine br_f (nle_ge hk (by decide)) (bit_c (by omega) (by omega) (fun g => br_f n0m1 ?_) (fun g => ?_))
      · unfold wpk_L_presses_52
        refine bit_c (by omega) (by omega) (fun _ => ?_) (fun g2 => by rw [g] at g2; cases g2)
        unfold wpk_L_presses_72
        intro i52 e52
        rw [e52, nI_add]
        exact hK _ (Or.inr ⟨k, k, Nat.le_refl _, Nat.lt_succ_self _, g, g, g1, fun p a b => by omega, rfl⟩)
      · unfold wpk_L_presses_52
        refine bit_c (by omega) (by omega) (fun g2 => by rw [g] at g2; cases g2) (fun _ => ?_)
        unfold wpk_L_presses_72
        intro i52 e52
        rw [e52, nI_add]
        refine hK _ (Or.inl ⟨fun p hp => ?_, rfl⟩)
        rcases Nat.lt_or_ge p k with z | z
        · exact g1 p z
        · have : p = k := by omega
          subst this; exact g
    · show wpb_L_presses_20 _ _ _ _ _ _ (nI k) (nI La) (nI F)
      unfold wpb_L_presses_20
      refine br_f (nle_ge hk (by decide)) (bit_c (by omega) (by omega) (fun g => br_t (nneg (by omega)) ?_) (fun g => ?_))
      · unfold wpk_L_presses_52
        refine bit_c (by omega) (by omega) (fun _ => ?_) (fun g2 => by rw [g] at g2; cases g2)
        unfold wpk_L_presses_72
        intro i52 e52
        rw [e52, nI_add]
        exact hK _ (Or.inr ⟨F, k, by omega, Nat.lt_succ_self _, hF, g, h0, fun p a b => by omega, rfl⟩)
      · unfold wpk_L_presses_52
        refine bit_c (by omega) (by omega) (fun g2 => by rw [g] at g2; cases g2) (fun _ => ?_)
        unfold wpk_L_presses_72
        intro i52 e52
        rw [e52, nI_add]
        refine hK _ (Or.inr ⟨F, La, hFL, by omega, hF, hLa, h0, fun p a b => ?_, rfl⟩)
        rcases Nat.lt_or_ge p k with z | z
        · exact hh p a z
        · have : p = k := by omega
          subst this; exact g
end LB
