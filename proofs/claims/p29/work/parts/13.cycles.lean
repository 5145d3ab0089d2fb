/-! ===== cycles, crossings, the way round the raised places ===== -/
def low (w : Nat → Nat) (p : Nat) : Bool := (List.range p).all (fun q => !orb w p q)
def cys (w : Nat → Nat) : Nat := fb_ct (fun p => low w p && !(w p == p)) 12
theorem orb_self (w : Nat → Nat) (p : Nat) : orb w p p = true := by
  unfold orb
  rw [List.any_eq_true]
  exact ⟨0, by decide, by simp [itr]⟩
theorem orb_one {w : Nat → Nat} (hw : PM w) {p : Nat} (hp : p < 12) : bs (orb w p) 12 = 2 ^ p ↔ w p = p := by
  constructor
  · intro h
    have h1 : orb w p (w p) = true := by
      unfold orb
      rw [List.any_eq_true]
      exact ⟨1, by decide, by simp [itr]⟩
    have h2 := bs_bit (orb w p) 12 (w p)
    rw [h, Nat.testBit_two_pow, h1] at h2
    have h3 := hw.1 p hp
    simp [h3] at h2
    exact h2.symm
  · intro h
    have hk : ∀ j, itr w j p = p := by
      intro j
      induction j with
      | zero => rfl
      | succ j ih => show w (itr w j p) = p; rw [ih, h]
    refine (bs_of (Nat.pow_lt_pow_right (by decide) hp) fun q hq => ?_).symm
    rw [Nat.testBit_two_pow]
    unfold orb
    rw [Bool.eq_iff_iff, List.any_eq_true]
    constructor
    · intro g
      have g : p = q := by simpa using g
      exact ⟨0, by decide, by simp [itr, g]⟩
    · intro g
      obtain ⟨j, -, e⟩ := g
      rw [hk j] at e
      simpa using e
theorem low_iff {w : Nat → Nat} {p : Nat} (hp : p < 12) : bs (orb w p) 12 % 2 ^ p = 0 ↔ low w p = true := by
  unfold low
  rw [List.all_eq_true]
  constructor
  · intro h q hq
    have hq := List.mem_range.mp hq
    have h2 : (bs (orb w p) 12 % 2 ^ p).testBit q = false := by rw [h]; exact Nat.zero_testBit q
    rw [Nat.testBit_mod_two_pow, bs_bit] at h2
    have : q < 12 := by omega
    simp [hq, this] at h2
    simp [h2]
  · intro h
    refine Nat.eq_of_testBit_eq fun q => ?_
    rw [Nat.testBit_mod_two_pow, bs_bit, Nat.zero_testBit]
    by_cases g : q < p
    · have := h q (List.mem_range.mpr g)
      simp at this
      simp [this]
    · simp [g]
theorem wp_cycles {w : Nat → Nat} {Post : Int32 → Prop} (hw : PM w) (h : Post (nI (cys w))) : wp_X6_cycles (en w) Post := by
  unfold wp_X6_cycles
  refine wpL_for 12 (fun k t => t = nI (fb_ct (fun p => low w p && !(w p == p)) k)) rfl ?_ ?_
  · intro t ht K
    show wpb_X6_cycles_4 _ _ _ (nI 12) t
    unfold wpb_X6_cycles_4
    refine br_t (nle_re 12) ?_
    rw [ht]; exact h
  · intro k t hk ht K hK
    show wpb_X6_cycles_4 _ _ _ (nI k) t
    unfold wpb_X6_cycles_4
    refine br_f (nle_ge hk (by decide)) ?_
    refine wp_cycleOf hw hk ?_
    have hO := bs_lt (orb w k) 12
    have h2p : 2 ^ k ≤ 2048 := Nat.pow_le_pow_right (n := 2) (by decide) (show k ≤ 11 by omega)
    have e1 : nI (2 ^ k) - nI 1 = nI (2 ^ k - 1) := pk_sub (Nat.pow_pos (by decide))
    have e2 : nI (bs (orb w k) 12) &&& nI (2 ^ k - 1) = nI (bs (orb w k) 12 % 2 ^ k) := fa_mask _ k
    rw [sh1 (by omega), e1, e2]
    have hz : nI (bs (orb w k) 12 % 2 ^ k) = 0 ↔ low w k = true := by
      rw [← nI_0, nI_eq (Nat.lt_of_le_of_lt (Nat.mod_le _ _) (by omega)) (by decide), low_iff hk]
    have ho : nI (bs (orb w k) 12) = nI (2 ^ k) ↔ w k = k := by
      rw [nI_eq (by omega) (by omega), orb_one hw hk]
    rw [hz, ho]
    have stay : (low w k && !(w k == k)) = false → fb_ct (fun p => low w p && !(w p == p)) k = fb_ct (fun p => low w p && !(w p == p)) (k + 1) := fun g => by
      rw [fb_ct_succ]; simp [g]
    refine br_c (fun g1 => br_c (fun g2 => ?_) (fun g2 => ?_)) (fun g1 => ?_)
    · intro i8 e8
      rw [e8, nI_add, ht, stay (by simp [g2])]
      exact hK _ rfl
    · intro i9 e9 i10 e10
      rw [e10, nI_add, e9, ht, nI_add]
      refine hK _ ?_
      rw [fb_ct_succ]
      simp [g1, g2]
    · intro i6 e6
      rw [e6, nI_add, ht, stay (by simp [g1])]
      exact hK _ rfl
noncomputable def mxc (w : Nat → Nat) : Nat → Nat
  | 0 => 0
  | n + 1 => if mxc w n < cyc w n then cyc w n else mxc w n
noncomputable def lng (w : Nat → Nat) : Nat := if 1 < mxc w 12 then mxc w 12 else 0
theorem mxc_le {w : Nat → Nat} (hw : PM w) : ∀ n, n ≤ 12 → mxc w n ≤ 12
  | 0, _ => by show 0 ≤ 12; omega
  | n + 1, h => by
    have h1 := mxc_le hw n (by omega)
    have h2 := (cyc_spec hw (show n < 12 by omega)).2.1
    show (if mxc w n < cyc w n then cyc w n else mxc w n) ≤ 12
    split <;> omega
theorem wp_longest {w : Nat → Nat} {Post : Int32 → Prop} (hw : PM w) (h : Post (nI (lng w))) : wp_X6_longestCycle (en w) Post := by
  unfold wp_X6_longestCycle
  refine wpL_for 12 (fun k t => t = nI (if 1 < mxc w k then mxc w k else 0)) rfl ?_ ?_
  · intro t ht K
    show wpb_X6_longestCycle_4 _ _ _ (nI 12) t
    unfold wpb_X6_longestCycle_4
    refine br_t (nle_re 12) ?_
    rw [ht]; exact h
  · intro k t hk ht K hK
    show wpb_X6_longestCycle_4 _ _ _ (nI k) t
    unfold wpb_X6_longestCycle_4
    refine br_f (nle_ge hk (by decide)) ?_
    refine wp_cycleOf hw hk ?_
    refine wp_bitCount (bs_lt _ 12) ?_
    rw [pop_bs, orb_ct hw hk, ht]
    obtain ⟨c1, c2, -, -⟩ := cyc_spec hw hk
    have hm := mxc_le hw k (by omega)
    have hs : mxc w (k + 1) = if mxc w k < cyc w k then cyc w k else mxc w k := rfl
    have hi : (if 1 < mxc w k then mxc w k else 0) < 2 ^ 31 := by split <;> omega
    rw [nI_leI (by omega) (by decide), nI_leI (by omega) hi]
    refine br_c (fun g => ?_) (fun g => br_c (fun g2 => ?_) (fun g2 => ?_))
    · intro i7 e7
      rw [e7, nI_add]
      refine hK _ (congrArg nI ?_)
      rw [hs]
      by_cases z : mxc w k < cyc w k
      · rw [if_pos z, if_neg (by omega), if_neg (by omega)]
      · rw [if_neg z]
    · intro i9 e9
      rw [e9, nI_add]
      refine hK _ (congrArg nI ?_)
      rw [hs]
      by_cases z : mxc w k < cyc w k
      · by_cases z2 : 1 < mxc w k
        · rw [if_pos z2] at g2; omega
        · rw [if_neg z2] at g2; omega
      · rw [if_neg z]
    · intro i10 e10
      rw [e10, nI_add]
      refine hK _ (congrArg nI ?_)
      rw [hs]
      have z : mxc w k < cyc w k := by
        by_cases z2 : 1 < mxc w k
        · rw [if_pos z2] at g2; omega
        · omega
      rw [if_pos z, if_pos (by omega)]
def crs (w : Nat → Nat) : Nat := fb_sm (fun p => fb_ct (fun q => decide (p < q) && decide (w q < w p)) 12) 12
theorem ct_small {p : Nat} (w : Nat → Nat) : ∀ n, n ≤ p + 1 → fb_ct (fun q => decide (p < q) && decide (w q < w p)) n = 0 := fun n hn => fb_ct_zero.mpr fun k hk => by
  have : ¬ p < k := by omega
  simp [this]
theorem wp_crossings {w : Nat → Nat} {Post : Int32 → Prop} (hw : PM w) (h : Post (nI (crs w))) : wp_X6_crossings (en w) Post := by
  unfold wp_X6_crossings
  refine wpL_for 12 (fun k t => t = nI (fb_sm (fun p => fb_ct (fun q => decide (p < q) && decide (w q < w p)) 12) k)) rfl ?_ ?_
  · intro t ht K
    show wpb_X6_crossings_4 _ _ _ (nI 12) t
    unfold wpb_X6_crossings_4
    refine br_t (nle_re 12) ?_
    rw [ht]; exact h
  · intro k t hk ht K hK
    show wpb_X6_crossings_4 _ _ _ (nI k) t
    unfold wpb_X6_crossings_4
    refine br_f (nle_ge hk (by decide)) ?_
    intro i4 e4
    rw [e4, nI_add]
    refine wpL_from 12 (fun j x => k < j ∧ x = nI (fb_sm (fun p => fb_ct (fun q => decide (p < q) && decide (w q < w p)) 12) k + fb_ct (fun q => decide (k < q) && decide (w q < w k)) j)) (by omega) ⟨Nat.lt_succ_self _, ?_⟩ ?_ ?_
    · rw [ct_small w (k + 1) (Nat.le_refl _)]
      exact ht
    · intro x hx K2
      obtain ⟨-, hx⟩ := hx
      show wpb_X6_crossings_15 _ _ _ _ (nI 12) x
      unfold wpb_X6_crossings_15
      refine br_t (nle_re 12) ?_
      intro i8 e8
      rw [e8, nI_add, hx]
      exact hK _ rfl
    · intro j x hj hx K2 hK2
      obtain ⟨hkj, hx⟩ := hx
      show wpb_X6_crossings_15 _ _ _ _ (nI j) x
      unfold wpb_X6_crossings_15
      refine br_f (nle_ge hj (by decide)) ?_
      refine wp_at hw.lt16 hk ?_
      refine wp_at hw.lt16 hj ?_
      have h1 := hw.1 k hk
      have h2 := hw.1 j hj
      rw [nI_leI (by omega) (by omega)]
      refine br_c (fun g => ?_) (fun g => ?_)
      · intro i12 e12
        rw [e12, nI_add]
        refine hK2 _ ⟨by omega, ?_⟩
        rw [hx, fb_ct_succ]
        have : ¬ w j < w k := by omega
        simp [this]
      · intro i13 e13 i14 e14
        rw [e14, nI_add, e13, hx, nI_add]
        refine hK2 _ ⟨by omega, ?_⟩
        rw [fb_ct_succ]
        have : w j < w k := by omega
        simp [this, hkj, Nat.add_assoc]
/-! pressing: the next raised place, going by steps of s around the twelve -/
def go (R : Nat → Bool) (s : Nat) : Nat → Nat → Nat
  | 0, q => q
  | n + 1, q => if R q then q else go R s n ((q + s) % 12)
def prs (R : Nat → Bool) (s p : Nat) : Nat := if R p then go R s 12 ((p + s) % 12) else p
theorem go_spec (R : Nat → Bool) (s : Nat) : ∀ n q k, k ≤ n → q < 12 → R ((q + k * s) % 12) = true → (∀ j, j < k → R ((q + j * s) % 12) = false) → go R s n q = (q + k * s) % 12
  | 0, q, k, hk, hq, _, _ => by
    have : k = 0 := by omega
    subst this
    show q = (q + 0 * s) % 12
    rw [Nat.zero_mul, Nat.add_zero, Nat.mod_eq_of_lt hq]
  | n + 1, q, 0, _, hq, h, _ => by
    have e0 : (q + 0 * s) % 12 = q := by rw [Nat.zero_mul, Nat.add_zero, Nat.mod_eq_of_lt hq]
    rw [e0] at h ⊢
    show (if R q then q else go R s n ((q + s) % 12)) = q
    rw [if_pos h]
  | n + 1, q, k + 1, hk, hq, h, hn => by
    have h0 := hn 0 (by omega)
    rw [Nat.zero_mul, Nat.add_zero, Nat.mod_eq_of_lt hq] at h0
    have e : ∀ j, ((q + s) % 12 + j * s) % 12 = (q + (j + 1) * s) % 12 := fun j => by
      rw [Nat.mod_add_mod, Nat.succ_mul]; congr 1; omega
    show (if R q then q else go R s n ((q + s) % 12)) = _
    rw [if_neg (by rw [h0]; decide), go_spec R s n ((q + s) % 12) k (by omega) (Nat.mod_lt _ (by decide)) (by rw [e]; exact h) (fun j hj => by rw [e]; exact hn (j + 1) (by omega)), e]
theorem prs_spec {R : Nat → Bool} {s p k : Nat} (hk1 : 1 ≤ k) (hk : k ≤ 12) (hp : R p = true) (h : R ((p + k * s) % 12) = true) (hn : ∀ j, 1 ≤ j → j < k → R ((p + j * s) % 12) = false) : prs R s p = (p + k * s) % 12 := by
  unfold prs
  rw [if_pos hp]
  have e : ∀ j, ((p + s) % 12 + j * s) % 12 = (p + (j + 1) * s) % 12 := fun j => by
    rw [Nat.mod_add_mod, Nat.succ_mul]; congr 1; omega
  have ek : k - 1 + 1 = k := by omega
  rw [go_spec R s 12 ((p + s) % 12) (k - 1) (by omega) (Nat.mod_lt _ (by decide)) (by rw [e, ek]; exact h) (fun j hj => by rw [e]; exact hn (j + 1) (by omega) (by omega)), e, ek]
/-- the next raised place is some steps on -/
theorem prs_ex {R : Nat → Bool} {s p : Nat} (hp : p < 12) (hR : R p = true) : ∃ k, 1 ≤ k ∧ k ≤ 12 ∧ R ((p + k * s) % 12) = true ∧ ∀ j, 1 ≤ j → j < k → R ((p + j * s) % 12) = false := by
  have h12 : R ((p + 12 * s) % 12) = true := by rw [Nat.add_mul_mod_self_left, Nat.mod_eq_of_lt hp]; exact hR
  obtain ⟨k, ⟨h1, h2⟩, h3⟩ := pk_least (fun k => 1 ≤ k ∧ R ((p + k * s) % 12) = true) ⟨12, by decide, h12⟩
  refine ⟨k, h1, ?_, h2, fun j hj hjk => ?_⟩
  · rcases Nat.lt_or_ge 12 k with g | g
    · exact absurd ⟨by decide, h12⟩ (h3 12 g)
    · exact g
  · cases e : R ((p + j * s) % 12) with
    | false => rfl
    | true => exact absurd ⟨hj, e⟩ (h3 j hjk)
theorem prs_no {R : Nat → Bool} {s p : Nat} (h : R p = false) : prs R s p = p := by unfold prs; rw [if_neg (by rw [h]; decide)]
theorem prs_lt {R : Nat → Bool} {s p : Nat} (hp : p < 12) : prs R s p < 12 := by
  cases e : R p with
  | false => rw [prs_no e]; exact hp
  | true =>
    obtain ⟨k, h1, h2, h3, h4⟩ := prs_ex (s := s) hp e
    rw [prs_spec h1 h2 e h3 h4]
    exact Nat.mod_lt _ (by decide)
theorem prs_back {R : Nat → Bool} {p : Nat} (hp : p < 12) : prs R 11 (prs R 1 p) = p := by
  cases e : R p with
  | false => rw [prs_no e, prs_no e]
  | true =>
    obtain ⟨k, h1, h2, h3, h4⟩ := prs_ex (s := 1) hp e
    rw [prs_spec h1 h2 e h3 h4]
    rw [prs_spec (k := k) h1 h2 h3]
    · omega
    · rw [show ((p + k * 1) % 12 + k * 11) % 12 = p by omega]; exact e
    · intro j hj hjk
      rw [show ((p + k * 1) % 12 + j * 11) % 12 = (p + (k - j) * 1) % 12 by omega]
      exact h4 _ (by omega) (by omega)
theorem prs_forth {R : Nat → Bool} {p : Nat} (hp : p < 12) : prs R 1 (prs R 11 p) = p := by
  cases e : R p with
  | false => rw [prs_no e, prs_no e]
  | true =>
    obtain ⟨k, h1, h2, h3, h4⟩ := prs_ex (s := 11) hp e
    rw [prs_spec h1 h2 e h3 h4]
    rw [prs_spec (k := k) h1 h2 h3]
    · omega
    · rw [show ((p + k * 11) % 12 + k * 1) % 12 = p by omega]; exact e
    · intro j hj hjk
      rw [show ((p + k * 11) % 12 + j * 1) % 12 = (p + (k - j) * 11) % 12 by omega]
      exact h4 _ (by omega) (by omega)
theorem PM.prs1 (R : Nat → Bool) : PM (prs R 1) := ⟨fun p hp => prs_lt hp, fun p q hp hq e => by rw [← prs_back (R := R) hp, ← prs_back (R := R) hq, e]⟩
theorem PM.prs11 (R : Nat → Bool) : PM (prs R 11) := ⟨fun p hp => prs_lt hp, fun p q hp hq e => by rw [← prs_forth (R := R) hp, ← prs_forth (R := R) hq, e]⟩
theorem wp_back {R : Nat → Bool} {Post : Int64 → Prop} (h : Post (en (prs R 11))) : wp_X6_back (en (prs R 1)) Post := by
  unfold wp_X6_back
  rw [home_en]
  refine wp_moved (fun p hp => Nat.lt_trans hp (by decide)) (PM.prs1 R) ?_
  have e : en (mv (fun p => p) (prs R 1)) = en (prs R 11) := en_ext fun q hq => by
    have := mv_at (f := fun p => p) (PM.prs1 R) (PM.prs11 R |>.1 q hq)
    rw [prs_forth hq] at this
    exact this
  rw [e]
  exact h
theorem nneg {n : Nat} (h : n < 1000000) : (0 : Int32) ≤ nI n := nI_pos' (by omega)
theorem n0m1 : ¬ (0 : Int32) ≤ -1 := by decide
theorem wp_round {s : Nat} {Post : Int64 → Prop} (hs : s < 4096) (h : Post (en (prs (fun p => s.testBit p) 1))) : wp_X6_round (nI s) Post := by
  unfold wp_X6_round
  rw [home_en]
  refine wpL_for 12 (fun k x => ((∀ q, q < k → s.testBit q = false) ∧ x = ((-1 : Int32), (-1 : Int32), en (fun p => p))) ∨ ∃ F La g, F ≤ La ∧ La < k ∧ s.testBit F = true ∧ s.testBit La = true ∧ (∀ q, q < F → s.testBit q = false) ∧ (∀ q, La < q → q < k → s.testBit q = false) ∧ (∀ q, q < 12 → (s.testBit q = true ∧ q < La → q < g q ∧ g q ≤ La ∧ s.testBit (g q) = true ∧ ∀ y, q < y → y < g q → s.testBit y = false) ∧ (¬ (s.testBit q = true ∧ q < La) → g q = q)) ∧ x = (nI La, nI F, en g)) (Or.inl ⟨fun q hq => absurd hq (Nat.not_lt_zero _), rfl⟩) ?_ ?_
  · intro x hx K
    rcases hx with ⟨h1, e⟩ | ⟨F, La, g, hFL, hL, hF1, hL1, hF0, hL0, hg, e⟩
    · subst e
      show wpb_X6_round_12 _ _ _ (nI 12) (-1) (-1) (en (fun p => p))
      unfold wpb_X6_round_12
      refine br_t (nle_re 12) (br_f n0m1 ?_)
      rw [en_ext (g := prs (fun p => s.testBit p) 1) fun q hq => (prs_no (h1 q hq)).symm]
      exact h
    · subst e
      show wpb_X6_round_12 _ _ _ (nI 12) (nI La) (nI F) (en g)
      unfold wpb_X6_round_12
      have hgl : ∀ p, p < 12 → g p < 12 := fun p hp => by
        by_cases z : s.testBit p = true ∧ p < La
        · have := ((hg p hp).1 z).2.1; omega
        · rw [(hg p hp).2 z]; exact hp
      refine br_t (nle_re 12) (br_t (nneg (by omega)) ?_)
      refine wp_with (fun p hp => Nat.lt_trans (hgl p hp) (by decide)) hL (by omega) ?_
      rw [en_ext (g := prs (fun p => s.testBit p) 1) fun q hq => ?_]
      · exact h
      · show (if q = La then F else g q) = prs (fun p => s.testBit p) 1 q
        by_cases z : q = La
        · subst z
          rw [if_pos rfl, prs_spec (k := 12 - q + F) (by omega) (by omega) hL1]
          · omega
          · show s.testBit _ = true
            rw [show (q + (12 - q + F) * 1) % 12 = F by omega]; exact hF1
          · intro j hj hjk
            show s.testBit _ = false
            rcases Nat.lt_or_ge (q + j) 12 with z2 | z2
            · rw [show (q + j * 1) % 12 = q + j by omega]; exact hL0 _ (by omega) z2
            · rw [show (q + j * 1) % 12 = q + j - 12 by omega]; exact hF0 _ (by omega)
        · rw [if_neg z]
          by_cases z2 : s.testBit q = true ∧ q < La
          · obtain ⟨g1, g2, g3, g4⟩ := (hg q hq).1 z2
            rw [prs_spec (k := g q - q) (by omega) (by omega) z2.1]
            · omega
            · show s.testBit _ = true
              rw [show (q + (g q - q) * 1) % 12 = g q by omega]; exact g3
            · intro j hj hjk
              show s.testBit _ = false
              rw [show (q + j * 1) % 12 = q + j by omega]; exact g4 _ (by omega) (by omega)
          · rw [(hg q hq).2 z2, prs_no]
            show s.testBit q = false
            cases e : s.testBit q with
            | false => rfl
            | true =>
              have : ¬ q < La := fun y => z2 ⟨e, y⟩
              rw [hL0 q (by omega) hq] at e
              cases e
  · intro k x hk hx K hK
    rcases hx with ⟨h1, e⟩ | ⟨F, La, g, hFL, hL, hF1, hL1, hF0, hL0, hg, e⟩
    · subst e
      show wpb_X6_round_12 _ _ _ (nI k) (-1) (-1) (en (fun p => p))
      unfold wpb_X6_round_12
      refine br_f (nle_ge hk (by decide)) ?_
      refine wp_hasBit (by omega) (by omega) (fun b => br_f n1z (br_f n0m1 ?_)) (fun b => br_t rfl ?_)
      · intro i13 e13
        rw [e13, nI_add]
        refine hK _ (Or.inr ⟨k, k, fun p => p, Nat.le_refl _, Nat.lt_succ_self _, b, b, h1, fun q a1 a2 => by omega, fun q hq => ⟨fun z => ?_, fun _ => rfl⟩, rfl⟩)
        have := h1 q z.2
        rw [this] at z
        cases z.1
      · intro i14 e14
        rw [e14, nI_add]
        refine hK _ (Or.inl ⟨fun q hq => ?_, rfl⟩)
        rcases Nat.lt_or_ge q k with z | z
        · exact h1 q z
        · have : q = k := by omega
          subst this; exact b
    · subst e
      show wpb_X6_round_12 _ _ _ (nI k) (nI La) (nI F) (en g)
      unfold wpb_X6_round_12
      have hgl : ∀ p, p < 12 → g p < 12 := fun p hp => by
        by_cases z : s.testBit p = true ∧ p < La
        · have := ((hg p hp).1 z).2.1; omega
        · rw [(hg p hp).2 z]; exact hp
      refine br_f (nle_ge hk (by decide)) ?_
      refine wp_hasBit (by omega) (by omega) (fun b => br_f n1z (br_t (nneg (by omega)) ?_)) (fun b => br_t rfl ?_)
      · refine wp_with (fun p hp => Nat.lt_trans (hgl p hp) (by decide)) (by omega) (by omega) ?_
        intro i12 e12
        rw [e12, nI_add]
        refine hK _ (Or.inr ⟨F, k, fun p => if p = La then k else g p, by omega, Nat.lt_succ_self _, hF1, b, hF0, fun q a1 a2 => by omega, fun q hq => ⟨fun z => ?_, fun z => ?_⟩, rfl⟩)
        · show q < (if q = La then k else g q) ∧ (if q = La then k else g q) ≤ k ∧ s.testBit (if q = La then k else g q) = true ∧ ∀ y, q < y → y < (if q = La then k else g q) → s.testBit y = false
          by_cases c : q = La
          · rw [if_pos c]
            exact ⟨z.2, Nat.le_refl _, b, fun y a1 a2 => hL0 y (by omega) a2⟩
          · rw [if_neg c]
            have hqL : q < La := by
              rcases Nat.lt_or_ge q La with a | a
              · exact a
              · have := hL0 q (by omega) z.2
                rw [this] at z
                cases z.1
            obtain ⟨g1, g2, g3, g4⟩ := (hg q hq).1 ⟨z.1, hqL⟩
            exact ⟨g1, by omega, g3, g4⟩
        · show (if q = La then k else g q) = q
          have c : q ≠ La := fun c => z ⟨by rw [c]; exact hL1, by omega⟩
          rw [if_neg c]
          exact (hg q hq).2 (fun y => z ⟨y.1, by omega⟩)
      · intro i14 e14
        rw [e14, nI_add]
        refine hK _ (Or.inr ⟨F, La, g, hFL, by omega, hF1, hL1, hF0, fun q a1 a2 => ?_, hg, rfl⟩)
        rcases Nat.lt_or_ge q k with z | z
        · exact hL0 q a1 z
        · have : q = k := by omega
          subst this; exact b
