/-! ===== rows of twelve numbers in one long ===== -/
def nib (x i : Nat) : Nat := x / 16 ^ i % 16
def encN (f : Nat → Nat) : Nat → Nat
  | 0 => 0
  | n + 1 => encN f n + f n * 16 ^ n
def en (f : Nat → Nat) : Int64 := lN (encN f 12)
theorem encN_lt {f : Nat → Nat} : ∀ {n : Nat}, (∀ i, i < n → f i < 16) → encN f n < 16 ^ n
  | 0, _ => by show 0 < 16 ^ 0; decide
  | n + 1, h => by
    have h1 := encN_lt (f := f) (n := n) (fun i hi => h i (by omega))
    have h2 : f n * 16 ^ n ≤ 15 * 16 ^ n := Nat.mul_le_mul_right _ (by have := h n (by omega); omega)
    show encN f n + f n * 16 ^ n < 16 ^ (n + 1)
    rw [Nat.pow_succ]
    omega
theorem encN_ext {f g : Nat → Nat} : ∀ {n : Nat}, (∀ i, i < n → f i = g i) → encN f n = encN g n
  | 0, _ => rfl
  | n + 1, h => by
    show encN f n + f n * 16 ^ n = encN g n + g n * 16 ^ n
    rw [encN_ext (fun i hi => h i (by omega)), h n (by omega)]
theorem nib_enc {f : Nat → Nat} {i : Nat} : ∀ {n : Nat}, i < n → (∀ j, j < n → f j < 16) → nib (encN f n) i = f i
  | 0, h, _ => absurd h (Nat.not_lt_zero _)
  | n + 1, h, hf => by
    have hlt := encN_lt (f := f) (n := n) (fun j hj => hf j (by omega))
    show (encN f n + f n * 16 ^ n) / 16 ^ i % 16 = f i
    rcases Nat.lt_or_ge i n with q | q
    · have ih := nib_enc (f := f) (i := i) q (fun j hj => hf j (by omega))
      have e : f n * 16 ^ n = (f n * 16 ^ (n - i - 1) * 16) * 16 ^ i := by
        rw [Nat.mul_assoc, Nat.mul_assoc, ← Nat.pow_succ', ← Nat.pow_add]
        congr 2; omega
      rw [e, Nat.add_mul_div_right _ _ (Nat.pow_pos (by decide)), Nat.add_mul_mod_self_right]
      exact ih
    · have e : i = n := by omega
      subst e
      rw [Nat.add_mul_div_right _ _ (Nat.pow_pos (by decide)), Nat.div_eq_of_lt hlt, Nat.zero_add]
      exact Nat.mod_eq_of_lt (hf i (by omega))
theorem enc_nib (x : Nat) : ∀ n : Nat, encN (nib x) n = x % 16 ^ n
  | 0 => by show 0 = x % 1; omega
  | n + 1 => by
    show encN (nib x) n + nib x n * 16 ^ n = x % 16 ^ (n + 1)
    rw [enc_nib x n, Nat.mod_pow_succ, Nat.mul_comm]
    rfl
theorem enc_of {x : Nat} {f : Nat → Nat} (hx : x < 16 ^ 12) (h : ∀ i, i < 12 → nib x i = f i) : x = encN f 12 := by
  rw [← encN_ext h, enc_nib, Nat.mod_eq_of_lt hx]
theorem encN_lt63 {f : Nat → Nat} (h : ∀ i, i < 12 → f i < 16) : encN f 12 < 2 ^ 63 := Nat.lt_trans (encN_lt h) (by decide)
theorem encN_lt64 {f : Nat → Nat} (h : ∀ i, i < 12 → f i < 16) : encN f 12 < 2 ^ 64 := Nat.lt_trans (encN_lt h) (by decide)
theorem en_ext {f g : Nat → Nat} (h : ∀ i, i < 12 → f i = g i) : en f = en g := congrArg lN (encN_ext h)
theorem en_eq {f g : Nat → Nat} (hf : ∀ i, i < 12 → f i < 16) (hg : ∀ i, i < 12 → g i < 16) : en f = en g ↔ ∀ i, i < 12 → f i = g i := by
  constructor
  · intro h i hi
    have h2 := (pk_lEQ (encN_lt63 hf) (encN_lt63 hg)).mp h
    rw [← nib_enc hi hf, h2, nib_enc hi hg]
  · exact en_ext
theorem home_en : (205163983024656 : Int64) = en (fun p => p) := by decide +kernel
theorem lg0 {x y : Int64} : lg_cmp x y = 0 ↔ x = y := by
  unfold lg_cmp
  by_cases h1 : x > y
  · rw [if_pos h1]
    refine ⟨fun h => absurd h (by decide), fun h => ?_⟩
    rw [h] at h1
    exact absurd h1 (Int64.lt_irrefl)
  · rw [if_neg h1]
    by_cases h2 : x = y
    · rw [if_pos h2]; exact ⟨fun _ => h2, fun _ => rfl⟩
    · rw [if_neg h2]
      exact ⟨fun h => absurd h (by decide), fun h => absurd h h2⟩
theorem pow16 (i : Nat) : 2 ^ (4 * i) = 16 ^ i := by rw [Nat.pow_mul]
/-! what the methods of rows answer -/
theorem ush_en {x i : Nat} (hx : x < 2 ^ 64) (hi : i < 16) : (uShrL (lN x) (nI 4 * nI i)).toInt32 &&& nI 15 = nI (nib x i) := by
  rw [pk_mul]
  have e : uShrL (lN x) (nI (4 * i)) = lN (x / 2 ^ (4 * i)) := wb_shr hx (by omega)
  rw [e, lN_i]
  have e2 : nI (x / 2 ^ (4 * i)) &&& nI (2 ^ 4 - 1) = nI (x / 2 ^ (4 * i) % 2 ^ 4) := fa_mask _ 4
  rw [pow16] at e2 ⊢
  exact e2
theorem wp_at {f : Nat → Nat} {i : Nat} {Post : Int32 → Prop} (hf : ∀ p, p < 12 → f p < 16) (hi : i < 12) (h : Post (nI (f i))) : wp_X4_at (en f) (nI i) Post := by
  unfold wp_X4_at en
  rw [ush_en (encN_lt64 hf) (by omega), nib_enc hi hf]
  exact h
theorem or_put (A a q : Nat) (ha : a < 16) (hq : q < 16) : lN A ||| shlL (nI a).toInt64 (nI 4 * nI q) = lN (A ||| a * 16 ^ q) := by
  rw [pk_mul, nI_l (by omega)]
  have e : shlL (lN a) (nI (4 * q)) = lN (a * 2 ^ (4 * q)) := wb_shl a (by omega)
  rw [e, fb_orL, pow16]
theorem or_add {A a k : Nat} (hA : A < 16 ^ k) : A ||| a * 16 ^ k = A + a * 16 ^ k := by
  rw [← pow16] at hA ⊢
  have := Nat.two_pow_add_eq_or_of_lt hA a
  rw [Nat.or_comm, Nat.mul_comm, ← this, Nat.add_comm]
theorem wpL_from {τ : Type} {body : ((Int32 × τ) → Prop) → (Int32 × τ) → Prop} (N : Nat) (I : Nat → τ → Prop) {k0 : Nat} {t0 : τ} (hk : k0 ≤ N) (h : I k0 t0) (hexit : ∀ t, I N t → ∀ K, body K (nI N, t)) (hstep : ∀ k t, k < N → I k t → ∀ K : (Int32 × τ) → Prop, (∀ t', I (k + 1) t' → K (nI (k + 1), t')) → body K (nI k, t)) : ∃ n, wpL body n (nI k0, t0) := by
  have key : ∀ d k t, k + d = N → I k t → wpL body (d + 1) (nI k, t) := by
    intro d
    induction d with
    | zero =>
      intro k t e hI
      have e : k = N := by omega
      subst e
      exact hexit t hI _
    | succ d ih =>
      intro k t e hI
      exact hstep k t (by omega) hI _ (fun t' h' => ih (k + 1) t' (by omega) h')
  exact ⟨_, key (N - k0) k0 t0 (by omega) h⟩
theorem wpL_for {τ : Type} {body : ((Int32 × τ) → Prop) → (Int32 × τ) → Prop} (N : Nat) (I : Nat → τ → Prop) {t0 : τ} (h : I 0 t0) (hexit : ∀ t, I N t → ∀ K, body K (nI N, t)) (hstep : ∀ k t, k < N → I k t → ∀ K : (Int32 × τ) → Prop, (∀ t', I (k + 1) t' → K (nI (k + 1), t')) → body K (nI k, t)) : ∃ n, wpL body n (nI 0, t0) := wpL_from N I (Nat.zero_le _) h hexit hstep
theorem nle_ge {k N : Nat} (h : k < N) (hN : N < 1000000) : ¬ nI N ≤ nI k := nI_ge h (by omega)
theorem nle_re (N : Nat) : nI N ≤ nI N := Int32.le_refl _
theorem wp_then {f g : Nat → Nat} {Post : Int64 → Prop} (hf : ∀ p, p < 12 → f p < 12) (hg : ∀ p, p < 12 → g p < 16) (h : Post (en (fun p => g (f p)))) : wp_X6_then (en f) (en g) Post := by
  unfold wp_X6_then
  refine wpL_for 12 (fun k t => t = lN (encN (fun p => g (f p)) k)) rfl ?_ ?_
  · intro t ht K
    show wpb_X6_then_6 _ _ _ _ (nI 12) t
    unfold wpb_X6_then_6
    refine br_t (nle_re 12) ?_
    rw [ht]; exact h
  · intro k t hk ht K hK
    show wpb_X6_then_6 _ _ _ _ (nI k) t
    unfold wpb_X6_then_6
    refine br_f (nle_ge hk (by decide)) ?_
    refine wp_at (fun p hp => Nat.lt_trans (hf p hp) (by decide)) hk ?_
    refine wp_at hg (hf k hk) ?_
    intro j6 e6 i7 e7
    have hA : encN (fun p => g (f p)) k < 16 ^ k := encN_lt (fun i hi => hg _ (hf i (by omega)))
    rw [e7, nI_add, e6, ht, or_put _ _ _ (hg _ (hf k hk)) (by omega), or_add hA]
    exact hK _ rfl
/-! permutations of the twelve places -/
def PM (w : Nat → Nat) : Prop := (∀ p, p < 12 → w p < 12) ∧ ∀ p q, p < 12 → q < 12 → w p = w q → p = q
theorem PM.id : PM (fun p => p) := ⟨fun _ h => h, fun _ _ _ _ h => h⟩
theorem PM.cmp {a b : Nat → Nat} (ha : PM a) (hb : PM b) : PM (fun p => b (a p)) := ⟨fun p h => hb.1 _ (ha.1 p h), fun p q hp hq e => ha.2 p q hp hq (hb.2 _ _ (ha.1 p hp) (ha.1 q hq) e)⟩
theorem PM.lt16 {w : Nat → Nat} (h : PM w) : ∀ p, p < 12 → w p < 16 := fun p hp => Nat.lt_trans (h.1 p hp) (by decide)
theorem PM.onto {w : Nat → Nat} (h : PM w) {q : Nat} (hq : q < 12) : ∃ p, p < 12 ∧ w p = q := fb_onto h.1 (fun i j hij hj e => by have := h.2 i j (by omega) hj e; omega) hq
noncomputable def iv (w : Nat → Nat) (q : Nat) : Nat := Classical.epsilon (fun p => p < 12 ∧ w p = q)
theorem iv_spec {w : Nat → Nat} (h : PM w) {q : Nat} (hq : q < 12) : iv w q < 12 ∧ w (iv w q) = q := Classical.epsilon_spec (h.onto hq)
theorem iv_of {w : Nat → Nat} (h : PM w) {p : Nat} (hp : p < 12) : iv w (w p) = p := by
  obtain ⟨h1, h2⟩ := iv_spec h (h.1 p hp)
  exact h.2 _ _ h1 hp h2
theorem PM.iv {w : Nat → Nat} (h : PM w) : PM (iv w) := ⟨fun q hq => (iv_spec h hq).1, fun p q hp hq e => by rw [← (iv_spec h hp).2, ← (iv_spec h hq).2, e]⟩
/-- a row after each number has gone from its place to where the way tells -/
noncomputable def mv (f w : Nat → Nat) : Nat → Nat := fun q => f (iv w q)
theorem mv_at {f w : Nat → Nat} (h : PM w) {p : Nat} (hp : p < 12) : mv f w (w p) = f p := by show f (iv w (w p)) = f p; rw [iv_of h hp]
theorem nib_or (x y r : Nat) : nib (x ||| y) r = nib x r ||| nib y r := by
  unfold nib
  rw [← pow16, ← Nat.shiftRight_eq_div_pow, ← Nat.shiftRight_eq_div_pow, ← Nat.shiftRight_eq_div_pow, Nat.shiftRight_or_distrib]
  exact Nat.or_mod_two_pow (n := 4)
theorem nib_put {a q r : Nat} (ha : a < 16) : nib (a * 16 ^ q) r = if r = q then a else 0 := by
  unfold nib
  by_cases e : r = q
  · subst e
    rw [if_pos rfl, Nat.mul_div_cancel _ (Nat.pow_pos (by decide)), Nat.mod_eq_of_lt ha]
  · rw [if_neg e]
    rcases Nat.lt_or_ge r q with g | g
    · have e2 : a * 16 ^ q = (a * 16 ^ (q - r - 1) * 16) * 16 ^ r := by
        rw [Nat.mul_assoc, Nat.mul_assoc, ← Nat.pow_succ', ← Nat.pow_add]
        congr 2; omega
      rw [e2, Nat.mul_div_cancel _ (Nat.pow_pos (by decide)), Nat.mul_mod_left]
    · have h1 : a * 16 ^ q < 16 ^ r := Nat.lt_of_lt_of_le (by rw [Nat.pow_succ']; exact Nat.mul_lt_mul_of_pos_right ha (Nat.pow_pos (by decide)) : a * 16 ^ q < 16 ^ (q + 1)) (Nat.pow_le_pow_right (by decide) (by omega))
      rw [Nat.div_eq_of_lt h1]
theorem or_lt12 {A a q : Nat} (hA : A < 16 ^ 12) (ha : a < 16) (hq : q < 12) : A ||| a * 16 ^ q < 16 ^ 12 := by
  have e : (16 : Nat) ^ 12 = 2 ^ 48 := by decide
  rw [e] at hA ⊢
  refine Nat.or_lt_two_pow hA ?_
  have h1 : a * 16 ^ q < 16 ^ (q + 1) := by rw [Nat.pow_succ']; exact Nat.mul_lt_mul_of_pos_right ha (Nat.pow_pos (by decide))
  have h2 : (16 : Nat) ^ (q + 1) ≤ 16 ^ 12 := Nat.pow_le_pow_right (by decide) (by omega)
  rw [e] at h2
  omega
theorem wp_moved {f w : Nat → Nat} {Post : Int64 → Prop} (hf : ∀ p, p < 12 → f p < 16) (hw : PM w) (h : Post (en (mv f w))) : wp_X4_moved (en f) (en w) Post := by
  unfold wp_X4_moved
  refine wpL_for 12 (fun k t => ∃ A : Nat, t = lN A ∧ A < 16 ^ 12 ∧ (∀ i, i < k → nib A (w i) = f i) ∧ ∀ r, r < 12 → (∀ i, i < k → w i ≠ r) → nib A r = 0) ⟨0, rfl, by decide, fun i hi => absurd hi (Nat.not_lt_zero _), fun r _ _ => by unfold nib; rw [Nat.zero_div]⟩ ?_ ?_
  · intro t ht K
    show wpb_X4_moved_6 _ _ _ _ (nI 12) t
    unfold wpb_X4_moved_6
    refine br_t (nle_re 12) ?_
    obtain ⟨A, e, hA, h1, h2⟩ := ht
    rw [e, enc_of (f := mv f w) hA]
    · exact h
    · intro q hq
      obtain ⟨g1, g2⟩ := iv_spec hw hq
      have := h1 (iv w q) g1
      rw [g2] at this
      exact this
  · intro k t hk ht K hK
    show wpb_X4_moved_6 _ _ _ _ (nI k) t
    unfold wpb_X4_moved_6
    refine br_f (nle_ge hk (by decide)) ?_
    refine wp_at hf hk ?_
    refine wp_at hw.lt16 hk ?_
    intro j6 e6 i7 e7
    obtain ⟨A, e, hA, h1, h2⟩ := ht
    have hwk := hw.1 k hk
    rw [e7, nI_add, e6, e, or_put _ _ _ (hf k hk) (by omega)]
    refine hK _ ⟨_, rfl, or_lt12 hA (hf k hk) hwk, fun i hi => ?_, fun r hr hn => ?_⟩
    · rw [nib_or, nib_put (hf k hk)]
      by_cases g : i = k
      · subst g
        rw [if_pos rfl, h2 _ hwk (fun j hj e => by have := hw.2 j i (by omega) hk e; omega), Nat.zero_or]
      · rw [if_neg (fun e => g (hw.2 i k (by omega) hk e)), Nat.or_zero, h1 i (by omega)]
    · rw [nib_or, nib_put (hf k hk), if_neg (fun e => hn k (by omega) e.symm), Nat.or_zero, h2 r hr (fun i hi => hn i (by omega))]
theorem enc_bit {f : Nat → Nat} (hf : ∀ p, p < 12 → f p < 16) (j : Nat) : (encN f 12).testBit j = (decide (j < 48) && (f (j / 4)).testBit (j % 4)) := by
  by_cases hj : j < 48
  · have h1 : nib (encN f 12) (j / 4) = f (j / 4) := nib_enc (by omega) hf
    rw [← h1]
    unfold nib
    rw [← pow16]
    rw [show (16 : Nat) = 2 ^ 4 from rfl, Nat.testBit_mod_two_pow, Nat.testBit_div_two_pow]
    have e : 4 * (j / 4) + j % 4 = j := Nat.div_add_mod j 4
    have e2 : j % 4 < 4 := Nat.mod_lt _ (by decide)
    have e3 : j % 4 + 4 * (j / 4) = j := by omega
    simp [hj, e2, e, e3]
  · have h1 : encN f 12 < 2 ^ j := Nat.lt_of_lt_of_le (encN_lt hf) (by rw [show (16 : Nat) ^ 12 = 2 ^ 48 by decide]; exact Nat.pow_le_pow_right (by decide) (by omega))
    rw [Nat.testBit_lt_two_pow h1]
    simp [hj]
theorem wp_with {f : Nat → Nat} {i v : Nat} {Post : Int64 → Prop} (hf : ∀ p, p < 12 → f p < 16) (hi : i < 12) (hv : v < 16) (h : Post (en (fun p => if p = i then v else f p))) : wp_X4_with (en f) (nI i) (nI v) Post := by
  unfold wp_X4_with
  have hf0 : ∀ p, p < 12 → (fun p => if p = i then 0 else f p) p < 16 := fun p hp => by
    show (if p = i then 0 else f p) < 16
    split
    · decide
    · exact hf p hp
  have e1 : en f &&& (shlL (15 : Int64) (nI 4 * nI i) ^^^ (-1 : Int64)) = lN (encN (fun p => if p = i then 0 else f p) 12) := by
    rw [pk_mul]
    have e : shlL (lN 15) (nI (4 * i)) = lN (15 * 2 ^ (4 * i)) := wb_shl 15 (by omega)
    have em : (-1 : Int64) = lN (2 ^ 64 - 1) := by decide +kernel
    show lN (encN f 12) &&& (shlL (lN 15) (nI (4 * i)) ^^^ (-1 : Int64)) = _
    rw [e, em, fb_xorL, fb_andL]
    refine congrArg lN (Nat.eq_of_testBit_eq fun j => ?_)
    rw [Nat.testBit_and, Nat.testBit_xor, Nat.testBit_two_pow_sub_one, enc_bit hf, enc_bit hf0, Nat.testBit_mul_two_pow, show (15 : Nat) = 2 ^ 4 - 1 from rfl, Nat.testBit_two_pow_sub_one]
    by_cases hj : j < 48
    · by_cases g : j / 4 = i
      · have h1 : 4 * i ≤ j := by omega
        have h2 : j - 4 * i < 4 := by omega
        have h3 : j < 64 := by omega
        simp [hj, g, h1, h2, h3]
      · have h3 : j < 64 := by omega
        have h4 : ¬ (4 * i ≤ j ∧ j - 4 * i < 4) := by omega
        rcases Nat.lt_or_ge j (4 * i) with q | q
        · have h5 : ¬ 4 * i ≤ j := by omega
          simp [hj, g, h3, h5]
        · have h5 : ¬ j - 4 * i < 4 := by omega
          simp [hj, g, h3, h5]
    · simp [hj]
  have e2 : lN (encN (fun p => if p = i then 0 else f p) 12) ||| shlL (nI v).toInt64 (nI 4 * nI i) = en (fun p => if p = i then v else f p) := by
    rw [or_put _ _ _ hv (by omega)]
    refine congrArg lN (enc_of (or_lt12 (encN_lt hf0) hv hi) fun r hr => ?_)
    rw [nib_or, nib_put hv, nib_enc hr hf0]
    by_cases g : r = i
    · simp [g]
    · simp [g]
  rw [e1, e2]
  exact h
