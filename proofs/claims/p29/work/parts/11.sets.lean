/-! ===== sets as bits ===== -/
def bs (P : Nat → Bool) : Nat → Nat
  | 0 => 0
  | n + 1 => bs P n + (if P n then 2 ^ n else 0)
theorem bs_lt (P : Nat → Bool) : ∀ n, bs P n < 2 ^ n
  | 0 => by show 0 < 2 ^ 0; decide
  | n + 1 => by
    have := bs_lt P n
    show bs P n + (if P n then 2 ^ n else 0) < 2 ^ (n + 1)
    rw [Nat.pow_succ]
    split <;> omega
theorem bs_or {P : Nat → Bool} {n : Nat} (h : P n = true) : bs P n ||| 2 ^ n = bs P (n + 1) := by
  have := Nat.two_pow_add_eq_or_of_lt (bs_lt P n) 1
  show bs P n ||| 2 ^ n = bs P n + (if P n then 2 ^ n else 0)
  rw [if_pos h, Nat.or_comm, ← Nat.mul_one (2 ^ n), ← this]
  omega
theorem bs_no {P : Nat → Bool} {n : Nat} (h : P n = false) : bs P n = bs P (n + 1) := by
  show bs P n = bs P n + (if P n then 2 ^ n else 0)
  rw [if_neg (by rw [h]; decide)]
  rfl
theorem bs_bit (P : Nat → Bool) : ∀ n j, (bs P n).testBit j = (decide (j < n) && P j)
  | 0, j => by show (0 : Nat).testBit j = _; rw [Nat.zero_testBit]; simp
  | n + 1, j => by
    cases h : P n with
    | false =>
      rw [← bs_no h, bs_bit P n j]
      by_cases e : j = n
      · subst e; simp [h]
      · by_cases e2 : j < n
        · have : j < n + 1 := by omega
          simp [e2, this]
        · have : ¬ j < n + 1 := by omega
          simp [e2, this]
    | true =>
      rw [← bs_or h, Nat.testBit_or, bs_bit P n j, Nat.testBit_two_pow]
      by_cases e : j = n
      · subst e; simp [h]
      · by_cases e2 : j < n
        · have : j < n + 1 := by omega
          have e3 : n ≠ j := fun z => e z.symm
          simp [e2, this, e3]
        · have : ¬ j < n + 1 := by omega
          have e3 : n ≠ j := fun z => e z.symm
          simp [e2, this, e3]
theorem bs_of {P : Nat → Bool} {n x : Nat} (hx : x < 2 ^ n) (h : ∀ j, j < n → x.testBit j = P j) : x = bs P n := by
  refine Nat.eq_of_testBit_eq fun j => ?_
  rw [bs_bit]
  by_cases e : j < n
  · simp [e, h j e]
  · rw [Nat.testBit_lt_two_pow (Nat.lt_of_lt_of_le hx (Nat.pow_le_pow_right (by decide) (by omega)))]
    simp [e]
theorem bs_ext {P R : Nat → Bool} {n : Nat} (h : ∀ j, j < n → P j = R j) : bs P n = bs R n := bs_of (bs_lt P n) fun j hj => by rw [bs_bit, h j hj]; simp [hj]
theorem sh1 {p : Nat} (hp : p < 31) : nI 1 <<< (nI p &&& 31) = nI (2 ^ p) := by
  have := pk_shlN (n := 1) (nI p &&& 31) p (s_l p (by omega)) (by rw [Nat.one_mul]; exact Nat.pow_lt_pow_right (by decide) (by omega))
  rw [Nat.one_mul] at this
  exact this
theorem or_sh {A p : Nat} (hp : p < 31) : nI A ||| (nI 1 <<< (nI p &&& 31)) = nI (A ||| 2 ^ p) := by rw [sh1 hp, fa_or]
theorem bs_put {P : Nat → Bool} {k : Nat} (hk : k < 31) (h : P k = true) : nI (bs P k) ||| (nI 1 <<< (nI k &&& 31)) = nI (bs P (k + 1)) := by rw [or_sh hk, bs_or h]
theorem sr_bit {s i : Nat} (hs : s < 2 ^ 31) (hi : i < 32) : (nI s >>> (nI i &&& 31)) &&& nI 1 = nI (if s.testBit i then 1 else 0) := by
  rw [pk_shrN hs (nI i &&& 31) i (s_l i hi)]
  have e2 : nI (s / 2 ^ i) &&& nI (2 ^ 1 - 1) = nI (s / 2 ^ i % 2 ^ 1) := fa_mask _ 1
  refine e2.trans (congrArg nI ?_)
  rw [Nat.testBit_eq_decide_div_mod_eq]
  have : s / 2 ^ i % 2 < 2 := Nat.mod_lt _ (by decide)
  by_cases g : s / 2 ^ i % 2 = 1
  · simp [g]
  · have : s / 2 ^ i % 2 = 0 := by omega
    simp [this]
theorem n10 : nI 1 ≠ nI 0 := by decide
theorem n01 : nI 0 ≠ nI 1 := by decide
theorem n1z : ¬ nI 1 = 0 := by decide
theorem wp_hasBit {s i : Nat} {Post : Int32 → Prop} (hs : s < 2 ^ 31) (hi : i < 32) (h1 : s.testBit i = true → Post (nI 1)) (h0 : s.testBit i = false → Post (nI 0)) : wp_X7_hasBit (nI s) (nI i) Post := by
  unfold wp_X7_hasBit
  rw [sr_bit hs hi]
  cases g : s.testBit i with
  | true => exact br_t rfl (h1 g)
  | false => exact br_f n01 (h0 g)
theorem wp_below {x : Int32} {n : Nat} {Post : Int32 → Prop} (hn : n < 1000000) (h1 : ∀ j, j < n → x = nI j → Post (nI 1)) (h0 : x < 0 ∨ nI n ≤ x → Post (nI 0)) : wp_X7_isBelow x (nI n) Post := by
  unfold wp_X7_isBelow
  rcases pk_ix x (show n < 2 ^ 31 by omega) with g | g | ⟨j, hj, e⟩
  · exact br_t g (h0 (Or.inl g))
  · refine br_c (fun g2 => h0 (Or.inl g2)) (fun _ => br_t g (h0 (Or.inr g)))
  · subst e
    exact br_f (nI_pos (by omega)) (br_f (nI_ge hj (by omega)) (h1 j hj rfl))
theorem wp_below_t {j n : Nat} {Post : Int32 → Prop} (hn : n < 1000000) (hj : j < n) (h : Post (nI 1)) : wp_X7_isBelow (nI j) (nI n) Post := wp_below hn (fun _ _ _ => h) (fun g => by
  rcases g with g | g
  · exact absurd g (nI_pos (by omega))
  · exact absurd g (nI_ge hj (by omega)))
theorem wp_alike {f g : Nat → Nat} {Post : Int32 → Prop} (hf : ∀ p, p < 12 → f p < 16) (hg : ∀ p, p < 12 → g p < 16) (h : Post (nI (bs (fun p => f p == g p) 12))) : wp_X6_alikePlaces (en f) (en g) Post := by
  unfold wp_X6_alikePlaces
  refine wpL_for 12 (fun k t => t = nI (bs (fun p => f p == g p) k)) rfl ?_ ?_
  · intro t ht K
    show wpb_X6_alikePlaces_6 _ _ _ _ (nI 12) t
    unfold wpb_X6_alikePlaces_6
    refine br_t (nle_re 12) ?_
    rw [ht]; exact h
  · intro k t hk ht K hK
    show wpb_X6_alikePlaces_6 _ _ _ _ (nI k) t
    unfold wpb_X6_alikePlaces_6
    refine br_f (nle_ge hk (by decide)) ?_
    refine wp_at hf hk ?_
    refine wp_at hg hk ?_
    have h1 := hf k hk
    have h2 := hg k hk
    refine br_c (fun e => ?_) (fun e => ?_)
    · have e : f k = g k := (nI_eq (by omega) (by omega)).mp e
      intro i8 e8 i9 e9
      rw [e9, nI_add, e8, ht, bs_put (by omega) (by simp [e])]
      exact hK _ rfl
    · have e : f k ≠ g k := fun z => e (congrArg nI z)
      intro i7 e7
      rw [e7, nI_add, ht]
      refine hK _ ?_
      rw [bs_no (P := fun p => f p == g p) (by simp [e])]
/-! Integer.bitCount of a set of places -/
def pop (n : Nat) : Nat := fb_ct (fun j => n.testBit j) 12
def bcN (v : Nat) : Nat :=
  let i1 := v - ((v / 2 ^ 1) &&& 1431655765)
  let i2 := (i1 &&& 858993459) + ((i1 / 2 ^ 2) &&& 858993459)
  let i3 := (i2 + i2 / 2 ^ 4) &&& 252645135
  let i4 := i3 + i3 / 2 ^ 8
  let i5 := i4 + i4 / 2 ^ 16
  i5 &&& 63
theorem bc_all : (List.range 4096).all (fun n => bcN n == pop n) = true := by decide +kernel
theorem ush_nI {n k : Nat} (hn : n < 2 ^ 32) (hk : k < 32) : uShr (nI n) (nI k) = nI (n / 2 ^ k) := pk_ushrN hn (nI k) k (s_u k hk)
theorem and_le (a b : Nat) : a &&& b ≤ a := Nat.and_le_left
theorem wp_bitCount {s : Nat} {Post : Int32 → Prop} (hs : s < 4096) (h : Post (nI (pop s))) : wp_J6_bitCount_0f7a4 (nI s) Post := by
  unfold wp_J6_bitCount_0f7a4
  have k1 : (1431655765 : Int32) = nI 1431655765 := rfl
  have k2 : (858993459 : Int32) = nI 858993459 := rfl
  have k3 : (252645135 : Int32) = nI 252645135 := rfl
  intro i1 e1 i2 e2 i3 e3 i4 e4 i5 e5
  have b0 : (s / 2 ^ 1) &&& 1431655765 ≤ s := Nat.le_trans Nat.and_le_left (Nat.div_le_self _ _)
  have f1 : i1 = nI (s - ((s / 2 ^ 1) &&& 1431655765)) := by
    rw [e1, ush_nI (by omega) (by decide), k1, fa_and, pk_sub b0]
  have g1 : s - ((s / 2 ^ 1) &&& 1431655765) < 4096 := by omega
  have hp := List.all_eq_true.mp bc_all s (List.mem_range.mpr hs)
  have hp : bcN s = pop s := by simpa using hp
  rw [← hp] at h
  unfold bcN at h
  dsimp only at h
  generalize s - ((s / 2 ^ 1) &&& 1431655765) = a1 at f1 g1 h
  have f2 : i2 = nI ((a1 &&& 858993459) + ((a1 / 2 ^ 2) &&& 858993459)) := by
    rw [e2, f1, ush_nI (by omega) (by decide), k2, fa_and, fa_and, nI_add]
  have g2 : (a1 &&& 858993459) + ((a1 / 2 ^ 2) &&& 858993459) < 8192 := by
    have := Nat.and_le_left (n := a1) (m := 858993459)
    have := Nat.and_le_left (n := a1 / 2 ^ 2) (m := 858993459)
    have := Nat.div_le_self a1 (2 ^ 2)
    omega
  generalize (a1 &&& 858993459) + ((a1 / 2 ^ 2) &&& 858993459) = a2 at f2 g2 h
  have f3 : i3 = nI ((a2 + a2 / 2 ^ 4) &&& 252645135) := by
    rw [e3, f2, ush_nI (by omega) (by decide), k3, nI_add, fa_and]
  have g3 : (a2 + a2 / 2 ^ 4) &&& 252645135 < 16384 := by
    have := Nat.and_le_left (n := a2 + a2 / 2 ^ 4) (m := 252645135)
    have := Nat.div_le_self a2 (2 ^ 4)
    omega
  generalize (a2 + a2 / 2 ^ 4) &&& 252645135 = a3 at f3 g3 h
  have f4 : i4 = nI (a3 + a3 / 2 ^ 8) := by rw [e4, f3, ush_nI (by omega) (by decide), nI_add]
  have g4 : a3 + a3 / 2 ^ 8 < 32768 := by have := Nat.div_le_self a3 (2 ^ 8); omega
  generalize a3 + a3 / 2 ^ 8 = a4 at f4 g4 h
  have f5 : i5 = nI (a4 + a4 / 2 ^ 16) := by rw [e5, f4, ush_nI (by omega) (by decide), nI_add]
  rw [f5, fa_and]
  exact h
theorem pop_bs (P : Nat → Bool) : pop (bs P 12) = fb_ct P 12 := fb_ct_cong fun k hk => by rw [bs_bit]; simp [hk]
theorem wp_staying {f : Nat → Nat} {Post : Int32 → Prop} (hf : ∀ p, p < 12 → f p < 16) (h : Post (nI (fb_ct (fun p => f p == p) 12))) : wp_X6_staying (en f) Post := by
  unfold wp_X6_staying
  rw [home_en]
  refine wp_alike hf (fun p hp => Nat.lt_trans hp (by decide)) ?_
  refine wp_bitCount (bs_lt _ 12) ?_
  rw [pop_bs]
  exact h
