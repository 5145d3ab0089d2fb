/-! ===== the law's own arrays ===== -/
def AF (S : PS) (a n : Nat) (F : Nat → Int32) : Prop := n < 1000 ∧ ∃ f, S a = aI n f ∧ ∀ k, k < n → f k = F k
theorem AF.get {S : PS} {a n k : Nat} {F : Nat → Int32} {P : Int32 → Prop} (h : AF S a n F) (hk : k < n) (hP : P (F k)) : lI S a (nI k) P := by
  obtain ⟨hn, f, e, hf⟩ := h
  exact lI_of e hk (by omega) (by rw [hf k hk]; exact hP)
theorem AF.set {S : PS} {a n k : Nat} {F : Nat → Int32} {x : Int32} {P : PS → Prop} (h : AF S a n F) (hk : k < n) (hP : ∀ S', AF S' a n (fun j => if j = k then x else F j) → (∀ b, b ≠ a → S' b = S b) → P S') : sI S a (nI k) x P := by
  obtain ⟨hn, f, e, hf⟩ := h
  refine sI_of e hk (by omega) (hP _ ⟨hn, _, up_s _ _ _, fun j hj => ?_⟩ (fun b hb => up_n hb))
  by_cases g : j = k
  · subst g; rw [pk_us]; exact (if_pos rfl).symm
  · rw [pk_un g, hf j hj]; exact (if_neg g).symm
theorem AF.fr {S S' : PS} {a n : Nat} {F : Nat → Int32} (h : AF S a n F) (e : S' a = S a) : AF S' a n F := by
  obtain ⟨hn, f, e1, hf⟩ := h
  exact ⟨hn, f, by rw [e]; exact e1, hf⟩
theorem AF.ext {S : PS} {a n : Nat} {F G : Nat → Int32} (h : AF S a n F) (e : ∀ k, k < n → F k = G k) : AF S a n G := by
  obtain ⟨hn, f, e1, hf⟩ := h
  exact ⟨hn, f, e1, fun k hk => (hf k hk).trans (e k hk)⟩
theorem AF.live {S : PS} {a n : Nat} {F : Nat → Int32} (h : AF S a n F) : S a ≠ oJ := by
  obtain ⟨hn, f, e, hf⟩ := h
  rw [e]; exact r_ne_oJ
abbrev AN (S : PS) (a n : Nat) (g : Nat → Nat) : Prop := AF S a n (fun k => nI (g k))
/-- a new array -/
theorem nw_AF {S : PS} {n : Nat} {P : Nat → PS → Prop} (hn : n < 1000) (hP : ∀ q S', S q = oJ → AF S' q n (fun _ => 0) → (∀ b, b ≠ q → S' b = S b) → P q S') : nw S (aI n (fun _ => 0)) P := by
  intro q hq S1 e
  subst e
  exact hP q _ hq ⟨hn, _, up_s _ _ _, fun _ _ => rfl⟩ (fun b hb => up_n hb)
theorem ne_new {S : PS} {a q : Nat} (ha : S a ≠ oJ) (hq : S q = oJ) : a ≠ q := fun e => ha (by rw [e]; exact hq)
/-- a counting loop whose rounds are counted -/
theorem wpL_fromB {τ : Type} {body : ((Int32 × τ) → Prop) → (Int32 × τ) → Prop} (N : Nat) (I : Nat → τ → Prop) {k0 M : Nat} {t0 : τ} (hk : k0 ≤ N) (hM : N - k0 + 1 ≤ M) (h : I k0 t0) (hexit : ∀ t, I N t → ∀ K, body K (nI N, t)) (hstep : ∀ k t, k < N → I k t → ∀ K : (Int32 × τ) → Prop, (∀ t', I (k + 1) t' → K (nI (k + 1), t')) → body K (nI k, t)) : ∃ n, n ≤ M ∧ wpL body n (nI k0, t0) := by
  have key : ∀ d k t, k + d = N → I k t → wpL body (d + 1) (nI k, t) := by
    intro d
    induction d with
    | zero =>
      intro k t e hI
      have e : k = N := by omega
      subst e
      exact hexit t hI _
    | succ d ih =>
      intro k t e hI
      exact hstep k t (by omega) hI _ (fun t' h' => ih (k + 1) t' (by omega) h')
  exact ⟨_, hM, key (N - k0) k0 t0 (by omega) h⟩
/-! low, ones -/
def lw (x : Int32) (n : Nat) : Nat := x.toBitVec.toNat % 2 ^ 31 % n
theorem lw_lt {x : Int32} {n : Nat} (h : 0 < n) : lw x n < n := Nat.mod_lt _ h
theorem wq_low {x : Int32} {n : Nat} {Post : Int32 → Prop} (h0 : 0 < n) (hn : n < 2 ^ 31) (h : Post (nI (lw x n))) : wp_L_low x (nI n) Post := by
  unfold wp_L_low
  refine ⟨nI_ne0 h0 hn, ?_⟩
  have e : x &&& (2147483647 : Int32) = nI (x.toBitVec.toNat % 2 ^ 31) := pk_and x 31 (by decide +kernel)
  rw [e, pk_rem (Nat.mod_lt _ (by decide)) h0 hn]
  exact h
theorem pop_all : (List.range 4096).all (fun n => n == 0 || (pop (n &&& (n - 1)) + 1 == pop n)) = true := by decide +kernel
theorem pop_step {n : Nat} (h : n < 4096) (h0 : n ≠ 0) : pop (n &&& (n - 1)) + 1 = pop n := by
  have := List.all_eq_true.mp pop_all n (List.mem_range.mpr h)
  simpa [h0] using this
theorem wq_ones {s : Nat} {Post : Int32 → Prop} (hs : s < 4096) (h : Post (nI (pop s))) : wp_L_ones (nI s) Post := by
  unfold wp_L_ones
  refine wpL_inv (fun q => ∃ l m, q = (nI l, nI m) ∧ l < 4096 ∧ m + pop l = pop s) (fun q => pop q.1.toNatClampNeg) ?_ ⟨s, 0, rfl, hs, Nat.zero_add _⟩
  intro q hq K hK
  obtain ⟨l, m, rfl, hl, hm⟩ := hq
  show wpb_L_ones_4 Post K (nI l) (nI m)
  unfold wpb_L_ones_4
  rcases Nat.eq_zero_or_pos l with z | z
  · subst z
    refine br_t nI_0 ?_
    have e0 : pop 0 = 0 := by decide
    rw [e0, Nat.add_zero] at hm
    rw [hm]; exact h
  · refine br_f (nI_ne0 z (by omega)) ?_
    have e1 : nI l - nI 1 = nI (l - 1) := pk_sub z
    intro i4 e4 i5 e5
    rw [e5, e4, e1, fa_and, nI_add]
    have hp := pop_step hl (by omega)
    have hlt : l &&& (l - 1) < 4096 := Nat.lt_of_le_of_lt Nat.and_le_left hl
    refine hK _ ⟨_, _, rfl, hlt, by omega⟩ ?_
    show pop (nI (l &&& (l - 1))).toNatClampNeg < pop (nI l).toNatClampNeg
    rw [nI_clamp (by omega), nI_clamp (by omega)]
    omega
/-! raised, home -/
theorem or_b {P : Nat → Bool} {k : Nat} (hk : k < 31) : nI (bs P k) ||| (nI (if P k then 1 else 0) <<< (nI k &&& 31)) = nI (bs P (k + 1)) := by
  cases h : P k with
  | true => exact bs_put hk h
  | false =>
    have e : nI 0 <<< (nI k &&& 31) = nI 0 := by
      have := pk_shlN (n := 0) (nI k &&& 31) k (s_l k (by omega)) (by omega)
      rw [Nat.zero_mul] at this
      exact this
    show nI (bs P k) ||| (nI 0 <<< (nI k &&& 31)) = _
    rw [e, fa_or, Nat.or_zero, bs_no h]
section LA
variable {S : PS} {v : LM}
theorem wq_raised {t ah ti : Nat} {Post : Int32 → Prop} (hv : okL v) (ht : t < 6) (h1 : AN S ah 12 (shF v)) (h2 : AN S ti 6 (tiF v)) (h : Post (nI (bs (ra v t) 12))) : wp_L_raised S (nI t) ah ti Post := by
  unfold wp_L_raised
  refine wpL_for 12 (fun k x => x = nI (bs (ra v t) k)) rfl ?_ ?_
  · intro x hx K
    show wpb_L_raised_5 _ _ _ _ _ _ (nI 12) x
    unfold wpb_L_raised_5
    refine br_t (nle_re 12) ?_
    rw [hx]; exact h
  · intro k x hk hx K hK
    show wpb_L_raised_5 _ _ _ _ _ _ (nI k) x
    unfold wpb_L_raised_5
    refine br_f (nle_ge hk (by decide)) ?_
    refine h2.get ht (h1.get hk ?_)
    have g1 := hv.2.1 t ht
    have g2 := hv.1 k hk
    intro i12 e12 i13 e13
    rw [e13, nI_add, e12, hx, sr_bit (by omega) (by omega)]
    rw [show (if (tiF v t).testBit (shF v k) then 1 else 0) = (if ra v t k then 1 else 0) from rfl, or_b (P := ra v t) (by omega)]
    exact hK _ rfl
theorem wq_home {aw : Nat} {w : Nat → Nat} {Post : Int32 → Prop} (h1 : AN S aw 12 w) (hw : ∀ p, p < 12 → w p < 12) (h : Post (nI (fb_ct (fun p => w p == p) 12))) : wp_L_home S aw Post := by
  unfold wp_L_home
  refine wpL_for 12 (fun k x => x = nI (fb_ct (fun p => w p == p) k)) rfl ?_ ?_
  · intro x hx K
    show wpb_L_home_4 _ _ _ _ (nI 12) x
    unfold wpb_L_home_4
    refine br_t (nle_re 12) ?_
    rw [hx]; exact h
  · intro k x hk hx K hK
    show wpb_L_home_4 _ _ _ _ (nI k) x
    unfold wpb_L_home_4
    refine br_f (nle_ge hk (by decide)) (h1.get hk ?_)
    have hwk := hw k hk
    refine br_c (fun e => ?_) (fun e => ?_)
    · have e : w k = k := (nI_eq (by omega) (by omega)).mp e
      intro i11 e11 i12 e12
      rw [e12, nI_add, e11, hx, nI_add]
      refine hK _ ?_
      rw [fb_ct_succ]; simp [e]
    · have e : w k ≠ k := fun z => e (congrArg nI z)
      intro i9 e9 i10 e10
      rw [e10, nI_add, e9, hx, nI_add]
      refine hK _ ?_
      rw [fb_ct_succ]; simp [e]
/-! weaves: the threads go where the row tells -/
theorem wq_weaves {ato aw : Nat} {to w w' : Nat → Nat} {Post : PS → Prop} (h1 : AN S ato 12 to) (h2 : AN S aw 12 w) (hne : ato ≠ aw) (hto : PM to) (hw' : ∀ p, p < 12 → w' (to p) = w p) (h : ∀ S', AN S' aw 12 w' → (∀ b, S b ≠ oJ → b ≠ aw → S' b = S b) → Post S') : wp_L_weaves S ato aw Post := by
  unfold wp_L_weaves
  refine nw_AF (by decide) (fun q S1 hq hq1 f1 => ?_)
  have n1 : ato ≠ q := ne_new h1.live hq
  have n2 : aw ≠ q := ne_new h2.live hq
  have k1 : AN S1 ato 12 to := h1.fr (f1 _ n1)
  have k2 : AN S1 aw 12 w := h2.fr (f1 _ n2)
  refine wpL_for 12 (fun k T => AF T q 12 (fun j => if j < k then nI (w j) else 0) ∧ ∀ b, b ≠ q → T b = S1 b) ⟨hq1.ext (fun k _ => (if_neg (Nat.not_lt_zero _)).symm), fun _ _ => rfl⟩ ?_ ?_
  · intro T hT K
    obtain ⟨a1, a2⟩ := hT
    show wpb_L_weaves_7 _ _ _ _ _ (nI 12) T
    unfold wpb_L_weaves_7
    refine br_t (nle_re 12) ?_
    have c1 : AN T ato 12 to := k1.fr (a2 _ n1)
    have c2 : AN T aw 12 w := k2.fr (a2 _ n2)
    have c3 : AN T q 12 w := a1.ext (fun k hk => if_pos hk)
    refine wpL_for 12 (fun k U => AF U aw 12 (fun j => if iv to j < k then nI (w' j) else nI (w j)) ∧ ∀ b, b ≠ aw → U b = T b) ⟨c2.ext (fun k _ => (if_neg (Nat.not_lt_zero _)).symm), fun _ _ => rfl⟩ ?_ ?_
    · intro U hU K2
      obtain ⟨b1, b2⟩ := hU
      show wpb_L_weaves_27 _ _ _ _ _ (nI 12) U
      unfold wpb_L_weaves_27
      refine br_t (nle_re 12) (h U (b1.ext fun k hk => if_pos (iv_spec hto hk).1) (fun b hb hb2 => ?_))
      have : b ≠ q := ne_new hb hq
      rw [b2 b hb2, a2 b this, f1 b this]
    · intro k U hk hU K2 hK2
      obtain ⟨b1, b2⟩ := hU
      show wpb_L_weaves_27 _ _ _ _ _ (nI k) U
      unfold wpb_L_weaves_27
      refine br_f (nle_ge hk (by decide)) ((c1.fr (b2 _ hne)).get hk ((c3.fr (b2 _ (Ne.symm n2))).get hk (b1.set (hto.1 k hk) (fun U' d1 d2 => ?_))))
      intro i21 e21
      rw [e21, nI_add]
      refine hK2 _ ⟨d1.ext (fun j hj => ?_), fun b hb => by rw [d2 b hb, b2 b hb]⟩
      by_cases g : j = to k
      · subst g
        rw [iv_of hto hk, if_pos rfl, if_pos (Nat.lt_succ_self k), hw' k hk]
      · have g2 : iv to j ≠ k := fun z => g (by rw [← z]; exact (iv_spec hto hj).2.symm)
        show (if j = to k then nI (w k) else if iv to j < k then nI (w' j) else nI (w j)) = _
        rw [if_neg g]
        by_cases g3 : iv to j < k
        · rw [if_pos g3, if_pos (by omega)]
        · rw [if_neg g3, if_neg (by omega)]
  · intro k T hk hT K hK
    obtain ⟨a1, a2⟩ := hT
    show wpb_L_weaves_7 _ _ _ _ _ (nI k) T
    unfold wpb_L_weaves_7
    refine br_f (nle_ge hk (by decide)) ((k2.fr (a2 _ n2)).get hk (a1.set hk (fun T' d1 d2 => ?_)))
    intro i31 e31
    rw [e31, nI_add]
    refine hK _ ⟨d1.ext (fun j hj => ?_), fun b hb => by rw [d2 b hb, a2 b hb]⟩
    by_cases g : j = k
    · subst g
      rw [if_pos rfl, if_pos (Nat.lt_succ_self j)]
    · show (if j = k then nI (w k) else if j < k then nI (w j) else 0) = _
      rw [if_neg g]
      by_cases g3 : j < k
      · rw [if_pos g3, if_pos (by omega)]
      · rw [if_neg g3, if_neg (by omega)]
end LA
