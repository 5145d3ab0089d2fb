/-! ===== the search: orbit ===== -/
def fnth (ws : List (Nat → Nat)) (k : Nat) : Nat → Nat := ws.getD k (fun p => p)
def mkp (v : LM) (D : Nat) : Nat → List (Nat → Nat)
  | 0 => []
  | k + 1 => if D.testBit k then mkp v D k ++ [wy v k] else mkp v D k
theorem mkp_le (v : LM) (D : Nat) : ∀ k, (mkp v D k).length ≤ k
  | 0 => Nat.le_refl _
  | k + 1 => by
    have := mkp_le v D k
    unfold mkp
    split
    · rw [List.length_append]; exact Nat.succ_le_succ this
    · omega
theorem mkp_mem {v : LM} {D : Nat} {w : Nat → Nat} : ∀ {k}, w ∈ mkp v D k ↔ ∃ d, d < k ∧ D.testBit d = true ∧ w = wy v d
  | 0 => ⟨fun h => (by cases h), fun ⟨d, hd, _⟩ => absurd hd (Nat.not_lt_zero _)⟩
  | k + 1 => by
    unfold mkp
    by_cases z : D.testBit k = true
    · rw [if_pos z, List.mem_append, mkp_mem (k := k), List.mem_singleton]
      constructor
      · rintro (⟨d, h1, h2, h3⟩ | h)
        · exact ⟨d, by omega, h2, h3⟩
        · exact ⟨k, by omega, z, h⟩
      · rintro ⟨d, h1, h2, h3⟩
        rcases Nat.lt_or_ge d k with q | q
        · exact Or.inl ⟨d, q, h2, h3⟩
        · have : d = k := by omega
          subst this
          exact Or.inr h3
    · rw [if_neg z, mkp_mem (k := k)]
      constructor
      · rintro ⟨d, h1, h2, h3⟩
        exact ⟨d, by omega, h2, h3⟩
      · rintro ⟨d, h1, h2, h3⟩
        rcases Nat.lt_or_ge d k with q | q
        · exact ⟨d, q, h2, h3⟩
        · have : d = k := by omega
          subst this
          exact absurd h2 z
theorem fnth_l {ws ws2 : List (Nat → Nat)} {k : Nat} (h : k < ws.length) : fnth (ws ++ ws2) k = fnth ws k := by
  unfold fnth
  simp [List.getD, List.getElem?_append_left h]
theorem fnth_r {ws : List (Nat → Nat)} {w : Nat → Nat} : fnth (ws ++ [w]) ws.length = w := by
  unfold fnth
  simp [List.getD]
theorem fnth_mem {ws : List (Nat → Nat)} {k : Nat} (h : k < ws.length) : fnth ws k ∈ ws := by
  unfold fnth
  simp only [List.getD, List.getElem?_eq_getElem h, Option.getD_some]
  exact List.getElem_mem h
theorem mem_fnth {ws : List (Nat → Nat)} {w : Nat → Nat} (h : w ∈ ws) : ∃ k, k < ws.length ∧ fnth ws k = w := by
  obtain ⟨k, hk, e⟩ := List.mem_iff_getElem.mp h
  refine ⟨k, hk, ?_⟩
  unfold fnth
  simp only [List.getD, List.getElem?_eq_getElem hk, Option.getD_some]
  exact e
/-! closure under ways -/
def Rch (ws : List (Nat → Nat)) (p q : Nat) : Prop := ∀ T : Nat → Prop, T p → (∀ w, w ∈ ws → ∀ a, a < 12 → T a → T (w a)) → T q
noncomputable def rchB (ws : List (Nat → Nat)) (p q : Nat) : Bool := @decide (Rch ws p q) (Classical.propDecidable _)
theorem rchB_iff {ws : List (Nat → Nat)} {p q : Nat} : rchB ws p q = true ↔ Rch ws p q := by
  unfold rchB
  exact @decide_eq_true_iff _ (Classical.propDecidable _)
def itB (r : (Nat → Bool) → Nat → Bool) : Nat → (Nat → Bool) → Nat → Bool
  | 0, P => P
  | n + 1, P => r (itB r n P)
theorem ct_more {P Q : Nat → Bool} (h : ∀ q, q < 12 → P q = true → Q q = true) (hn : ¬ ∀ q, q < 12 → Q q = P q) : fb_ct P 12 + 1 ≤ fb_ct Q 12 := by
  have e : fb_ct Q 12 = fb_ct (fun k => P k || (Q k && !P k)) 12 := fb_ct_cong fun k hk => by
    have := h k hk
    cases hP : P k <;> cases hQ : Q k <;> simp_all
  rw [e, fb_ct_or (fun k _ c => by
    obtain ⟨c1, c2⟩ := c
    rw [c1] at c2
    simp at c2)]
  have : 0 < fb_ct (fun k => Q k && !P k) 12 := by
    rw [fb_ct_pos]
    refine Classical.byContradiction fun c => hn (fun q hq => ?_)
    have h1 := h q hq
    cases hP : P q with
    | true => rw [h1 hP]
    | false =>
      cases hQ : Q q with
      | false => rfl
      | true => exact absurd ⟨q, hq, by simp [hP, hQ]⟩ c
  omega
theorem clo12 {ws : List (Nat → Nat)} {p : Nat} (hp : p < 12) (hws : ∀ w, w ∈ ws → ∀ a, a < 12 → w a < 12) (r : (Nat → Bool) → Nat → Bool)
    (he : ∀ P q, P q = true → r P q = true)
    (hs : ∀ (P : Nat → Bool) (T : Nat → Prop), (∀ w, w ∈ ws → ∀ a, a < 12 → T a → T (w a)) → (∀ q, q < 12 → P q = true → T q) → ∀ q, q < 12 → r P q = true → T q)
    (hf : ∀ P : Nat → Bool, (∀ q, q < 12 → r P q = P q) → ∀ w, w ∈ ws → ∀ a, a < 12 → P a = true → P (w a) = true) :
    ∀ q, q < 12 → itB r 12 (fun q => q == p) q = rchB ws p q := by
  have up : ∀ n k q, itB r n (fun q => q == p) q = true → itB r (n + k) (fun q => q == p) q = true := by
    intro n k
    induction k with
    | zero => exact fun q h => h
    | succ k ih => exact fun q h => he _ _ (ih q h)
  have sd : ∀ T : Nat → Prop, T p → (∀ w, w ∈ ws → ∀ a, a < 12 → T a → T (w a)) → ∀ n q, q < 12 → itB r n (fun q => q == p) q = true → T q := by
    intro T h0 hT n
    induction n with
    | zero =>
      intro q _ h
      have h : (q == p) = true := h
      rw [show q = p by simpa using h]; exact h0
    | succ n ih => exact hs _ T hT ih
  have sd2 : ∀ T : Nat → Prop, (∀ w, w ∈ ws → ∀ a, a < 12 → T a → T (w a)) → ∀ n, (∀ q, q < 12 → itB r n (fun q => q == p) q = true → T q) → ∀ k q, q < 12 → itB r (n + k) (fun q => q == p) q = true → T q := by
    intro T hT n h0 k
    induction k with
    | zero => exact h0
    | succ k ih => exact hs _ T hT ih
  have cl : ∀ w, w ∈ ws → ∀ a, a < 12 → itB r 12 (fun q => q == p) a = true → itB r 12 (fun q => q == p) (w a) = true := by
    by_cases hx : ∃ n, n < 12 ∧ ∀ q, q < 12 → itB r (n + 1) (fun q => q == p) q = itB r n (fun q => q == p) q
    · obtain ⟨n, hn, hq⟩ := hx
      have c := hf _ hq
      intro w hw a ha h
      have e : n + (12 - n) = 12 := by omega
      rw [← e] at h ⊢
      have := sd2 (fun q => itB r n (fun q => q == p) q = true) c n (fun _ _ h => h) (12 - n) a ha h
      exact up n (12 - n) _ (c w hw a ha this)
    · have key : ∀ n, n ≤ 12 → n + 1 ≤ fb_ct (itB r n (fun q => q == p)) 12 := by
        intro n
        induction n with
        | zero =>
          intro _
          exact fb_ct_pos.mpr ⟨p, hp, by show (p == p) = true; simp⟩
        | succ n ih =>
          intro hn
          have := ct_more (P := itB r n (fun q => q == p)) (Q := itB r (n + 1) (fun q => q == p)) (fun q _ h => he _ _ h) (fun c => hx ⟨n, by omega, c⟩)
          have := ih (by omega)
          omega
      have h1 := key 12 (Nat.le_refl _)
      have h2 := fb_ct_le (itB r 12 (fun q => q == p)) 12
      omega
  intro q hq
  have i1 : itB r 12 (fun q => q == p) q = true → Rch ws p q := fun h T h0 hT => sd T h0 hT 12 q hq h
  have i2 : Rch ws p q → itB r 12 (fun q => q == p) q = true := fun h => (h (fun q => q < 12 ∧ itB r 12 (fun q => q == p) q = true) ⟨hp, up 0 12 p (by show (p == p) = true; simp)⟩ (fun w hw a ha c => ⟨hws w hw a ha, cl w hw a ha c.2⟩)).2
  cases e : rchB ws p q with
  | true => exact i2 (rchB_iff.mp e)
  | false =>
    cases e2 : itB r 12 (fun q => q == p) q with
    | false => rfl
    | true => rw [rchB_iff.mpr (i1 e2)] at e; cases e
def img (w : Nat → Nat) (R : Nat → Bool) (k q : Nat) : Bool := (List.range k).any (fun a => R a && (w a == q))
def stk (ws : List (Nat → Nat)) (R : Nat → Bool) : Nat → Nat → Bool
  | 0 => R
  | k + 1 => fun q => stk ws R k q || img (fnth ws k) (stk ws R k) 12 q
theorem img_iff {w : Nat → Nat} {R : Nat → Bool} {k q : Nat} : img w R k q = true ↔ ∃ a, a < k ∧ R a = true ∧ w a = q := by
  unfold img
  rw [List.any_eq_true]
  constructor
  · rintro ⟨a, h1, h2⟩
    simp at h2
    exact ⟨a, List.mem_range.mp h1, h2.1, h2.2⟩
  · rintro ⟨a, h1, h2, h3⟩
    exact ⟨a, List.mem_range.mpr h1, by simp [h2, h3]⟩
theorem img_succ (w : Nat → Nat) (R : Nat → Bool) (k q : Nat) : img w R (k + 1) q = (img w R k q || (R k && (w k == q))) := by
  unfold img
  rw [List.range_succ, List.any_append]
  simp
theorem stk_up {ws : List (Nat → Nat)} {R : Nat → Bool} {q : Nat} (n : Nat) : ∀ k, stk ws R n q = true → stk ws R (n + k) q = true
  | 0, h => h
  | k + 1, h => by
    show (stk ws R (n + k) q || _) = true
    rw [stk_up n k h]; rfl
theorem clo_cls {ws : List (Nat → Nat)} {p : Nat} (hp : p < 12) (hws : ∀ w, w ∈ ws → ∀ a, a < 12 → w a < 12) : ∀ q, q < 12 → itB (fun R => stk ws R ws.length) 12 (fun q => q == p) q = rchB ws p q := by
  refine clo12 hp hws _ (fun P q h => ?_) (fun P T hT hP => ?_) (fun P hP w hw a ha h => ?_)
  · have := stk_up (ws := ws) (R := P) (q := q) 0 ws.length h
    rw [Nat.zero_add] at this
    exact this
  · have : ∀ k, k ≤ ws.length → ∀ q, q < 12 → stk ws P k q = true → T q := by
      intro k
      induction k with
      | zero => exact fun _ => hP
      | succ k ih =>
        intro hk q hq h
        have h : (stk ws P k q || img (fnth ws k) (stk ws P k) 12 q) = true := h
        rw [Bool.or_eq_true] at h
        rcases h with h | h
        · exact ih (by omega) q hq h
        · obtain ⟨a, h1, h2, h3⟩ := img_iff.mp h
          rw [← h3]
          exact hT _ (fnth_mem (by omega)) a h1 (ih (by omega) a h1 h2)
    exact this _ (Nat.le_refl _)
  · obtain ⟨k, hk, e⟩ := mem_fnth hw
    have e0 : 0 + k = k := Nat.zero_add k
    have h1 := stk_up (ws := ws) (R := P) (q := a) 0 k h
    rw [e0] at h1
    have h2 : stk ws P (k + 1) (w a) = true := by
      show (stk ws P k (w a) || img (fnth ws k) (stk ws P k) 12 (w a)) = true
      rw [Bool.or_eq_true]
      exact Or.inr (img_iff.mpr ⟨a, ha, h1, by rw [e]⟩)
    have h3 := stk_up (ws := ws) (R := P) (q := w a) (k + 1) (ws.length - (k + 1)) h2
    rw [show k + 1 + (ws.length - (k + 1)) = ws.length by omega] at h3
    rw [← hP _ (hws w hw a ha)]
    exact h3
theorem bs_or2 (P R : Nat → Bool) (n : Nat) : bs P n ||| bs R n = bs (fun q => P q || R q) n := by
  refine bs_of (Nat.or_lt_two_pow (bs_lt P n) (bs_lt R n)) fun j hj => ?_
  rw [Nat.testBit_or, bs_bit, bs_bit]
  simp [hj]
theorem bs_or1 (P : Nat → Bool) {n i : Nat} (hi : i < n) : bs P n ||| 2 ^ i = bs (fun q => P q || (i == q)) n := by
  refine bs_of (Nat.or_lt_two_pow (bs_lt P n) (Nat.pow_lt_pow_right (by decide) hi)) fun j hj => ?_
  rw [Nat.testBit_or, bs_bit, Nat.testBit_two_pow]
  by_cases e : i = j
  · simp [hj, e]
  · simp [hj, e]
theorem bs_one {p : Nat} (hp : p < 12) : 2 ^ p = bs (fun q => q == p) 12 := by
  refine bs_of (Nat.pow_lt_pow_right (by decide) hp) fun j hj => ?_
  rw [Nat.testBit_two_pow]
  by_cases e : p = j
  · simp [e]
  · have e2 : ¬ j = p := fun z => e z.symm
    simp [e, e2]
theorem bs_zero (n : Nat) : bs (fun _ => false) n = 0 := (bs_of (Nat.two_pow_pos n) (fun j _ => Nat.zero_testBit j)).symm
theorem wp_brought {w : Nat → Nat} {R : Nat → Bool} {Q : Int32 → Prop} (hw : PM w) (h : Q (nI (bs (img w R 12) 12))) : wp_X5_broughtTo (en w) (nI (bs R 12)) Q := by
  unfold wp_X5_broughtTo
  have h12 : ∀ P : Nat → Bool, bs P 12 < 2 ^ 31 := fun P => Nat.lt_trans (bs_lt P 12) (by decide)
  refine wpL_for 12 (fun k t => t = nI (bs (img w R k) 12)) ?_ ?_ ?_
  · have e : img w R 0 = fun _ => false := rfl
    rw [e, bs_zero]
  · intro t ht K
    show wpb_X5_broughtTo_5 _ _ _ _ (nI 12) t
    unfold wpb_X5_broughtTo_5
    exact br_t (nle_re 12) (by rw [ht]; exact h)
  · intro k t hk ht K hK
    show wpb_X5_broughtTo_5 _ _ _ _ (nI k) t
    unfold wpb_X5_broughtTo_5
    have hwk := hw.1 k hk
    refine br_f (nle_ge hk (by decide)) (wp_hasBit (h12 R) (by omega) (fun hb => ?_) (fun hb => ?_))
    · refine br_f n1z (wp_at hw.lt16 hk (fun i8 e8 i9 e9 => ?_))
      rw [bs_bit] at hb
      simp [hk] at hb
      rw [e9, nI_add, e8, ht, or_sh (by omega), bs_or1 _ hwk]
      refine hK _ (congrArg nI (bs_ext fun q _ => ?_))
      rw [img_succ, hb]; rfl
    · refine br_t rfl (fun i6 e6 => ?_)
      rw [bs_bit] at hb
      simp [hk] at hb
      rw [e6, nI_add, ht]
      refine hK _ (congrArg nI (bs_ext fun q _ => ?_))
      rw [img_succ, hb, Bool.false_and, Bool.or_false]
section OB
variable {S S' : PS} {tg tg' : Nat → Nat × Nat} {x : Nat} {ad : Nat → Nat} {f g : Nat → Option Nat} {v : LM} {hist : List LM} {sl : Nat → Option LM} {pad pad' : List Nat} {P : Int32 → PS → Prop}
theorem TkF.seas (h : TkF S tg x ad f g v hist sl pad) (hS : ∀ b, b ≠ ad 6 → b ≠ ad 7 → b ≠ ad 8 → b ≠ ad 9 → S' b = S b) (hs : SeaO S' ad) : TkF S' tg x ad f g v hist sl pad ∧ CK 40 S tg S' tg := by
  obtain ⟨t1, t2⟩ := h.1
  have n : ∀ b, ((tg b).2 < 26 ∨ 29 < (tg b).2) → S' b = S b := fun b hb => hS b (fun e => by rw [e, t2 6 (by decide) (by decide)] at hb; exact absurd hb (by show ¬ (26 < 26 ∨ 29 < 26); decide)) (fun e => by rw [e, t2 7 (by decide) (by decide)] at hb; exact absurd hb (by show ¬ (27 < 26 ∨ 29 < 27); decide)) (fun e => by rw [e, t2 8 (by decide) (by decide)] at hb; exact absurd hb (by show ¬ (28 < 26 ∨ 29 < 28); decide)) (fun e => by rw [e, t2 9 (by decide) (by decide)] at hb; exact absurd hb (by show ¬ (29 < 26 ∨ 29 < 29); decide))
  have nj : ∀ j, 1 ≤ j → j < 12 → (j < 6 ∨ 9 < j) → S' (ad j) = S (ad j) := fun j j1 j2 j3 => n _ (by rw [t2 j j1 j2]; show 20 + j < 26 ∨ 29 < 20 + j; omega)
  exact ⟨h.scr (fun b hb => n b (by omega)) (h.2.2.2.2.2.2.2.1.fr (nj 4 (by decide) (by decide) (by decide)) (nj 5 (by decide) (by decide) (by decide))) hs (h.2.2.2.2.2.2.2.2.2.fr (nj 10 (by decide) (by decide) (by decide)) (nj 11 (by decide) (by decide) (by decide))), CK.of fun b hb => n b (by omega)⟩
def MkO (S : PS) (ad : Nat → Nat) (ws : List (Nat → Nat)) : Prop := (∃ ln : Int32, S (ad 6) = .inl (4, [.ref (ad 7), .int (nI ws.length), .ref (ad 8), .int ln, .ref (ad 9)])) ∧ ∃ h, S (ad 7) = aJ 6 h ∧ ∀ k, k < ws.length → h k = en (fnth ws k)
theorem wp_addMaker {ws : List (Nat → Nat)} {w : Nat → Nat} {Q : PS → Prop} (h : MkO S ad ws) (hl : ws.length < 6) (hQ : ∀ S', MkO S' ad (ws ++ [w]) → (∀ b, b ≠ ad 6 → b ≠ ad 7 → S' b = S b) → Q S') : wp_X5_addMaker S (ad 6) (en w) Q := by
  obtain ⟨⟨ln, h1⟩, H, h2, h3⟩ := h
  have n67 : ad 6 ≠ ad 7 := ob_ne h1 h2 lr_ne
  unfold wp_X5_addMaker
  refine gI_of h1 rfl (wp_below_t (by decide) hl (br_f n1z (gR_of h1 rfl (gI_of h1 rfl (sJ_of h2 hl (by decide) ?_)))))
  refine gI_of ((up_n n67).trans h1) rfl (pF_of ((up_n n67).trans h1) (Nat.le_of_ble_eq_true rfl) _ rfl ?_)
  refine hQ _ ⟨⟨ln, ?_⟩, vp_updL H ws.length (en w), ?_, fun k hk => ?_⟩ (fun b h6 h7 => by rw [up_n h6, up_n h7])
  · rw [up_s, nI_add, List.length_append]; rfl
  · rw [up_n (Ne.symm n67), up_s]
  · rw [List.length_append] at hk
    have hk : k < ws.length + 1 := hk
    by_cases z : k = ws.length
    · rw [z, pk_uLs, fnth_r]
    · rw [pk_uLn z, h3 k (by omega), fnth_l (by omega)]
theorem wp_gather {D : Nat} {Q : PS → Prop} (h : TkF S tg x ad f g v hist sl pad) (hD : D < 2 ^ 31) (hQ : ∀ S', TkF S' tg x ad f g v hist sl pad → CK 40 S tg S' tg → MkO S' ad (mkp v D 6) → Q S') : wp_X7_gatherWays S x (nI D) Q := by
  have hx := h.2.1
  obtain ⟨⟨mk, ln, s1⟩, ⟨H7, s2⟩, ⟨H8, s3⟩, H9, s4⟩ := h.2.2.2.2.2.2.2.2.1
  have n67 : ad 6 ≠ ad 7 := ob_ne s1 s2 lr_ne
  have n68 : ad 6 ≠ ad 8 := ob_ne s1 s3 lr_ne
  have n69 : ad 6 ≠ ad 9 := ob_ne s1 s4 lr_ne
  have t2 := h.1.2
  have n78 : ad 8 ≠ ad 7 := tne (t2 8 (by decide) (by decide)) (t2 7 (by decide) (by decide)) (pne (by decide))
  have n79 : ad 9 ≠ ad 7 := tne (t2 9 (by decide) (by decide)) (t2 7 (by decide) (by decide)) (pne (by decide))
  unfold wp_X7_gatherWays
  refine gR_of hx rfl (pF_of s1 (Nat.le_of_ble_eq_true rfl) _ rfl ?_)
  have tk : ∀ {S8 : PS} {ws : List (Nat → Nat)}, MkO S8 ad ws → (∀ b, b ≠ ad 6 → b ≠ ad 7 → S8 b = S b) → TkF S8 tg x ad f g v hist sl pad ∧ CK 40 S tg S8 tg := fun hm hs => by
    obtain ⟨⟨l, m1⟩, M, m2, m3⟩ := hm
    exact h.seas (fun b b6 b7 _ _ => hs b b6 b7) ⟨⟨_, l, m1⟩, ⟨M, m2⟩, ⟨H8, (hs _ (Ne.symm n68) n78).trans s3⟩, H9, (hs _ (Ne.symm n69) n79).trans s4⟩
  refine wpL_for 6 (fun k S8 => MkO S8 ad (mkp v D k) ∧ ∀ b, b ≠ ad 6 → b ≠ ad 7 → S8 b = S b) ⟨⟨⟨ln, up_s _ _ _⟩, H7, (up_n (Ne.symm n67)).trans s2, fun k hk => absurd hk (Nat.not_lt_zero _)⟩, fun b b6 _ => up_n b6⟩ ?_ ?_
  · intro S8 hS K
    show wpb_X7_gatherWays_10 _ _ _ _ (nI 6) S8
    unfold wpb_X7_gatherWays_10
    obtain ⟨a, b⟩ := tk hS.1 hS.2
    exact br_t (nle_re 6) (hQ S8 a b hS.1)
  · intro k S8 hk hS K hK
    show wpb_X7_gatherWays_10 _ _ _ _ (nI k) S8
    unfold wpb_X7_gatherWays_10
    obtain ⟨hm, hs⟩ := hS
    obtain ⟨h8, c8⟩ := tk hm hs
    refine br_f (nle_ge hk (by decide)) (wp_hasBit hD (by omega) (fun hb => ?_) (fun hb => ?_))
    · obtain ⟨fs, e⟩ := h8.2.2.2.1.at
      obtain ⟨ln8, m1⟩ := hm.1
      refine br_f n1z (gR_of h8.2.1 rfl (gR_of h8.2.1 rfl (rc_of e (wp_wayOf h8.2.2.2.1 hk (rc_of m1 (wp_addMaker hm (by have := mkp_le v D k; omega) (fun S9 m9 f9 => ?_)))))))
      intro i25 e25
      rw [e25, nI_add]
      refine hK _ ⟨?_, fun b b6 b7 => (f9 b b6 b7).trans (hs b b6 b7)⟩
      show MkO S9 ad (if D.testBit k then mkp v D k ++ [wy v k] else mkp v D k)
      rw [if_pos hb]; exact m9
    · refine br_t rfl (fun i12 e12 => ?_)
      rw [e12, nI_add]
      refine hK _ ⟨?_, hs⟩
      show MkO S8 ad (if D.testBit k then mkp v D k ++ [wy v k] else mkp v D k)
      rw [if_neg (by rw [hb]; decide)]; exact hm
theorem wp_places {ws : List (Nat → Nat)} {p : Nat} {Q : Int32 → Prop} (h : MkO S ad ws) (hl : ws.length ≤ 6) (hw : ∀ w, w ∈ ws → PM w) (hp : p < 12) (hQ : Q (nI (bs (rchB ws p) 12))) : wp_X5_placesFrom S (ad 6) (nI p) Q := by
  obtain ⟨⟨ln, h1⟩, H, h2, h3⟩ := h
  unfold wp_X5_placesFrom
  intro i1 e1
  rw [e1, sh1 (by omega), bs_one hp]
  refine wpL_for 12 (fun n t => t = nI (bs (itB (fun R => stk ws R ws.length) n (fun q => q == p)) 12)) rfl ?_ ?_
  · intro t ht K
    show wpb_X5_placesFrom_6 _ _ _ _ (nI 12) t
    unfold wpb_X5_placesFrom_6
    refine br_t (nle_re 12) ?_
    rw [ht, bs_ext (clo_cls hp (fun w hw' => (hw w hw').1))]
    exact hQ
  · intro n t hn ht K hK
    show wpb_X5_placesFrom_6 _ _ _ _ (nI n) t
    unfold wpb_X5_placesFrom_6
    refine br_f (nle_ge hn (by decide)) ?_
    rw [ht]
    refine wpL_for ws.length (fun k t => t = nI (bs (stk ws (itB (fun R => stk ws R ws.length) n (fun q => q == p)) k) 12)) rfl ?_ ?_
    · intro t2 ht2 K2
      show wpb_X5_placesFrom_15 _ _ _ _ _ (nI ws.length) t2
      unfold wpb_X5_placesFrom_15
      refine gI_of h1 rfl (br_t (Int32.le_refl _) (fun i11 e11 => ?_))
      rw [e11, nI_add, ht2]
      exact hK _ rfl
    · intro k t2 hk ht2 K2 hK2
      show wpb_X5_placesFrom_15 _ _ _ _ _ (nI k) t2
      unfold wpb_X5_placesFrom_15
      refine gI_of h1 rfl (br_f (nI_ge hk (by omega)) (br_f (nle_ge (show k < 6 by omega) (by decide)) (gR_of h1 rfl (lJ_of h2 (by omega) (by decide) ?_))))
      rw [h3 k hk, ht2]
      refine wp_brought (hw _ (fnth_mem hk)) (fun i22 e22 i23 e23 => ?_)
      rw [e23, nI_add, e22, fa_or, bs_or2]
      exact hK2 _ rfl
theorem tk_orbit_no1 {y z : Int32} (hb : bad z 12) (hP : P (-1) S) : wp_X7_orbit S x y z P := by
  unfold wp_X7_orbit
  exact wp_below_f (by decide) hb (br_t rfl hP)
theorem tk_orbit_no2 {p : Nat} {y : Int32} (hp : p < 12) (hb : bad y 64) (hP : P (-2) S) : wp_X7_orbit S x y (nI p) P := by
  unfold wp_X7_orbit
  exact wp_below_t (by decide) hp (br_f n1z (wp_below_f (by decide) hb (br_t rfl hP)))
theorem tk_orbit {D p : Nat} (h : TkF S tg x ad f g v hist sl pad) (hp : p < 12) (hD : D < 64) (hP : ∀ S', TkF S' tg x ad f g v hist sl pad → CK 40 S tg S' tg → P (nI (bs (rchB (mkp v D 6) p) 12)) S') : wp_X7_orbit S x (nI D) (nI p) P := by
  unfold wp_X7_orbit
  refine wp_below_t (by decide) hp (br_f n1z (wp_below_t (by decide) hD (br_f n1z (rc_of h.2.1 (wp_gather h (by omega) (fun S5 h5 c5 m5 => ?_))))))
  obtain ⟨ln, m1⟩ := m5.1
  refine gR_of h5.2.1 rfl (rc_of m1 (wp_places m5 (mkp_le v D 6) (fun w hw => ?_) hp (hP S5 h5 c5)))
  obtain ⟨d, -, -, e⟩ := mkp_mem.mp hw
  rw [e]; exact pmWy v d
end OB
