/-! ===== the heap: steps of the decompiled texts ===== -/
theorem gI_of {S : PS} {a ci k : Nat} {fs : List Value} {x : Int32} {P : Int32 → Prop} (h : S a = .inl (ci, fs)) (hk : fs[k]? = some (.int x)) (hP : P x) : gI S a ci k P := ⟨fs, x, h, hk, hP⟩
theorem gJ_of {S : PS} {a ci k : Nat} {fs : List Value} {x : Int64} {P : Int64 → Prop} (h : S a = .inl (ci, fs)) (hk : fs[k]? = some (.long x)) (hP : P x) : gJ S a ci k P := ⟨fs, x, h, hk, hP⟩
theorem gR_of {S : PS} {a ci k : Nat} {fs : List Value} {x : Nat} {P : Nat → Prop} (h : S a = .inl (ci, fs)) (hk : fs[k]? = some (.ref x)) (hP : P x) : gR S a ci k P := ⟨fs, x, h, hk, hP⟩
theorem pF_of {S : PS} {a ci k : Nat} {v : Value} {fs : List Value} {P : PS → Prop} (h : S a = .inl (ci, fs)) (hk : k < fs.length) (fs' : List Value) (e : fs.set k v = fs') (hP : P (va_up S a (.inl (ci, fs')))) : pF S a ci k v P := ⟨fs, h, hk, fun S1 e1 => by rw [e1, e]; exact hP⟩
theorem rc_of {S : PS} {b ci : Nat} {fs : List Value} {P : Prop} (h : S b = .inl (ci, fs)) (hP : P) : rc S b ci P := ⟨fs, h, hP⟩
theorem vin {k n : Nat} (hk : k < n) (hn : n < 1000000) : vp_in (nI k) n := vp_in_nI hk (by omega)
theorem clp {k : Nat} (hk : k < 1000000) : (nI k).toNatClampNeg = k := nI_clamp (by omega)
theorem lI_of {S : PS} {a n k : Nat} {f : Nat → Int32} {P : Int32 → Prop} (h : S a = aI n f) (hk : k < n) (hn : n < 1000000) (hP : P (f k)) : lI S a (nI k) P := ⟨n, f, _, h, vin hk hn, rfl, by rw [clp (by omega)]; exact hP⟩
theorem lC_of {S : PS} {a n k : Nat} {f : Nat → Int32} {P : Int32 → Prop} (h : S a = aC n f) (hk : k < n) (hn : n < 1000000) (hP : P (f k)) : lC S a (nI k) P := ⟨n, f, _, h, vin hk hn, rfl, by rw [clp (by omega)]; exact hP⟩
theorem lJ_of {S : PS} {a n k : Nat} {f : Nat → Int64} {P : Int64 → Prop} (h : S a = aJ n f) (hk : k < n) (hn : n < 1000000) (hP : P (f k)) : lJ S a (nI k) P := ⟨n, f, _, h, vin hk hn, rfl, by rw [clp (by omega)]; exact hP⟩
theorem lD_of {S : PS} {a n k x : Nat} {f : Nat → Option Nat} {P : Nat → Prop} (h : S a = aD n f) (hk : k < n) (hn : n < 1000000) (hx : f k = some x) (hP : P x) : lD S a (nI k) P := ⟨n, f, x, h, vin hk hn, by rw [clp (by omega)]; exact hx, hP⟩
theorem lL_of {S : PS} {a n k x : Nat} {f : Nat → Option Nat} {P : Nat → Prop} (h : S a = aL n f) (hk : k < n) (hn : n < 1000000) (hx : f k = some x) (hP : P x) : lL S a (nI k) P := ⟨n, f, x, h, vin hk hn, by rw [clp (by omega)]; exact hx, hP⟩
theorem lLo_of {S : PS} {a n k : Nat} {f : Nat → Option Nat} {P0 : Prop} {P1 : Nat → Prop} (h : S a = aL n f) (hk : k < n) (hn : n < 1000000) (h0 : f k = none → P0) (h1 : ∀ x, f k = some x → P1 x) : lLo S a (nI k) P0 P1 := ⟨n, f, h, vin hk hn, by rw [clp (by omega)]; exact h0, by rw [clp (by omega)]; exact h1⟩
theorem sI_of {S : PS} {a n k : Nat} {x : Int32} {f : Nat → Int32} {P : PS → Prop} (h : S a = aI n f) (hk : k < n) (hn : n < 1000000) (hP : P (va_up S a (aI n (upd f k x)))) : sI S a (nI k) x P := ⟨n, f, h, vin hk hn, fun S1 e => by rw [e, clp (by omega)]; exact hP⟩
theorem sC_of {S : PS} {a n k : Nat} {x : Int32} {f : Nat → Int32} {P : PS → Prop} (h : S a = aC n f) (hk : k < n) (hn : n < 1000000) (hP : P (va_up S a (aC n (upd f k (vp_nar .char x))))) : sC S a (nI k) x P := ⟨n, f, h, vin hk hn, fun S1 e => by rw [e, clp (by omega)]; exact hP⟩
theorem sJ_of {S : PS} {a n k : Nat} {x : Int64} {f : Nat → Int64} {P : PS → Prop} (h : S a = aJ n f) (hk : k < n) (hn : n < 1000000) (hP : P (va_up S a (aJ n (vp_updL f k x)))) : sJ S a (nI k) x P := ⟨n, f, h, vin hk hn, fun S1 e => by rw [e, clp (by omega)]; exact hP⟩
theorem sL_of {S : PS} {a n k v : Nat} {vs : List Value} {f : Nat → Option Nat} {P : PS → Prop} (h : S a = aL n f) (hk : k < n) (hn : n < 1000000) (hv : S v = .inl (1, vs)) (hP : P (va_up S a (aL n (va_up f k (some v))))) : sL S a (nI k) v P := ⟨n, f, vs, h, vin hk hn, hv, fun S1 e => by rw [e, clp (by omega)]; exact hP⟩
theorem sD_of {S : PS} {a n k v : Nat} {vs : List Value} {f : Nat → Option Nat} {P : PS → Prop} (h : S a = aD n f) (hk : k < n) (hn : n < 1000000) (hv : S v = .inl (0, vs)) (hP : P (va_up S a (aD n (va_up f k (some v))))) : sD S a (nI k) v P := ⟨n, f, vs, h, vin hk hn, hv, fun S1 e => by rw [e, clp (by omega)]; exact hP⟩
theorem cp_of {S : PS} {a0 a n0 n1 n : Nat} {f g : Nat → Int32} {P : PS → Prop} (h0 : S a0 = aI n0 f) (h1 : S a = aI n1 g) (hn : n < 1000000) (hn0 : n ≤ n0) (hn1 : n ≤ n1) (hP : P (va_up S a (aI n1 (va_cpy f g 0 0 n)))) : cp S a0 (nI 0) a (nI 0) (nI n) P := ⟨n0, f, n1, g, h0, h1, by decide, by decide, nI_pos (by omega), by rw [clp (by decide), clp (by omega)]; omega, by rw [clp (by decide), clp (by omega)]; omega, fun S1 e => by rw [e, clp (by decide), clp (by omega)]; exact hP⟩
theorem up_s (S : PS) (a : Nat) (o : Ob) : va_up S a o a = o := va_up_self S a o
theorem up_n {S : PS} {a b : Nat} {o : Ob} (h : b ≠ a) : va_up S a o b = S b := va_up_ne S o h
theorem up_u (S : PS) (a : Nat) (o o' : Ob) : va_up (va_up S a o) a o' = va_up S a o' := funext fun b => by
  by_cases h : b = a
  · subst h; rw [up_s, up_s]
  · rw [up_n h, up_n h, up_n h]
theorem up_o {S : PS} {a : Nat} {o : Ob} (h : S a = o) : va_up S a o = S := funext fun b => by
  by_cases e : b = a
  · subst e; rw [up_s, h]
  · rw [up_n e]
theorem cpy_in {f g : Nat → Int32} {n k : Nat} (h : k < n) : va_cpy f g 0 0 n k = f k := by
  rw [pk_cpy_in (Nat.zero_le _) (by omega)]; simp
/-! ===== the loom ===== -/
abbrev LM : Type := (Nat → Nat) × (Nat → Nat) × (Nat → Nat) × (Nat → Nat) × (Nat → List Nat) × Int32 × Int32
def shF (v : LM) : Nat → Nat := v.1
def tiF (v : LM) : Nat → Nat := v.2.1
def thF (v : LM) : Nat → Nat := v.2.2.1
def coF (v : LM) : Nat → Nat := v.2.2.2.1
def drF (v : LM) : Nat → List Nat := v.2.2.2.2.1
def pdF (v : LM) : Int32 := v.2.2.2.2.2.1
def pkF (v : LM) : Int32 := v.2.2.2.2.2.2
def okP (l : List Nat) : Prop := l.length ≤ 24 ∧ ∀ k, k < l.length → l.getD k 0 < 12
def okL (v : LM) : Prop := (∀ p, p < 12 → shF v p < 6) ∧ (∀ t, t < 6 → tiF v t < 64) ∧ PM (thF v) ∧ (∀ p, p < 12 → coF v p < 4) ∧ ∀ d, d < 6 → okP (drF v d)
def DrAt (S : PS) (x y : Nat) (l : List Nat) : Prop := S x = .inl (0, [.ref y, .int (nI l.length)]) ∧ ∃ f, S y = aI 24 f ∧ ∀ k, k < l.length → f k = nI (l.getD k 0)
abbrev LmX (S : PS) (tg : Nat → Nat × Nat) (a : Nat) (v : LM) (t d : Nat) (xs ys : Nat → Nat) : Prop := S a = .inl (1, [.long (en (shF v)), .long (en (thF v)), .long (en (coF v)), .ref t, .ref d, .int (pdF v), .int (pkF v)]) ∧ (∃ f, S t = aI 6 f ∧ ∀ k, k < 6 → f k = nI (tiF v k)) ∧ (∃ f, S d = aD 6 f ∧ ∀ i, i < 6 → f i = some (xs i)) ∧ (∀ i, i < 6 → DrAt S (xs i) (ys i) (drF v i)) ∧ tg a = (a, 0) ∧ tg t = (a, 1) ∧ tg d = (a, 2) ∧ ∀ i, i < 6 → tg (xs i) = (a, 3 + i) ∧ tg (ys i) = (a, 9 + i)
def LmAt (S : PS) (tg : Nat → Nat × Nat) (a : Nat) (v : LM) : Prop := okL v ∧ ∃ (t d : Nat) (xs ys : Nat → Nat), LmX S tg a v t d xs ys
theorem tne {tg : Nat → Nat × Nat} {a b : Nat} {x y : Nat × Nat} (ha : tg a = x) (hb : tg b = y) (h : x ≠ y) : a ≠ b := fun e => h (by rw [← ha, ← hb, e])
/-- a cell of a loom's own -/
def Ow (tg : Nat → Nat × Nat) (a q : Nat) : Prop := ∃ i, i < 20 ∧ tg q = (a, i)
theorem Ow.one {tg : Nat → Nat × Nat} {a b q : Nat} (h1 : Ow tg a q) (h2 : Ow tg b q) : a = b := by
  obtain ⟨i, -, e⟩ := h1
  obtain ⟨j, -, e2⟩ := h2
  rw [e] at e2
  exact congrArg Prod.fst e2
theorem Ow.no {tg : Nat → Nat × Nat} {a q : Nat} (h : 20 ≤ (tg q).2) : ¬ Ow tg a q := fun ⟨i, hi, e⟩ => by rw [e] at h; exact absurd h (by show ¬ 20 ≤ i; omega)
/-- a loom is as it was where nothing of its own has changed -/
theorem LmX.keep {S S' : PS} {tg tg' : Nat → Nat × Nat} {a t d : Nat} {xs ys : Nat → Nat} {v : LM} (h : LmX S tg a v t d xs ys) (hS : ∀ b, Ow tg a b → S b ≠ oJ → S' b = S b ∧ tg' b = tg b) : LmX S' tg' a v t d xs ys := by
  obtain ⟨h1, ⟨f, h2, h2'⟩, ⟨g, h3, h3'⟩, h4, h5, h6, h7, h8⟩ := h
  have ea := hS a ⟨0, by decide, h5⟩ (by rw [h1]; intro h; cases h)
  have et := hS t ⟨1, by decide, h6⟩ (by rw [h2]; intro h; cases h)
  have ed := hS d ⟨2, by decide, h7⟩ (by rw [h3]; intro h; cases h)
  have ex : ∀ i, i < 6 → S' (xs i) = S (xs i) ∧ tg' (xs i) = tg (xs i) := fun i hi => hS _ ⟨3 + i, by omega, (h8 i hi).1⟩ (by rw [(h4 i hi).1]; intro h; cases h)
  have ey : ∀ i, i < 6 → S' (ys i) = S (ys i) ∧ tg' (ys i) = tg (ys i) := fun i hi => hS _ ⟨9 + i, by omega, (h8 i hi).2⟩ (by obtain ⟨f2, k2, k3⟩ := (h4 i hi).2; rw [k2]; intro h; cases h)
  refine ⟨by rw [ea.1]; exact h1, ⟨f, by rw [et.1]; exact h2, h2'⟩, ⟨g, by rw [ed.1]; exact h3, h3'⟩, fun i hi => ?_, by rw [ea.2]; exact h5, by rw [et.2]; exact h6, by rw [ed.2]; exact h7, fun i hi => ?_⟩
  · obtain ⟨k1, f2, k2, k3⟩ := h4 i hi
    exact ⟨by rw [(ex i hi).1]; exact k1, f2, by rw [(ey i hi).1]; exact k2, k3⟩
  · exact ⟨by rw [(ex i hi).2]; exact (h8 i hi).1, by rw [(ey i hi).2]; exact (h8 i hi).2⟩
theorem LmAt.keep {S S' : PS} {tg tg' : Nat → Nat × Nat} {a : Nat} {v : LM} (h : LmAt S tg a v) (hS : ∀ b, Ow tg a b → S b ≠ oJ → S' b = S b ∧ tg' b = tg b) : LmAt S' tg' a v := by
  obtain ⟨hv, t, d, xs, ys, h1⟩ := h
  exact ⟨hv, t, d, xs, ys, LmX.keep h1 hS⟩
theorem LmAt.frame {S S' : PS} {tg : Nat → Nat × Nat} {a : Nat} {v : LM} (h : LmAt S tg a v) (hS : ∀ b, Ow tg a b → S' b = S b) : LmAt S' tg a v := h.keep (fun b hb _ => ⟨hS b hb, rfl⟩)
theorem LmAt.frame2 {S S' : PS} {tg : Nat → Nat × Nat} {a : Nat} {v : LM} (h : LmAt S tg a v) (hS : ∀ b, (tg b).2 < 20 → S' b = S b) : LmAt S' tg a v := h.frame (fun b hb => hS b (by obtain ⟨i, hi, e⟩ := hb; rw [e]; exact hi))
theorem LmAt.other {S S' : PS} {tg : Nat → Nat × Nat} {a c : Nat} {v : LM} (h : LmAt S tg a v) (hac : a ≠ c) (hS : ∀ b, ¬ Ow tg c b → S' b = S b) : LmAt S' tg a v := h.frame (fun b hb => hS b (fun hc => hac (hb.one hc)))
theorem LmAt.at {S : PS} {tg : Nat → Nat × Nat} {a : Nat} {v : LM} (h : LmAt S tg a v) : ∃ fs, S a = .inl (1, fs) := ⟨_, h.2.choose_spec.choose_spec.choose_spec.choose_spec.1⟩
theorem LmAt.tag {S : PS} {tg : Nat → Nat × Nat} {a : Nat} {v : LM} (h : LmAt S tg a v) : tg a = (a, 0) := h.2.choose_spec.choose_spec.choose_spec.choose_spec.2.2.2.2.1
def ra (v : LM) (t p : Nat) : Bool := (tiF v t).testBit (shF v p)
section LOOM
variable {S : PS} {tg : Nat → Nat × Nat} {a : Nat} {v : LM}
theorem en16 {f : Nat → Nat} {n : Nat} (hn : n ≤ 16) (h : ∀ p, p < 12 → f p < n) : ∀ p, p < 12 → f p < 16 := fun p hp => Nat.lt_of_lt_of_le (h p hp) hn
theorem wp_raisedBy {t : Nat} {Post : Int32 → Prop} (hL : LmAt S tg a v) (ht : t < 6) (h : Post (nI (bs (ra v t) 12))) : wp_X1_raisedBy S a (nI t) Post := by
  obtain ⟨⟨v1, v2, v3, v4, v5⟩, t0, d, xs, ys, h1, ⟨f, h2, h2'⟩, -⟩ := hL
  unfold wp_X1_raisedBy
  refine wp_below_t (by decide) ht ?_
  refine br_f n1z ?_
  refine wpL_for 12 (fun k x => x = nI (bs (ra v t) k)) rfl ?_ ?_
  · intro x hx K
    show wpb_X1_raisedBy_15 _ _ _ _ _ (nI 12) x
    unfold wpb_X1_raisedBy_15
    refine br_t (nle_re 12) ?_
    rw [hx]; exact h
  · intro k x hk hx K hK
    show wpb_X1_raisedBy_15 _ _ _ _ _ (nI k) x
    unfold wpb_X1_raisedBy_15
    refine br_f (nle_ge hk (by decide)) ?_
    refine gR_of h1 rfl ?_
    refine lI_of h2 ht (by decide) ?_
    refine gJ_of h1 rfl ?_
    refine wp_at (en16 (by decide) v1) hk ?_
    rw [h2' t ht]
    have g1 := v2 t ht
    have g2 := v1 k hk
    refine wp_hasBit (by omega) (by omega) (fun b => br_f n1z ?_) (fun b => br_t rfl ?_)
    · intro i20 e20 i21 e21
      rw [e21, nI_add, e20, hx, bs_put (P := ra v t) (by omega) b]
      exact hK _ rfl
    · intro i19 e19
      rw [e19, nI_add, hx, bs_no (P := ra v t) b]
      exact hK _ rfl
theorem wp_treadlesRaising {p : Nat} {Post : Int32 → Prop} (hL : LmAt S tg a v) (hp : p < 12) (h : Post (nI (bs (fun t => ra v t p) 6))) : wp_X1_treadlesRaising S a (nI p) Post := by
  obtain ⟨⟨v1, v2, v3, v4, v5⟩, t0, d, xs, ys, h1, ⟨f, h2, h2'⟩, -⟩ := hL
  unfold wp_X1_treadlesRaising
  refine wpL_for 6 (fun k x => x = nI (bs (fun t => ra v t p) k)) rfl ?_ ?_
  · intro x hx K
    show wpb_X1_treadlesRaising_4 _ _ _ _ _ (nI 6) x
    unfold wpb_X1_treadlesRaising_4
    refine br_t (nle_re 6) ?_
    rw [hx]; exact h
  · intro k x hk hx K hK
    show wpb_X1_treadlesRaising_4 _ _ _ _ _ (nI k) x
    unfold wpb_X1_treadlesRaising_4
    refine br_f (nle_ge hk (by decide)) ?_
    refine gR_of h1 rfl ?_
    refine lI_of h2 hk (by decide) ?_
    refine gJ_of h1 rfl ?_
    refine wp_at (en16 (by decide) v1) hp ?_
    rw [h2' k hk]
    have g1 := v2 k hk
    have g2 := v1 p hp
    refine wp_hasBit (by omega) (by omega) (fun b => br_f n1z ?_) (fun b => br_t rfl ?_)
    · intro i20 e20 i21 e21
      rw [e21, nI_add, e20, hx, bs_put (P := fun t => ra v t p) (by omega) b]
      exact hK _ rfl
    · intro i19 e19
      rw [e19, nI_add, hx, bs_no (P := fun t => ra v t p) b]
      exact hK _ rfl
theorem nm1 : (-1 : Int32) = nI (2 ^ 32 - 1) := by decide +kernel
theorem bs_andn (P R : Nat → Bool) : nI (bs P 12) &&& (nI (bs R 12) ^^^ (-1 : Int32)) = nI (bs (fun p => P p && !R p) 12) := by
  rw [nm1, fb_xorI, fa_and]
  refine congrArg nI (bs_of (Nat.lt_of_le_of_lt Nat.and_le_left (bs_lt P 12)) fun j hj => ?_)
  rw [Nat.testBit_and, Nat.testBit_xor, Nat.testBit_two_pow_sub_one, bs_bit, bs_bit]
  have : j < 32 := by omega
  simp [hj, this]
theorem bs_and (P R : Nat → Bool) : nI (bs P 12) &&& nI (bs R 12) = nI (bs (fun p => P p && R p) 12) := by
  rw [fa_and]
  refine congrArg nI (bs_of (Nat.lt_of_le_of_lt Nat.and_le_left (bs_lt P 12)) fun j hj => ?_)
  rw [Nat.testBit_and, bs_bit, bs_bit]
  simp [hj]
theorem all12 : nI 4095 = nI (bs (fun _ => true) 12) := by decide +kernel
def nvr (v : LM) (k p : Nat) : Bool := (List.range k).all (fun t => !ra v t p)
theorem wp_neverRaised {Post : Int32 → Prop} (hL : LmAt S tg a v) (h : Post (nI (bs (nvr v 6) 12))) : wp_X1_neverRaised S a Post := by
  unfold wp_X1_neverRaised
  refine wpL_for 6 (fun k x => x = nI (bs (nvr v k) 12)) all12 ?_ ?_
  · intro x hx K
    show wpb_X1_neverRaised_6 _ _ _ _ (nI 6) x
    unfold wpb_X1_neverRaised_6
    refine br_t (nle_re 6) ?_
    rw [hx]; exact h
  · intro k x hk hx K hK
    show wpb_X1_neverRaised_6 _ _ _ _ (nI k) x
    unfold wpb_X1_neverRaised_6
    refine br_f (nle_ge hk (by decide)) ?_
    refine rc_of hL.2.choose_spec.choose_spec.choose_spec.choose_spec.1 ?_
    refine wp_raisedBy hL hk ?_
    intro i7 e7 i8 e8
    rw [e8, nI_add, e7, hx, bs_andn]
    refine hK _ (congrArg nI (bs_ext fun j hj => ?_))
    unfold nvr
    rw [List.range_succ, List.all_append]
    simp
theorem wp_draftsWithPresses {Post : Int32 → Prop} (hL : LmAt S tg a v) (h : Post (nI (bs (fun d => decide (0 < (drF v d).length)) 6))) : wp_X1_draftsWithPresses S a Post := by
  obtain ⟨⟨v1, v2, v3, v4, v5⟩, t0, d, xs, ys, h1, -, ⟨g, h3, h3'⟩, h4, -⟩ := hL
  unfold wp_X1_draftsWithPresses
  refine wpL_for 6 (fun k x => x = nI (bs (fun d => decide (0 < (drF v d).length)) k)) rfl ?_ ?_
  · intro x hx K
    show wpb_X1_draftsWithPresses_4 _ _ _ _ (nI 6) x
    unfold wpb_X1_draftsWithPresses_4
    refine br_t (nle_re 6) ?_
    rw [hx]; exact h
  · intro k x hk hx K hK
    show wpb_X1_draftsWithPresses_4 _ _ _ _ (nI k) x
    unfold wpb_X1_draftsWithPresses_4
    refine br_f (nle_ge hk (by decide)) ?_
    refine gR_of h1 rfl ?_
    refine lD_of h3 hk (by decide) (h3' k hk) ?_
    refine gI_of (h4 k hk).1 rfl ?_
    have hl := (v5 k hk).1
    rcases Nat.eq_zero_or_pos (drF v k).length with z | z
    · rw [z]
      refine br_t (by decide) ?_
      intro i e
      rw [e, nI_add, hx, bs_no (P := fun d => decide (0 < (drF v d).length)) (by simp [z])]
      exact hK _ rfl
    · refine br_f (nI_nle z (by omega)) ?_
      intro i e i2 e2
      rw [e2, nI_add, e, hx, bs_put (P := fun d => decide (0 < (drF v d).length)) (by omega) (by simp [z])]
      exact hK _ rfl
def cbp (v : LM) (p : Nat) : Nat := coF v (thF v p)
theorem wp_coloursByPlace {Post : Int64 → Prop} (hL : LmAt S tg a v) (h : Post (en (cbp v))) : wp_X1_coloursByPlace S a Post := by
  obtain ⟨⟨v1, v2, v3, v4, v5⟩, t0, d, xs, ys, h1, -⟩ := hL
  unfold wp_X1_coloursByPlace
  refine gJ_of h1 rfl ?_
  refine gJ_of h1 rfl ?_
  exact wp_then v3.1 (en16 (by decide) v4) h
theorem wp_pressAt {x y k : Nat} {l : List Nat} {Post : Int32 → Prop} (hl : okP l) (hd : DrAt S x y l) (hk : k < l.length) (h : Post (nI (l.getD k 0))) : wp_X0_pressAt S x (nI k) Post := by
  obtain ⟨h1, f, h2, h3⟩ := hd
  unfold wp_X0_pressAt
  have := hl.1
  refine wp_below_t (by decide) (by omega) (br_f n1z ?_)
  refine gR_of h1 rfl ?_
  refine lI_of h2 (by omega) (by decide) ?_
  rw [h3 k hk]
  exact h
def prW (v : LM) (x : Nat) : Nat → Nat := prs (fun p => (bs (ra v (x % 6)) 12).testBit p) (if x < 6 then 1 else 11)
theorem pmPrW (v : LM) (x : Nat) : PM (prW v x) := by
  unfold prW
  split
  · exact PM.prs1 _
  · exact PM.prs11 _
theorem wp_wayOfPress {x : Nat} {Post : Int64 → Prop} (hL : LmAt S tg a v) (hx : x < 12) (h : Post (en (prW v x))) : wp_X1_wayOfPress S a (nI x) Post := by
  unfold wp_X1_wayOfPress
  refine rc_of hL.2.choose_spec.choose_spec.choose_spec.choose_spec.1 ?_
  rw [pk_rem (by omega) (by decide) (by decide)]
  refine wp_raisedBy hL (Nat.mod_lt _ (by decide)) ?_
  refine wp_round (bs_lt _ 12) ?_
  unfold prW at h
  by_cases g : x < 6
  · rw [if_pos g] at h
    refine br_f (nle_ge g (by decide)) h
  · rw [if_neg g] at h
    refine br_t (nI_le (by omega) (by omega)) (wp_back h)
def wyl (v : LM) (l : List Nat) (p : Nat) : Nat := l.foldl (fun q x => prW v x q) p
theorem pmWyl (v : LM) : ∀ l, PM (wyl v l)
  | [] => PM.id
  | x :: l => PM.cmp (a := prW v x) (b := wyl v l) (pmPrW v x) (pmWyl v l)
theorem wyl_snoc (v : LM) (l : List Nat) (x p : Nat) : wyl v (l ++ [x]) p = prW v x (wyl v l p) := by
  unfold wyl
  rw [List.foldl_append]
  rfl
theorem take_snoc {l : List Nat} {k : Nat} (h : k < l.length) : l.take (k + 1) = l.take k ++ [l.getD k 0] := by
  rw [List.take_succ, List.getElem?_eq_getElem h]
  simp [List.getD, h]
theorem wp_draftAt {d : Nat} {Post : Option Nat → Prop} (hL : LmAt S tg a v) (hd : d < 6) (h : ∀ x y, DrAt S x y (drF v d) → tg x = (a, 3 + d) → tg y = (a, 9 + d) → Post (some x)) : wp_X1_draftAt S a (nI d) Post := by
  obtain ⟨⟨v1, v2, v3, v4, v5⟩, t0, d0, xs, ys, h1, -, ⟨g, h3, h3'⟩, h4, h5, h6, h7, h8⟩ := hL
  unfold wp_X1_draftAt
  refine wp_below_t (by decide) hd (br_f n1z ?_)
  refine gR_of h1 rfl ?_
  exact lD_of h3 hd (by decide) (h3' d hd) (h _ _ (h4 d hd) (h8 d hd).1 (h8 d hd).2)
theorem wp_draftAt_no {x : Int32} {Post : Option Nat → Prop} (hx : x < 0 ∨ nI 6 ≤ x) (h : Post none) : wp_X1_draftAt S a x Post := by
  unfold wp_X1_draftAt
  refine wp_below (by decide) (fun j hj e => ?_) (fun _ => br_t rfl h)
  subst e
  rcases hx with g | g
  · exact absurd g (nI_pos (by omega))
  · exact absurd g (nI_ge hj (by decide))
theorem wp_wayOf {d : Nat} {Post : Int64 → Prop} (hL : LmAt S tg a v) (hd : d < 6) (h : Post (en (wyl v (drF v d)))) : wp_X1_wayOf S a (nI d) Post := by
  unfold wp_X1_wayOf
  have hl := hL.1.2.2.2.2 d hd
  have ha := hL.2.choose_spec.choose_spec.choose_spec.choose_spec.1
  refine rc_of ha ?_
  refine wp_draftAt hL hd (fun x y hx t1 t2 => ⟨fun z => (by cases z), fun a3 e3 => ?_⟩)
  cases e3
  rw [home_en]
  refine wpL_for (drF v d).length (fun k w => w = en (wyl v ((drF v d).take k))) rfl ?_ ?_
  · intro w hw K
    show wpb_X1_wayOf_21 _ _ _ _ _ (nI (drF v d).length) w
    unfold wpb_X1_wayOf_21
    refine gI_of hx.1 rfl (br_t (Int32.le_refl _) ?_)
    rw [hw, List.take_length]; exact h
  · intro k w hk hw K hK
    show wpb_X1_wayOf_21 _ _ _ _ _ (nI k) w
    unfold wpb_X1_wayOf_21
    have h24 := hl.1
    have hk24 : k < 24 := by omega
    refine gI_of hx.1 rfl (br_f (nI_ge hk (by omega)) (br_f (nI_ge hk24 (by decide)) ?_))
    refine rc_of hx.1 ?_
    refine wp_pressAt hl hx hk ?_
    refine rc_of ha ?_
    refine wp_wayOfPress hL (hl.2 k hk) ?_
    rw [hw]
    refine wp_then (pmWyl v _).1 (pmPrW v _).lt16 ?_
    intro i e
    rw [e, nI_add]
    refine hK _ (en_ext fun p _ => ?_)
    rw [take_snoc hk, wyl_snoc]
end LOOM
