/-! ===== the law's own look at two drafts, and at several ===== -/
theorem bst_le (v : LM) : ∀ n k, k < n → nI (hmD v k) ≤ (bst v n).1
  | 0, k, h => absurd h (Nat.not_lt_zero _)
  | n + 1, k, h => by
    unfold bst
    by_cases c : nI (hmD v n) ≤ (bst v n).1
    · rw [if_pos c]
      rcases Nat.lt_or_ge k n with z | z
      · exact bst_le v n k z
      · have : k = n := by omega
        rw [this]; exact c
    · rw [if_neg c]
      rcases Nat.lt_or_ge k n with z | z
      · have h1 := bst_le v n k z
        have h2 : (bst v n).1 ≤ nI (hmD v n) := (fa_of_lt (fa_of_nle c)).1
        exact Int32.le_trans h1 h2
      · have : k = n := by omega
        rw [this]; exact Int32.le_refl _
noncomputable def bsT (v : LM) (t k : Nat) : Int32 × Nat := if t = 0 then bst v k else bst v 6
theorem bsT_step (v : LM) {t k : Nat} (hk : k < 6) : bsT v t (k + 1) = if nI (hmD v k) ≤ (bsT v t k).1 then bsT v t k else (nI (hmD v k), k) := by
  unfold bsT
  by_cases c : t = 0
  · rw [if_pos c, if_pos c]; rfl
  · rw [if_neg c, if_neg c, if_pos (bst_le v 6 k hk)]
theorem bsT_turn (v : LM) (t : Nat) : bsT v t 6 = bst v 6 := by
  unfold bsT
  split <;> rfl
theorem bsT_ne (v : LM) {t k : Nat} (h : ¬ t = 0) : bsT v t k = bst v 6 := if_neg h
/-! the kernel as the law finds it -/
def krT (v : LM) (D t k q : Nat) : Bool := if t = 0 then krn v D k q else krn v D 6 q
theorem krT_ne (v : LM) (D : Nat) {t k : Nat} (q : Nat) (h : ¬ t = 0) : krT v D t k q = krn v D 6 q := if_neg h
def krP (v : LM) (D t k p q : Nat) : Bool := krT v D t k q && (decide (p ≤ q) || !D.testBit k || (wy v k q == q))
theorem krn_succ (v : LM) (D k q : Nat) : krn v D (k + 1) q = (krn v D k q && (!D.testBit k || (wy v k q == q))) := by
  unfold krn
  exact all_succ _ k
theorem krn_sub {v : LM} {D k q : Nat} : ∀ n, k < n → krn v D n q = true → (!D.testBit k || (wy v k q == q)) = true
  | 0, h, _ => absurd h (Nat.not_lt_zero _)
  | n + 1, h, e => by
    rw [krn_succ, Bool.and_eq_true] at e
    rcases Nat.lt_or_ge k n with z | z
    · exact krn_sub n z e.1
    · have : k = n := by omega
      rw [this]; exact e.2
theorem krP_0 (v : LM) (D t k q : Nat) : krP v D t k 0 q = krT v D t k q := by unfold krP; simp
theorem krP_12 (v : LM) (D t : Nat) {k q : Nat} (hk : k < 6) (hq : q < 12) : krP v D t k 12 q = krT v D t (k + 1) q := by
  unfold krP krT
  have h : ¬ 12 ≤ q := by omega
  by_cases c : t = 0
  · rw [if_pos c, if_pos c, krn_succ]
    simp [h]
  · rw [if_neg c, if_neg c]
    cases e : krn v D 6 q with
    | false => rfl
    | true =>
      have := krn_sub 6 hk e
      simp [h]
      simpa using this
theorem krP_succ (v : LM) (D t k p q : Nat) : krP v D t k (p + 1) q = (krP v D t k p q && (!(D.testBit k && !(wy v k p == p)) || !(q == p))) := by
  unfold krP
  by_cases e : q = p
  · subst e
    have h1 : ¬ q + 1 ≤ q := by omega
    cases a : krT v D t k q <;> cases b : D.testBit k <;> cases c : (wy v k q == q) <;> simp [h1]
  · by_cases h : p ≤ q
    · have h1 : p + 1 ≤ q := by omega
      simp [h, h1, e]
    · have h1 : ¬ p + 1 ≤ q := by omega
      simp [h, h1, e]
/-! the orbit as the law finds it -/
def osp (w : Nat → Nat) (b : Bool) (R : Nat → Bool) : Nat → Nat → Bool
  | 0 => R
  | p + 1 => fun q => osp w b R p q || (b && osp w b R p p && (w p == q))
def odr (v : LM) (D : Nat) (R : Nat → Bool) : Nat → Nat → Bool
  | 0 => R
  | k + 1 => osp (wy v k) (D.testBit k) (odr v D R k) 12
theorem osp_up {w : Nat → Nat} {b : Bool} {R : Nat → Bool} {q : Nat} (p : Nat) : ∀ n, osp w b R p q = true → osp w b R (p + n) q = true
  | 0, h => h
  | n + 1, h => by
    show (osp w b R (p + n) q || _) = true
    rw [osp_up p n h]; rfl
theorem odr_up {v : LM} {D : Nat} {R : Nat → Bool} {q : Nat} (k : Nat) : ∀ n, odr v D R k q = true → odr v D R (k + n) q = true
  | 0, h => h
  | n + 1, h => by
    have h1 := odr_up k n h
    have := osp_up (w := wy v (k + n)) (b := D.testBit (k + n)) (R := odr v D R (k + n)) 0 12 h1
    rw [Nat.zero_add] at this
    exact this
theorem clo_law {v : LM} {D p : Nat} (hp : p < 12) : ∀ q, q < 12 → itB (fun R => odr v D R 6) 12 (fun q => q == p) q = rchB (mkp v D 6) p q := by
  refine clo12 hp (fun w hw => ?_) _ (fun P q h => ?_) (fun P T hT hP => ?_) (fun P hP w hw a ha h => ?_)
  · obtain ⟨d, -, -, e⟩ := mkp_mem.mp hw
    rw [e]; exact (pmWy v d).1
  · have := odr_up (v := v) (D := D) 0 6 h
    rw [Nat.zero_add] at this
    exact this
  · have key : ∀ k, k ≤ 6 → ∀ q, q < 12 → odr v D P k q = true → T q := by
      intro k
      induction k with
      | zero => exact fun _ => hP
      | succ k ih =>
        intro hk
        have ih := ih (by omega)
        have kp : ∀ n, n ≤ 12 → ∀ q, q < 12 → osp (wy v k) (D.testBit k) (odr v D P k) n q = true → T q := by
          intro n
          induction n with
          | zero => exact fun _ => ih
          | succ n ih2 =>
            intro hn q hq h
            have h : (osp (wy v k) (D.testBit k) (odr v D P k) n q || (D.testBit k && osp (wy v k) (D.testBit k) (odr v D P k) n n && (wy v k n == q))) = true := h
            rw [Bool.or_eq_true] at h
            rcases h with h | h
            · exact ih2 (by omega) q hq h
            · rw [Bool.and_eq_true, Bool.and_eq_true] at h
              obtain ⟨⟨h1, h2⟩, h3⟩ := h
              have h3 : wy v k n = q := by simpa using h3
              rw [← h3]
              exact hT _ (mkp_mem.mpr ⟨k, by omega, h1, rfl⟩) n (by omega) (ih2 (by omega) n (by omega) h2)
        exact kp 12 (Nat.le_refl _)
    exact key 6 (Nat.le_refl _)
  · obtain ⟨k, hk, hb, e⟩ := mkp_mem.mp hw
    subst e
    have h1 := odr_up (v := v) (D := D) (R := P) (q := a) 0 k h
    rw [Nat.zero_add] at h1
    have h2 := osp_up (w := wy v k) (b := D.testBit k) (R := odr v D P k) (q := a) 0 a h1
    rw [Nat.zero_add] at h2
    have h3 : osp (wy v k) (D.testBit k) (odr v D P k) (a + 1) (wy v k a) = true := by
      show (osp (wy v k) (D.testBit k) (odr v D P k) a (wy v k a) || (D.testBit k && osp (wy v k) (D.testBit k) (odr v D P k) a a && (wy v k a == wy v k a))) = true
      rw [hb] at h2 ⊢
      rw [h2]; simp
    have h4 := osp_up (w := wy v k) (b := D.testBit k) (R := odr v D P k) (q := wy v k a) (a + 1) (12 - (a + 1)) h3
    rw [show a + 1 + (12 - (a + 1)) = 12 by omega] at h4
    have h5 : odr v D P (k + 1) (wy v k a) = true := h4
    have h6 := odr_up (v := v) (D := D) (R := P) (q := wy v k a) (k + 1) (6 - (k + 1)) h5
    rw [show k + 1 + (6 - (k + 1)) = 6 by omega] at h6
    rw [← hP _ ((pmWy v k).1 a ha)]
    exact h6
theorem and_m1 {A : Nat} (h : A < 2 ^ 32) : nI A &&& (-1 : Int32) = nI A := by
  rw [nm1]
  have := fa_mask A 32
  rw [Nat.mod_eq_of_lt h] at this
  exact this
theorem and_no (P : Nat → Bool) {p : Nat} (hp : p < 12) : nI (bs P 12) &&& ((nI 1 <<< (nI p &&& 31)) ^^^ (-1 : Int32)) = nI (bs (fun q => P q && !(q == p)) 12) := by
  rw [sh1 (by omega), bs_one hp]
  exact bs_andn P (fun q => q == p)
theorem or_z (A : Nat) : nI A ||| nI 0 = nI A := by rw [fa_or, Nat.or_zero]
theorem bs_zero_iff (P : Nat → Bool) : bs P 12 = 0 ↔ ∀ q, q < 12 → P q = false := by
  constructor
  · intro h q hq
    have := bs_bit P 12 q
    rw [h, Nat.zero_testBit] at this
    simpa [hq] using this.symm
  · intro h
    rw [bs_ext (R := fun _ => false) h, bs_zero]
section LI
variable {S S' : PS} {tg tg' : Nat → Nat × Nat} {x : Nat} {ad : Nat → Nat} {f g : Nat → Option Nat} {v : LM} {hist : List LM} {sl : Nat → Option LM} {pad : List Nat} {P : Int32 → Prop} {Q : Int32 → PS → Prop} {d e : Nat} {la : Nat → Nat}
theorem tk_pair0 (h : TkF S tg x ad f g v hist sl pad) (hd : d < 6) (he : e < 6) (hP : P (nI (b2 (eqW (wy v d) (wy v e))))) : wp_X7_pair S x (nI d) (nI e) (nI 0) P := tk_pair h hd he (fun c => absurd c (by decide)) (fun _ => hP) (fun c => absurd c (by decide)) (fun c => absurd c (by decide)) (fun c => absurd c (by decide))
theorem tk_pair1 (h : TkF S tg x ad f g v hist sl pad) (hd : d < 6) (he : e < 6) (hP : P (nI (b2 (eqW (fun p => wy v e (wy v d p)) (fun p => wy v d (wy v e p)))))) : wp_X7_pair S x (nI d) (nI e) (nI 1) P := tk_pair h hd he (fun c => absurd c (by decide)) (fun c => absurd c (by decide)) (fun _ => hP) (fun c => absurd c (by decide)) (fun c => absurd c (by decide))
theorem tk_pair2 (h : TkF S tg x ad f g v hist sl pad) (hd : d < 6) (he : e < 6) (hP : P (nI (b2 (eqW (fun p => wy v e (wy v d p)) (fun p => p))))) : wp_X7_pair S x (nI d) (nI e) (nI 2) P := tk_pair h hd he (fun c => absurd c (by decide)) (fun c => absurd c (by decide)) (fun c => absurd c (by decide)) (fun _ => hP) (fun c => absurd c (by decide))
theorem tk_pair3 (h : TkF S tg x ad f g v hist sl pad) (hd : d < 6) (he : e < 6) (hP : P (nI (bs (fun p => !(wy v d p == wy v e p)) 12))) : wp_X7_pair S x (nI d) (nI e) (nI 3) P := tk_pair h hd he (fun c => absurd c (by decide)) (fun c => absurd c (by decide)) (fun c => absurd c (by decide)) (fun c => absurd c (by decide)) (fun _ => hP)
/-- a draft's places, one by one -/
theorem wq_325 {a5 a7 D t k : Nat} {R : Nat → Bool} {F7 : Nat → Int32} {K302 : (Int32 × Int32 × Int32 × Int32 × Int32 × PS) → Prop} (hv : okL v) (hL : LWo S tg x la v) (hD : D < 64) (hk : k < 6) (h5 : AN S a5 12 (wy v k)) (h7 : AF S a7 12 F7) (n57 : a5 ≠ a7) (n2 : la 2 ≠ a7) (hK : ∀ S', AN S' a7 12 (mv (thF v) (wy v k)) → (∀ b, b ≠ a7 → S' b = S b) → K302 (nI (k + 1), (bsT v t (k + 1)).1, nI (bsT v t (k + 1)).2, nI (bs (osp (wy v k) (D.testBit k) R 12) 12), nI (bs (krT v D t (k + 1)) 12), S')) : ∃ n : Nat, wpL (fun (K325 : (Int32 × Int32 × Int32 × PS) → Prop) (q : Int32 × Int32 × Int32 × PS) => wpb_L_arePairs_325 (la 2) (nI D) a5 a7 (nI k) (bsT v t k).1 (nI (bsT v t k).2) K302 K325 q.1 q.2.1 q.2.2.1 q.2.2.2) n ((nI 0), nI (bs R 12), nI (bs (krT v D t k) 12), S) := by
  have hw := pmWy v k
  have h12 : ∀ P : Nat → Bool, bs P 12 < 4096 := fun P => bs_lt P 12
  have hth := hL.2.2.2.1
  refine wpL_for 12 (fun p q => q.1 = nI (bs (osp (wy v k) (D.testBit k) R p) 12) ∧ q.2.1 = nI (bs (krP v D t k p) 12) ∧ AF q.2.2 a7 12 (fun j => if iv (wy v k) j < p then nI (mv (thF v) (wy v k) j) else F7 j) ∧ ∀ b, b ≠ a7 → q.2.2 b = S b) ⟨rfl, ?_, h7.ext (fun j _ => (if_neg (Nat.not_lt_zero _)).symm), fun _ _ => rfl⟩ ?_ ?_
  · show nI (bs (krT v D t k) 12) = nI (bs (krP v D t k 0) 12)
    rw [bs_ext (P := krP v D t k 0) (R := krT v D t k) (fun q _ => krP_0 v D t k q)]
  · intro q hq K
    obtain ⟨o, kr, T⟩ := q
    obtain ⟨e1, e2, g1, g2⟩ := hq
    have e1 : o = nI (bs (osp (wy v k) (D.testBit k) R 12) 12) := e1
    have e2 : kr = nI (bs (krP v D t k 12) 12) := e2
    have g1 : AN T a7 12 (mv (thF v) (wy v k)) := AF.ext g1 (fun j hj => if_pos (iv_spec hw hj).1)
    have g2 : ∀ b, b ≠ a7 → T b = S b := g2
    rw [bs_ext (R := krT v D t (k + 1)) (fun q hq => krP_12 v D t hk hq)] at e2
    show wpb_L_arePairs_325 _ _ _ _ _ _ _ _ _ (nI 12) o kr T
    unfold wpb_L_arePairs_325
    have hlt := mv_lt hv.2.2.1.1 hw
    have hs := bsT_step v (t := t) hk
    have hh : fb_ct (fun p => mv (thF v) (wy v k) p == p) 12 = hmD v k := rfl
    have fin : ∀ i58 i60, (i60, i58) = ((bsT v t (k + 1)).1, nI (bsT v t (k + 1)).2) → wpk_L_arePairs_466 (nI k) o kr T i58 K302 i60 := fun i58 i60 ep => by
      unfold wpk_L_arePairs_466
      intro i61 e61
      rw [e61, nI_add]
      have e3 : i60 = (bsT v t (k + 1)).1 := congrArg Prod.fst ep
      have e4 : i58 = nI (bsT v t (k + 1)).2 := congrArg Prod.snd ep
      rw [e1, e2, e3, e4]
      exact hK T g1 g2
    refine br_t (nle_re 12) (wq_home g1 hlt ?_)
    rw [hh]
    refine br_c (fun c => ?_) (fun c => ?_)
    · rw [if_pos c] at hs
      unfold wpk_L_arePairs_444
      refine wq_home g1 hlt ?_
      rw [hh]
      exact br_t c (fin _ _ (by rw [hs]))
    · rw [if_neg c] at hs
      unfold wpk_L_arePairs_444
      refine wq_home g1 hlt ?_
      rw [hh]
      refine br_f c (wq_home g1 hlt ?_)
      rw [hh]
      exact fin _ _ (by rw [hs])
  · intro p q hp hq K hK2
    obtain ⟨o, kr, T⟩ := q
    obtain ⟨e1, e2, g1, g2⟩ := hq
    have e1 : o = nI (bs (osp (wy v k) (D.testBit k) R p) 12) := e1
    have e2 : kr = nI (bs (krP v D t k p) 12) := e2
    subst e1; subst e2
    have g1 : AF T a7 12 (fun j => if iv (wy v k) j < p then nI (mv (thF v) (wy v k) j) else F7 j) := g1
    have g2 : ∀ b, b ≠ a7 → T b = S b := g2
    have k5 : AN T a5 12 (wy v k) := h5.fr (g2 _ n57)
    have k2 : AN T (la 2) 12 (thF v) := hth.fr (g2 _ n2)
    have hwp := hw.1 p hp
    show wpb_L_arePairs_325 _ _ _ _ _ _ _ _ _ (nI p) (nI (bs (osp (wy v k) (D.testBit k) R p) 12)) (nI (bs (krP v D t k p) 12)) T
    unfold wpb_L_arePairs_325
    have t406 : ∀ o' kr', o' = nI (bs (osp (wy v k) (D.testBit k) R (p + 1)) 12) → kr' = nI (bs (krP v D t k (p + 1)) 12) → wpk_L_arePairs_406 (la 2) a5 a7 (nI p) T kr' K o' := fun o' kr' eo ek => by
      unfold wpk_L_arePairs_406
      refine k5.get hp (k2.get hp (g1.set hwp (fun T' d1 d2 => ?_)))
      intro i79 e79
      rw [e79, nI_add]
      refine hK2 _ ⟨eo, ek, d1.ext (fun j hj => ?_), fun b hb => (d2 b hb).trans (g2 b hb)⟩
      by_cases z : j = wy v k p
      · rw [if_pos z, z, iv_of hw hp, if_pos (Nat.lt_succ_self p), mv_at hw hp]
      · have z2 : iv (wy v k) j ≠ p := fun z3 => z (by rw [← z3]; exact (iv_spec hw hj).2.symm)
        rw [if_neg z]
        by_cases z3 : iv (wy v k) j < p
        · rw [if_pos z3, if_pos (by omega)]
        · rw [if_neg z3, if_neg (by omega)]
    have t368 : ∀ kr', kr' = nI (bs (krP v D t k (p + 1)) 12) → wpk_L_arePairs_368 (la 2) (nI D) a5 a7 (nI k) (nI p) (nI (bs (osp (wy v k) (D.testBit k) R p) 12)) T K kr' := fun kr' ek => by
      unfold wpk_L_arePairs_368
      have same : (D.testBit k && osp (wy v k) (D.testBit k) R p p) = false → nI (bs (osp (wy v k) (D.testBit k) R p) 12) = nI (bs (osp (wy v k) (D.testBit k) R (p + 1)) 12) := fun hz => by
        refine congrArg nI (bs_ext fun q _ => ?_)
        show _ = (osp (wy v k) (D.testBit k) R p q || (D.testBit k && osp (wy v k) (D.testBit k) R p p && (wy v k p == q)))
        rw [hz]; simp
      refine bit_c (by omega) (by omega) (fun hb => bit_c (Nat.lt_trans (h12 _) (by decide)) (by omega) (fun hb2 => ?_) (fun hb2 => ?_)) (fun hb => ?_)
      · refine k5.get hp ?_
        intro i88 e88
        refine t406 _ _ ?_ ek
        rw [e88, or_sh (by omega), bs_or1 _ hwp]
        refine congrArg nI (bs_ext fun q _ => ?_)
        show _ = (osp (wy v k) (D.testBit k) R p q || (D.testBit k && osp (wy v k) (D.testBit k) R p p && (wy v k p == q)))
        rw [bs_bit] at hb2
        have hb2 : osp (wy v k) (D.testBit k) R p p = true := by simpa [hp] using hb2
        rw [hb2, hb]; simp
      · intro i83 e83
        refine t406 _ _ ?_ ek
        rw [bs_bit] at hb2
        have hb2 : osp (wy v k) (D.testBit k) R p p = false := by simpa [hp] using hb2
        rw [e83, or_z]
        exact same (by rw [hb2]; simp)
      · intro i81 e81
        refine t406 _ _ ?_ ek
        rw [e81, or_z]
        exact same (by rw [hb]; simp)
    have ksame : (D.testBit k && !(wy v k p == p)) = false → nI (bs (krP v D t k p) 12) = nI (bs (krP v D t k (p + 1)) 12) := fun hz => by
      refine congrArg nI (bs_ext fun q _ => ?_)
      rw [krP_succ, hz]; simp
    refine br_f (nle_ge hp (by decide)) (bit_c (by omega) (by omega) (fun hb => k5.get hp (br_c (fun z => ?_) (fun z => ?_))) (fun hb => ?_))
    · rw [nI_eq (by omega) (by omega)] at z
      intro i96 e96
      refine t368 _ ?_
      rw [e96, and_m1 (Nat.lt_trans (h12 _) (by decide))]
      exact ksame (by rw [z]; simp)
    · rw [nI_eq (by omega) (by omega)] at z
      intro i97 e97
      refine t368 _ ?_
      rw [e97, and_no _ hp]
      refine congrArg nI (bs_ext fun q _ => ?_)
      rw [krP_succ, hb, beq_false_of_ne z]; simp
    · intro i90 e90
      refine t368 _ ?_
      rw [e90, and_m1 (Nat.lt_trans (h12 _) (by decide))]
      exact ksame (by rw [hb]; simp)
theorem wq_272 {S0 : PS} {a5 a7 D pl : Nat} {F5 F7 : Nat → Int32} (h : TkF S0 tg x ad f g v hist sl pad) (hL : LWo S0 tg x la v) (hD : D < 64) (hpl : pl < 12) (h5 : AF S a5 12 F5) (h7 : AF S a7 12 F7) (n57 : a5 ≠ a7) (q5 : S0 a5 = oJ) (q7 : S0 a7 = oJ) (hS : ∀ b, S0 b ≠ oJ → S b = S0 b)
    (hQ : ∀ S' tg', TkF S' tg' x ad f g v hist sl pad → LWo S' tg' x la v → Q (nI 1) S') : wpk_L_arePairs_272 x (la 0) (la 1) (la 2) (la 4) (la 5) (nI D) (nI pl) a5 a7 S Q (nI 1) := by
  have okv := h.2.2.2.1.1
  unfold wpk_L_arePairs_272
  intro i17 e17
  rw [e17, sh1 (by omega), bs_one hpl]
  have old : ∀ {T : PS}, (∀ b, S b ≠ oJ → b ≠ a5 → b ≠ a7 → T b = S b) → ∀ b, S0 b ≠ oJ → T b = S0 b := fun hT b hb => (hT b (by rw [hS b hb]; exact hb) (ne_new hb q5) (ne_new hb q7)).trans (hS b hb)
  have st : ∀ {T : PS}, (∀ b, S b ≠ oJ → b ≠ a5 → b ≠ a7 → T b = S b) → TkF T tg x ad f g v hist sl pad ∧ LWo T tg x la v := fun hT => ⟨h.keep (fun b hb _ => ⟨old hT b hb, rfl⟩), hL.keep (fun b hb _ => ⟨rfl, old hT b hb⟩)⟩
  have nq5 : ∀ i, i < 7 → la i ≠ a5 := fun i hi => hL.new hi q5
  have nq7 : ∀ i, i < 7 → la i ≠ a7 := fun i hi => hL.new hi q7
  refine wpL_fromB 12 (fun t q => q.1 = (bsT v t 0).1 ∧ q.2.1 = nI (bsT v t 0).2 ∧ q.2.2.1 = nI (bs (itB (fun R => odr v D R 6) t (fun q => q == pl)) 12) ∧ q.2.2.2.1 = nI (bs (krT v D t 0) 12) ∧ (∃ F, AF q.2.2.2.2 a5 12 F) ∧ (∃ F, AF q.2.2.2.2 a7 12 F) ∧ ∀ b, S b ≠ oJ → b ≠ a5 → b ≠ a7 → q.2.2.2.2 b = S b) (Nat.zero_le _) (by decide) ⟨rfl, rfl, rfl, ?_, ⟨F5, h5⟩, ⟨F7, h7⟩, fun _ _ _ _ => rfl⟩ ?_ ?_
  · show nI 4095 = nI (bs (krT v D 0 0) 12)
    rw [all12]
    exact congrArg nI (bs_ext fun q _ => rfl)
  · intro q hq K
    obtain ⟨q1, q2, q3, q4, T⟩ := q
    obtain ⟨e1, e2, e3, e4, -, -, g3⟩ := hq
    have e1 : q1 = (bsT v 12 0).1 := e1
    have e2 : q2 = nI (bsT v 12 0).2 := e2
    have e3 : q3 = nI (bs (itB (fun R => odr v D R 6) 12 (fun q => q == pl)) 12) := e3
    have e4 : q4 = nI (bs (krT v D 12 0) 12) := e4
    rw [bsT_ne v (by decide)] at e1 e2
    rw [bs_ext (fun q _ => krT_ne v D (t := 12) (k := 0) q (by decide))] at e4
    rw [bs_ext (clo_law hpl)] at e3
    obtain ⟨s1, s2⟩ := st g3
    show wpb_L_arePairs_292 _ _ _ _ _ _ _ _ _ _ _ _ _ (nI 12) q1 q2 q3 q4 T
    unfold wpb_L_arePairs_292
    refine br_t (nle_re 12) (br_f n1z (rc_of s1.2.1 (tk_kernel s1 hD (br_t e4.symm (rc_of s1.2.1 (tk_orbit s1 hpl hD (fun S5 h6 c6 => br_t e3.symm ?_)))))))
    refine rc_of h6.2.1 (tk_best h6 (Or.inl nI_0) (fun _ => br_t e2.symm (rc_of h6.2.1 (tk_best h6 (Or.inr rfl) (fun c => absurd c n1z) (fun _ => br_t e1.symm ?_)))) (fun c => absurd nI_0 c))
    exact hQ S5 tg h6 (s2.keep (fun b hb hb2 => c6 b hb hb2))
  · intro t q ht hq K hK
    obtain ⟨q1, q2, q3, q4, T⟩ := q
    obtain ⟨e1, e2, e3, e4, g1, g2, g3⟩ := hq
    have e1 : q1 = (bsT v t 0).1 := e1
    have e2 : q2 = nI (bsT v t 0).2 := e2
    have e3 : q3 = nI (bs (itB (fun R => odr v D R 6) t (fun q => q == pl)) 12) := e3
    have e4 : q4 = nI (bs (krT v D t 0) 12) := e4
    subst e1; subst e2; subst e3; subst e4
    show wpb_L_arePairs_292 _ _ _ _ _ _ _ _ _ _ _ _ _ (nI t) (bsT v t 0).1 (nI (bsT v t 0).2) (nI (bs (itB (fun R => odr v D R 6) t (fun q => q == pl)) 12)) (nI (bs (krT v D t 0) 12)) T
    unfold wpb_L_arePairs_292
    refine br_f (nle_ge ht (by decide)) ?_
    generalize hR : itB (fun R => odr v D R 6) t (fun q => q == pl) = R
    refine wpL_fromB 6 (fun k q => q.1 = (bsT v t k).1 ∧ q.2.1 = nI (bsT v t k).2 ∧ q.2.2.1 = nI (bs (odr v D R k) 12) ∧ q.2.2.2.1 = nI (bs (krT v D t k) 12) ∧ (∃ F, AF q.2.2.2.2 a5 12 F) ∧ (∃ F, AF q.2.2.2.2 a7 12 F) ∧ ∀ b, S b ≠ oJ → b ≠ a5 → b ≠ a7 → q.2.2.2.2 b = S b) (Nat.zero_le _) (by decide) ⟨rfl, rfl, rfl, rfl, g1, g2, g3⟩ ?_ ?_
    · intro q hq K2
      obtain ⟨q1, q2, q3, q4, T⟩ := q
      obtain ⟨e1, e2, e3, e4, g1, g2, g3⟩ := hq
      have e1 : q1 = (bsT v t 6).1 := e1
      have e2 : q2 = nI (bsT v t 6).2 := e2
      have e3 : q3 = nI (bs (odr v D R 6) 12) := e3
      have e4 : q4 = nI (bs (krT v D t 6) 12) := e4
      show wpb_L_arePairs_302 _ _ _ _ _ _ _ _ _ _ _ (nI 6) q1 q2 q3 q4 T
      unfold wpb_L_arePairs_302
      refine br_t (nle_re 6) ?_
      intro i50 e50
      rw [e50, nI_add]
      rw [bsT_turn] at e1 e2
      refine hK _ ⟨?_, ?_, ?_, ?_, g1, g2, g3⟩
      · show q1 = (bsT v (t + 1) 0).1
        rw [bsT_ne v (by omega)]; exact e1
      · show q2 = nI (bsT v (t + 1) 0).2
        rw [bsT_ne v (by omega)]; exact e2
      · show q3 = nI (bs (odr v D (itB (fun R => odr v D R 6) t (fun q => q == pl)) 6) 12)
        rw [hR]; exact e3
      · show q4 = nI (bs (krT v D (t + 1) 0) 12)
        rw [e4]
        refine congrArg nI (bs_ext fun q _ => ?_)
        rw [krT_ne v D q (show ¬ t + 1 = 0 by omega)]
        unfold krT
        split <;> rfl
    · intro k q hk hq K2 hK2
      obtain ⟨q1, q2, q3, q4, T⟩ := q
      obtain ⟨e1, e2, e3, e4, ⟨F, g1⟩, ⟨G, g2⟩, g3⟩ := hq
      have e1 : q1 = (bsT v t k).1 := e1
      have e2 : q2 = nI (bsT v t k).2 := e2
      have e3 : q3 = nI (bs (odr v D R k) 12) := e3
      have e4 : q4 = nI (bs (krT v D t k) 12) := e4
      subst e1; subst e2; subst e3; subst e4
      have g1 : AF T a5 12 F := g1
      have g2 : AF T a7 12 G := g2
      have g3 : ∀ b, S b ≠ oJ → b ≠ a5 → b ≠ a7 → T b = S b := g3
      obtain ⟨s1, s2⟩ := st g3
      show wpb_L_arePairs_302 _ _ _ _ _ _ _ _ _ _ _ (nI k) (bsT v t k).1 (nI (bsT v t k).2) (nI (bs (odr v D R k) 12)) (nI (bs (krT v D t k) 12)) T
      unfold wpb_L_arePairs_302
      refine br_f (nle_ge hk (by decide)) (wq_lay okv hk s2.2.1 s2.2.2.1 s2.2.2.2.2.2.1 s2.2.2.2.2.2.2.1 g1 (Ne.symm (nq5 0 (by decide))) (Ne.symm (nq5 1 (by decide))) (Ne.symm (nq5 4 (by decide))) (Ne.symm (nq5 5 (by decide))) (fun T2 d5 f5 => ?_))
      have g4 : ∀ b, S b ≠ oJ → b ≠ a5 → b ≠ a7 → T2 b = S b := fun b hb h1 h2 => by
        have := g3 b hb h1 h2
        rw [f5 b (by rw [this]; exact hb) h1, this]
      obtain ⟨s3, s4⟩ := st g4
      refine wq_325 okv s4 hD hk d5 (g2.fr (f5 a7 g2.live (Ne.symm n57))) n57 (nq7 2 (by decide)) (fun T3 d7 f7 => ?_)
      refine hK2 _ ⟨rfl, rfl, rfl, rfl, ⟨_, d5.fr (f7 _ n57)⟩, ⟨_, d7⟩, fun b hb h1 h2 => (f7 b h2).trans (g4 b hb h1 h2)⟩
theorem wq_arePairs {y : Int32} (h : TkF S tg x ad f g v hist sl pad) (hL : LWo S tg x la v) (hQ : ∀ S' tg', TkF S' tg' x ad f g v hist sl pad → LWo S' tg' x la v → Q (nI 1) S') : wp_L_arePairs S x y (la 0) (la 1) (la 2) (la 4) (la 5) Q := by
  have okv := h.2.2.2.1.1
  unfold wp_L_arePairs
  refine wq_low (by decide) (by decide) (wq_low (by decide) (by decide) (wq_low (by decide) (by decide) (wq_low (by decide) (by decide) ?_)))
  have hd := lw_lt (x := y) (n := 6) (by decide)
  have he := lw_lt (x := y >>> (nI 3 &&& 31)) (n := 6) (by decide)
  have hD := lw_lt (x := y >>> (nI 6 &&& 31)) (n := 64) (by decide)
  have hpl := lw_lt (x := y >>> (nI 12 &&& 31)) (n := 12) (by decide)
  generalize lw y 6 = d at hd ⊢
  generalize lw (y >>> (nI 3 &&& 31)) 6 = e at he ⊢
  generalize lw (y >>> (nI 6 &&& 31)) 64 = D at hD ⊢
  generalize lw (y >>> (nI 12 &&& 31)) 12 = pl at hpl ⊢
  have hw1 := pmWy v d
  have hw2 := pmWy v e
  refine nw_AF (by decide) (fun a5 S6 q5 h5 f5 => nw_AF (by decide) (fun a7 S8 q7 h7 f7 => ?_))
  have n57 : a5 ≠ a7 := ne_new h5.live q7
  have q7' : S a7 = oJ := (f5 a7 (Ne.symm n57)).symm.trans q7
  have liv8 : ∀ b, S b ≠ oJ → S8 b = S b := fun b hb => by rw [f7 b (ne_new hb q7'), f5 b (ne_new hb q5)]
  have nq5 : ∀ i, i < 7 → la i ≠ a5 := fun i hi => hL.new hi q5
  have nq7 : ∀ i, i < 7 → la i ≠ a7 := fun i hi => hL.new hi q7'
  have hL8 : LWo S8 tg x la v := hL.keep (fun b hb _ => ⟨rfl, liv8 b hb⟩)
  refine wq_lay okv hd hL8.2.1 hL8.2.2.1 hL8.2.2.2.2.2.1 hL8.2.2.2.2.2.2.1 (h5.fr (f7 _ n57)) (Ne.symm (nq5 0 (by decide))) (Ne.symm (nq5 1 (by decide))) (Ne.symm (nq5 4 (by decide))) (Ne.symm (nq5 5 (by decide))) (fun S9 g5 f9 => ?_)
  have liv9 : ∀ b, S b ≠ oJ → S9 b = S b := fun b hb => by
    have := liv8 b hb
    rw [f9 b (by rw [this]; exact hb) (ne_new hb q5), this]
  have hL9 : LWo S9 tg x la v := hL.keep (fun b hb _ => ⟨rfl, liv9 b hb⟩)
  refine wq_lay okv he hL9.2.1 hL9.2.2.1 hL9.2.2.2.2.2.1 hL9.2.2.2.2.2.2.1 (h7.fr (f9 a7 h7.live (Ne.symm n57))) (Ne.symm (nq7 0 (by decide))) (Ne.symm (nq7 1 (by decide))) (Ne.symm (nq7 4 (by decide))) (Ne.symm (nq7 5 (by decide))) (fun S10 g7 f10 => ?_)
  have liv10 : ∀ b, S b ≠ oJ → S10 b = S b := fun b hb => by
    have := liv9 b hb
    rw [f10 b (by rw [this]; exact hb) (ne_new hb q7'), this]
  have g5 : AN S10 a5 12 (wy v d) := g5.fr (f10 a5 g5.live n57)
  have g7 : AN S10 a7 12 (wy v e) := g7
  have h10 : TkF S10 tg x ad f g v hist sl pad := h.keep (fun b hb _ => ⟨liv10 b hb, rfl⟩)
  have hx := h10.2.1
  have fin := wq_272 (S := S10) (Q := Q) h hL hD hpl g5 g7 n57 q5 q7' liv10 hQ
  refine wpL_for 12 (fun p q => q = (nI (b2 ((List.range p).all (fun p => wy v e (wy v d p) == p))), nI (b2 ((List.range p).all (fun p => wy v e (wy v d p) == wy v d (wy v e p)))), nI (bs (fun p => !(wy v d p == wy v e p)) p))) rfl ?_ ?_
  · rintro q rfl K
    show wpb_L_arePairs_90 _ _ _ _ _ _ _ _ _ _ _ _ _ _ _ (nI 12) (nI (b2 (eqW (fun p => wy v e (wy v d p)) (fun p => p)))) (nI (b2 (eqW (fun p => wy v e (wy v d p)) (fun p => wy v d (wy v e p))))) (nI (bs (fun p => !(wy v d p == wy v e p)) 12))
    unfold wpb_L_arePairs_90
    have hlt := bs_lt (fun p => !(wy v d p == wy v e p)) 12
    have e0 : nI (bs (fun p => !(wy v d p == wy v e p)) 12) = 0 ↔ eqW (wy v d) (wy v e) = true := by
      rw [← nI_0, nI_eq (by omega) (by decide), bs_zero_iff, eqW_iff]
      exact ⟨fun hh p hp => by have := hh p hp; simpa using this, fun hh p hp => by simp [hh p hp]⟩
    have t251 : wpk_L_arePairs_251 x (la 0) (la 1) (la 2) (la 4) (la 5) (nI d) (nI e) (nI D) (nI pl) a5 a7 S10 (nI (bs (fun p => !(wy v d p == wy v e p)) 12)) Q := by
      unfold wpk_L_arePairs_251
      exact rc_of hx (tk_pair3 h10 hd he (br_t rfl fin))
    have t229 : wpk_L_arePairs_229 x (la 0) (la 1) (la 2) (la 4) (la 5) (nI d) (nI e) (nI D) (nI pl) a5 a7 S10 (nI (b2 (eqW (fun p => wy v e (wy v d p)) (fun p => p)))) (nI (bs (fun p => !(wy v d p == wy v e p)) 12)) Q := by
      unfold wpk_L_arePairs_229
      refine rc_of hx (tk_pair2 h10 hd he ?_)
      cases eqW (fun p => wy v e (wy v d p)) (fun p => p) with
      | true => exact br_f n1z (br_t rfl t251)
      | false => exact br_t nI_0 (br_t rfl t251)
    have t207 : wpk_L_arePairs_207 x (la 0) (la 1) (la 2) (la 4) (la 5) (nI d) (nI e) (nI D) (nI pl) a5 a7 S10 (nI (b2 (eqW (fun p => wy v e (wy v d p)) (fun p => p)))) (nI (b2 (eqW (fun p => wy v e (wy v d p)) (fun p => wy v d (wy v e p))))) (nI (bs (fun p => !(wy v d p == wy v e p)) 12)) Q := by
      unfold wpk_L_arePairs_207
      refine rc_of hx (tk_pair1 h10 hd he ?_)
      cases eqW (fun p => wy v e (wy v d p)) (fun p => wy v d (wy v e p)) with
      | true => exact br_f n1z (br_t rfl t229)
      | false => exact br_t nI_0 (br_t rfl t229)
    refine br_t (nle_re 12) (rc_of hx (tk_pair0 h10 hd he (br_c (fun c => ?_) (fun c => ?_))))
    · rw [e0.mp c]
      exact br_t rfl t207
    · have c : eqW (wy v d) (wy v e) = false := by
        cases z : eqW (wy v d) (wy v e) with
        | false => rfl
        | true => exact absurd (e0.mpr z) c
      rw [c]
      exact br_t rfl t207
  · rintro p q hp rfl K hK
    show wpb_L_arePairs_90 _ _ _ _ _ _ _ _ _ _ _ _ _ _ _ (nI p) (nI (b2 ((List.range p).all (fun p => wy v e (wy v d p) == p)))) (nI (b2 ((List.range p).all (fun p => wy v e (wy v d p) == wy v d (wy v e p))))) (nI (bs (fun p => !(wy v d p == wy v e p)) p))
    unfold wpb_L_arePairs_90
    have hK3 := hK _ rfl
    rw [all_succ, all_succ] at hK3
    have p1 := hw1.1 p hp
    have p2 := hw2.1 p hp
    have t154 : ∀ u s, u = nI (bs (fun p => !(wy v d p == wy v e p)) (p + 1)) → s = nI (b2 ((List.range p).all (fun p => wy v e (wy v d p) == wy v d (wy v e p)) && (wy v e (wy v d p) == wy v d (wy v e p)))) → wpk_L_arePairs_154 a5 a7 S10 (nI p) (nI (b2 ((List.range p).all (fun p => wy v e (wy v d p) == p)))) u K s := fun u s eu es => by
      unfold wpk_L_arePairs_154 wpk_L_arePairs_179
      rw [← eu, ← es] at hK3
      rw [b2_0]
      refine br_c (fun c => ?_) (fun c => ?_)
      · rw [c, Bool.false_and] at hK3
        intro i137 e137
        rw [e137, nI_add]
        exact hK3
      · have c : (List.range p).all (fun p => wy v e (wy v d p) == p) = true := by
          cases z : (List.range p).all (fun p => wy v e (wy v d p) == p) with
          | true => rfl
          | false => exact absurd z c
        rw [c, Bool.true_and] at hK3
        have p3 := hw2.1 _ p1
        refine g5.get hp (g7.get p1 (br_c (fun z => ?_) (fun z => ?_)))
        · rw [nI_eq (by omega) (by omega)] at z
          have ez : (wy v e (wy v d p) == p) = true := by rw [z]; exact beq_self_eq_true _
          rw [ez] at hK3
          intro i137 e137
          rw [e137, nI_add]
          exact hK3
        · rw [nI_eq (by omega) (by omega)] at z
          rw [beq_false_of_ne z] at hK3
          intro i137 e137
          rw [e137, nI_add]
          exact hK3
    have t123 : ∀ u, u = nI (bs (fun p => !(wy v d p == wy v e p)) (p + 1)) → wpk_L_arePairs_123 a5 a7 S10 (nI p) (nI (b2 ((List.range p).all (fun p => wy v e (wy v d p) == p)))) (nI (b2 ((List.range p).all (fun p => wy v e (wy v d p) == wy v d (wy v e p))))) K u := fun u eu => by
      unfold wpk_L_arePairs_123
      rw [b2_0 ((List.range p).all (fun p => wy v e (wy v d p) == wy v d (wy v e p)))]
      refine br_c (fun c => ?_) (fun c => ?_)
      · refine t154 _ _ eu ?_
        rw [c]; rfl
      · have c : (List.range p).all (fun p => wy v e (wy v d p) == wy v d (wy v e p)) = true := by
          cases z : (List.range p).all (fun p => wy v e (wy v d p) == wy v d (wy v e p)) with
          | true => rfl
          | false => exact absurd z c
        have p3 := hw2.1 _ p1
        have p4 := hw1.1 _ p2
        refine g7.get hp (g5.get p2 (g5.get hp (g7.get p1 (br_c (fun z => ?_) (fun z => ?_)))))
        · rw [nI_eq (by omega) (by omega)] at z
          refine t154 _ _ eu ?_
          have ez : (wy v e (wy v d p) == wy v d (wy v e p)) = true := by rw [z]; exact beq_self_eq_true _
          rw [c, ez]; rfl
        · rw [nI_eq (by omega) (by omega)] at z
          refine t154 _ _ eu ?_
          rw [c, beq_false_of_ne (Ne.symm z)]; rfl
    refine br_f (nle_ge hp (by decide)) (g5.get hp (g7.get hp (br_c (fun z => ?_) (fun z => ?_))))
    · rw [nI_eq (by omega) (by omega)] at z
      intro i168 e168
      refine t123 _ ?_
      rw [e168, or_z, bs_no (P := fun p => !(wy v d p == wy v e p)) (by rw [z]; simp)]
    · rw [nI_eq (by omega) (by omega)] at z
      intro i167 e167
      refine t123 _ ?_
      rw [e167, bs_put (P := fun p => !(wy v d p == wy v e p)) (by omega) (by rw [beq_false_of_ne z]; rfl)]
end LI
