/-! ===== drafts: what is added, copied ===== -/
def ShD (S : PS) (x y : Nat) : Prop := (∃ n : Int32, S x = .inl (0, [.ref y, .int n])) ∧ ∃ f, S y = aI 24 f
theorem DrAt.sh {S : PS} {x y : Nat} {l : List Nat} (h : DrAt S x y l) : ShD S x y := ⟨⟨_, h.1⟩, h.2.choose, h.2.choose_spec.1⟩
theorem ob_ne {S : PS} {a b : Nat} {o o' : Ob} (ha : S a = o) (hb : S b = o') (h : o ≠ o') : a ≠ b := fun e => h (by rw [← ha, ← hb, e])
theorem lr_ne {x : Nat × List Value} {y : Nat × vp_A} : (Sum.inl x : Ob) ≠ Sum.inr y := fun h => by cases h
theorem getD_app_l {l l2 : List Nat} {k : Nat} (h : k < l.length) : (l ++ l2).getD k 0 = l.getD k 0 := by
  simp [List.getD, List.getElem?_append_left h]
theorem getD_app_r {l : List Nat} {p : Nat} : (l ++ [p]).getD l.length 0 = p := by
  simp [List.getD]
theorem wp_add {S : PS} {x y p : Nat} {l : List Nat} {P : PS → Prop} (h : DrAt S x y l) (hl : l.length < 24) (hP : ∀ S', DrAt S' x y (l ++ [p]) → (∀ b, b ≠ x → b ≠ y → S' b = S b) → P S') : wp_X0_add S x (nI p) P := by
  obtain ⟨h1, f, h2, h3⟩ := h
  have hxy : x ≠ y := ob_ne h1 h2 lr_ne
  unfold wp_X0_add
  refine gI_of h1 rfl (wp_below_t (by decide) hl (br_f n1z ?_))
  refine gR_of h1 rfl (gI_of h1 rfl (sI_of h2 hl (by decide) ?_))
  have h1' : va_up S y (aI 24 (upd f l.length (nI p))) x = .inl (0, [.ref y, .int (nI l.length)]) := (up_n hxy).trans h1
  refine gI_of h1' rfl (pF_of h1' (Nat.le_of_ble_eq_true rfl) _ rfl ?_)
  refine hP _ ⟨?_, upd f l.length (nI p), ?_, fun k hk => ?_⟩ (fun b hx hy => by rw [up_n hx, up_n hy])
  · rw [up_s, nI_add, List.length_append]; rfl
  · rw [up_n (Ne.symm hxy), up_s]
  · rw [List.length_append] at hk
    have hk : k < l.length + 1 := hk
    rcases Nat.lt_or_ge k l.length with g | g
    · rw [pk_un (by omega), h3 k g, getD_app_l g]
    · have e : k = l.length := by omega
      rw [e, pk_us, getD_app_r]
theorem wp_append {S : PS} {x y x2 y2 : Nat} {l l2 : List Nat} {P : PS → Prop} (h : DrAt S x y l) (h2 : DrAt S x2 y2 l2) (hl2 : okP l2) (hl : l.length + l2.length ≤ 24) (hx : x2 ≠ x) (hy : y2 ≠ y) (hP : ∀ S', DrAt S' x y (l ++ l2) → (∀ b, b ≠ x → b ≠ y → S' b = S b) → P S') : wp_X0_append S x x2 P := by
  unfold wp_X0_append
  have hk2 : ∀ S', (∀ b, b ≠ x → b ≠ y → S' b = S b) → DrAt S' x2 y2 l2 := fun S' hf => by
    obtain ⟨k1, f, k2, k3⟩ := h2
    obtain ⟨j1, g, j2, j3⟩ := h
    refine ⟨by rw [hf _ hx (ob_ne k1 j2 lr_ne)]; exact k1, f, ?_, k3⟩
    rw [hf _ (Ne.symm (ob_ne j1 k2 lr_ne)) hy]; exact k2
  refine wpL_for l2.length (fun k S' => DrAt S' x y (l ++ l2.take k) ∧ ∀ b, b ≠ x → b ≠ y → S' b = S b) ⟨by rw [List.take_zero, List.append_nil]; exact h, fun _ _ _ => rfl⟩ ?_ ?_
  · intro S' hS' K
    obtain ⟨hd, hf⟩ := hS'
    show wpb_X0_append_2 _ _ _ _ (nI l2.length) S'
    unfold wpb_X0_append_2
    refine gI_of (hk2 S' hf).1 rfl (br_t (Int32.le_refl _) ?_)
    rw [List.take_length] at hd
    exact hP _ hd hf
  · intro k S' hk hS' K hK
    obtain ⟨hd, hf⟩ := hS'
    have hd2 := hk2 S' hf
    show wpb_X0_append_2 _ _ _ _ (nI k) S'
    unfold wpb_X0_append_2
    have hk24 : k < 24 := by omega
    refine gI_of hd2.1 rfl (br_f (nI_ge hk (by omega)) (br_f (nI_ge hk24 (by decide)) ?_))
    refine rc_of hd2.1 (wp_pressAt hl2 hd2 hk ?_)
    refine rc_of hd.1 (wp_add hd (by rw [List.length_append, List.length_take]; omega) (fun S'' hd' hf' => ?_))
    intro i e
    rw [e, nI_add]
    refine hK _ ⟨?_, fun b hb hb' => by rw [hf' b hb hb', hf b hb hb']⟩
    rw [take_snoc hk, ← List.append_assoc]
    exact hd'
def pv (k : Nat) : Int32 := match k with
  | 0 => -1
  | k + 1 => nI k
theorem wpL_down {τ : Type} {body : ((Int32 × τ) → Prop) → (Int32 × τ) → Prop} (N : Nat) (I : Nat → τ → Prop) {t0 : τ} (h : I N t0) (hexit : ∀ t, I 0 t → ∀ K, body K ((-1 : Int32), t)) (hstep : ∀ k t, k < N → I (k + 1) t → ∀ K : (Int32 × τ) → Prop, (∀ t', I k t' → K (nI k + (-1 : Int32), t')) → body K (nI k, t)) : ∃ n, wpL body n (nI N - nI 1, t0) := by
  have ep : ∀ k, nI k + (-1 : Int32) = pv k := fun k => by
    cases k with
    | zero => decide
    | succ k => exact pk_m1 k
  have key : ∀ k t, k ≤ N → I k t → wpL body (k + 1) (pv k, t) := by
    intro k
    induction k with
    | zero => intro t _ hI; exact hexit t hI _
    | succ k ih => intro t hk hI; exact hstep k t hk hI _ (fun t' h' => by rw [ep]; exact ih t' (by omega) h')
  refine ⟨N + 1, ?_⟩
  have e : nI N - nI 1 = pv N := by
    cases N with
    | zero => decide
    | succ k => exact nI_pred k
  rw [e]
  exact key N t0 (Nat.le_refl _) h
def trn (l : List Nat) : List Nat := l.reverse.map (fun p => (p + 6) % 12)
theorem drop_cons {l : List Nat} {k : Nat} (h : k < l.length) : l.drop k = l.getD k 0 :: l.drop (k + 1) := by
  rw [List.drop_eq_getElem_cons h]
  simp [List.getD, h]
theorem trn_drop {l : List Nat} {k : Nat} (h : k < l.length) : trn (l.drop k) = trn (l.drop (k + 1)) ++ [(l.getD k 0 + 6) % 12] := by
  unfold trn
  rw [drop_cons h, List.reverse_cons, List.map_append]
  rfl
theorem trn_len (l : List Nat) : (trn l).length = l.length := by unfold trn; simp
theorem wp_appendTurned {S : PS} {x y x2 y2 : Nat} {l2 : List Nat} {P : PS → Prop} (h : DrAt S x y []) (h2 : DrAt S x2 y2 l2) (hl2 : okP l2) (hx : x2 ≠ x) (hy : y2 ≠ y) (hP : ∀ S', DrAt S' x y (trn l2) → (∀ b, b ≠ x → b ≠ y → S' b = S b) → P S') : wp_X0_appendTurned S x x2 P := by
  unfold wp_X0_appendTurned
  refine gI_of h2.1 rfl ?_
  intro i4 e4
  rw [e4]
  have h24 := hl2.1
  have hk2 : ∀ S', (∀ b, b ≠ x → b ≠ y → S' b = S b) → DrAt S' x2 y2 l2 := fun S' hf => by
    obtain ⟨k1, f, k2, k3⟩ := h2
    obtain ⟨j1, g, j2, j3⟩ := h
    refine ⟨by rw [hf _ hx (ob_ne k1 j2 lr_ne)]; exact k1, f, ?_, k3⟩
    rw [hf _ (Ne.symm (ob_ne j1 k2 lr_ne)) hy]; exact k2
  refine wpL_down l2.length (fun k S' => DrAt S' x y (trn (l2.drop k)) ∧ ∀ b, b ≠ x → b ≠ y → S' b = S b) ⟨by rw [List.drop_length]; exact h, fun _ _ _ => rfl⟩ ?_ ?_
  · intro S' hS' K
    obtain ⟨hd, hf⟩ := hS'
    show wpb_X0_appendTurned_7 _ _ _ _ (-1) S'
    unfold wpb_X0_appendTurned_7
    exact br_t (by decide) (hP _ hd hf)
  · intro k S' hk hS' K hK
    obtain ⟨hd, hf⟩ := hS'
    have hd2 := hk2 S' hf
    show wpb_X0_appendTurned_7 _ _ _ _ (nI k) S'
    unfold wpb_X0_appendTurned_7
    refine br_f (nI_pos (by omega)) (rc_of hd2.1 (wp_pressAt hl2 hd2 hk (rc_of hd.1 ?_)))
    have h12 := hl2.2 k hk
    rw [nI_add, pk_rem (by omega) (by decide) (by decide)]
    refine wp_add hd (by rw [trn_len, List.length_drop]; omega) (fun S'' hd' hf' => ?_)
    intro i e
    rw [e]
    refine hK _ ⟨?_, fun b hb hb' => by rw [hf' b hb hb', hf b hb hb']⟩
    rw [trn_drop hk]
    exact hd'
theorem wp_copyD {S : PS} {x y x2 y2 : Nat} {l2 : List Nat} {P : PS → Prop} (h : ShD S x y) (h2 : DrAt S x2 y2 l2) (hl2 : l2.length ≤ 24) (hP : ∀ S', DrAt S' x y l2 → (∀ b, b ≠ x → b ≠ y → S' b = S b) → P S') : wp_X0_copyFrom S x x2 P := by
  obtain ⟨⟨n, j1⟩, g, j2⟩ := h
  obtain ⟨k1, f, k2, k3⟩ := h2
  have hxy : x ≠ y := ob_ne j1 j2 lr_ne
  have hx2y : x2 ≠ y := ob_ne k1 j2 lr_ne
  unfold wp_X0_copyFrom
  refine gR_of k1 rfl (gR_of j1 rfl (cp_of k2 j2 (by decide) (Nat.le_refl _) (Nat.le_refl _) ?_))
  refine gI_of ((up_n hx2y).trans k1) rfl (pF_of ((up_n hxy).trans j1) (Nat.le_of_ble_eq_true rfl) _ rfl ?_)
  refine hP _ ⟨up_s _ _ _, va_cpy f g 0 0 24, ?_, fun k hk => ?_⟩ (fun b hb hb' => by rw [up_n hb, up_n hb'])
  · rw [up_n (Ne.symm hxy), up_s]
  · rw [cpy_in (by omega), k3 k hk]
/-! ===== a loom copied ===== -/
theorem wp_copyL {S : PS} {tg : Nat → Nat × Nat} {a b : Nat} {v w : LM} {P : PS → Prop} (ha : LmAt S tg a v) (hb : LmAt S tg b w) (hab : a ≠ b) (hP : ∀ S', LmAt S' tg a w → (∀ q, ¬ Ow tg a q → S' q = S q) → P S') : wp_X1_copyFrom S a b P := by
  obtain ⟨hv, t, d, xs, ys, a1, ⟨f, a2, a2'⟩, ⟨g, a3, a3'⟩, a4, a5, a6, a7, a8⟩ := ha
  obtain ⟨hw, u, e, zs, ws, b1, ⟨f', b2, b2'⟩, ⟨g', b3, b3'⟩, b4, b5, b6, b7, b8⟩ := hb
  have nab : ∀ {q r : Nat} {i j : Nat}, tg q = (a, i) → tg r = (b, j) → q ≠ r := fun h1 h2 => tne h1 h2 (fun h => hab (congrArg Prod.fst h))
  have na : ∀ {q r : Nat} {i j : Nat}, tg q = (a, i) → tg r = (a, j) → i ≠ j → q ≠ r := fun h1 h2 hij => tne h1 h2 (fun h => hij (congrArg Prod.snd h))
  unfold wp_X1_copyFrom
  refine gJ_of b1 rfl (pF_of a1 (Nat.le_of_ble_eq_true rfl) _ rfl ?_)
  have b1' : ∀ o, va_up S a o b = .inl (1, [.long (en (shF w)), .long (en (thF w)), .long (en (coF w)), .ref u, .ref e, .int (pdF w), .int (pkF w)]) := fun o => (up_n (Ne.symm hab)).trans b1
  refine gJ_of (b1' _) rfl (pF_of (up_s _ _ _) (Nat.le_of_ble_eq_true rfl) _ rfl ?_)
  rw [up_u]
  refine gJ_of (b1' _) rfl (pF_of (up_s _ _ _) (Nat.le_of_ble_eq_true rfl) _ rfl ?_)
  rw [up_u]
  refine gR_of (b1' _) rfl (gR_of (up_s _ _ _) rfl ?_)
  have hu : va_up S a (.inl (1, [.long (en (shF w)), .long (en (thF w)), .long (en (coF w)), .ref t, .ref d, .int (pdF v), .int (pkF v)])) u = aI 6 f' := (up_n (Ne.symm (nab a5 b6))).trans b2
  have ht : va_up S a (.inl (1, [.long (en (shF w)), .long (en (thF w)), .long (en (coF w)), .ref t, .ref d, .int (pdF v), .int (pkF v)])) t = aI 6 f := (up_n (na a6 a5 (by decide))).trans a2
  refine cp_of hu ht (by decide) (Nat.le_refl _) (Nat.le_refl _) ?_
  refine wpL_for 6 (fun k S' => S' a = .inl (1, [.long (en (shF w)), .long (en (thF w)), .long (en (coF w)), .ref t, .ref d, .int (pdF v), .int (pkF v)]) ∧ S' t = aI 6 (va_cpy f' f 0 0 6) ∧ S' d = aD 6 g ∧ (∀ i, i < k → DrAt S' (xs i) (ys i) (drF w i)) ∧ (∀ i, k ≤ i → i < 6 → DrAt S' (xs i) (ys i) (drF v i)) ∧ ∀ q, ¬ Ow tg a q → S' q = S q) ?_ ?_ ?_
  · refine ⟨?_, up_s _ _ _, ?_, fun i hi => absurd hi (Nat.not_lt_zero _), fun i _ hi => ?_, fun q hq => ?_⟩
    · exact (up_n (na a5 a6 (by decide))).trans (up_s _ _ _)
    · rw [up_n (na a7 a6 (by decide)), up_n (na a7 a5 (by decide))]; exact a3
    · obtain ⟨k1, f2, k2, k3⟩ := a4 i hi
      refine ⟨?_, f2, ?_, k3⟩
      · rw [up_n (na (a8 i hi).1 a6 (by omega)), up_n (na (a8 i hi).1 a5 (by omega))]; exact k1
      · rw [up_n (na (a8 i hi).2 a6 (by omega)), up_n (na (a8 i hi).2 a5 (by omega))]; exact k2
    · rw [up_n (fun z => hq ⟨1, by decide, by rw [z, a6]⟩), up_n (fun z => hq ⟨0, by decide, by rw [z, a5]⟩)]
  · intro S' hS' K
    obtain ⟨c1, c2, c3, c4, c5, c6⟩ := hS'
    show wpb_X1_copyFrom_41 _ _ _ _ (nI 6) S'
    unfold wpb_X1_copyFrom_41
    have bS : S' b = .inl (1, [.long (en (shF w)), .long (en (thF w)), .long (en (coF w)), .ref u, .ref e, .int (pdF w), .int (pkF w)]) := (c6 b (fun z => hab (z.one ⟨0, by decide, b5⟩))).trans b1
    refine br_t (nle_re 6) (gI_of bS rfl (pF_of c1 (Nat.le_of_ble_eq_true rfl) _ rfl ?_))
    refine gI_of ((up_n (Ne.symm hab)).trans bS) rfl (pF_of (up_s _ _ _) (Nat.le_of_ble_eq_true rfl) _ rfl ?_)
    rw [up_u]
    refine hP _ ⟨hw, t, d, xs, ys, up_s _ _ _, ⟨va_cpy f' f 0 0 6, ?_, fun k hk => ?_⟩, ⟨g, ?_, a3'⟩, fun i hi => ?_, a5, a6, a7, a8⟩ (fun q hq => ?_)
    · rw [up_n (na a6 a5 (by decide))]; exact c2
    · rw [cpy_in hk]; exact b2' k hk
    · rw [up_n (na a7 a5 (by decide))]; exact c3
    · obtain ⟨k1, f2, k2, k3⟩ := c4 i hi
      refine ⟨?_, f2, ?_, k3⟩
      · rw [up_n (na (a8 i hi).1 a5 (by omega))]; exact k1
      · rw [up_n (na (a8 i hi).2 a5 (by omega))]; exact k2
    · rw [up_n (fun z => hq ⟨0, by decide, by rw [z, a5]⟩)]; exact c6 q hq
  · intro k S' hk hS' K hK
    obtain ⟨c1, c2, c3, c4, c5, c6⟩ := hS'
    show wpb_X1_copyFrom_41 _ _ _ _ (nI k) S'
    unfold wpb_X1_copyFrom_41
    have hne : ∀ {q j : Nat}, tg q = (b, j) → S' q = S q := fun h => c6 _ (fun ⟨i, hi, e⟩ => hab (congrArg Prod.fst (e.symm.trans h)))
    refine br_f (nle_ge hk (by decide)) (gR_of c1 rfl (lD_of c3 hk (by decide) (a3' k hk) ?_))
    refine gR_of ((hne b5).trans b1) rfl (lD_of ((hne b7).trans b3) hk (by decide) (b3' k hk) ?_)
    have hd := c5 k (Nat.le_refl _) hk
    have hd2 : DrAt S' (zs k) (ws k) (drF w k) := by
      obtain ⟨k1, f2, k2, k3⟩ := b4 k hk
      exact ⟨(hne (b8 k hk).1).trans k1, f2, (hne (b8 k hk).2).trans k2, k3⟩
    refine rc_of hd.1 (wp_copyD hd.sh hd2 (hw.2.2.2.2 k hk).1 (fun S'' hd' hf' => ?_))
    intro i ei
    rw [ei, nI_add]
    have ex := (a8 k hk).1
    have ey := (a8 k hk).2
    refine hK _ ⟨?_, ?_, ?_, fun i hi => ?_, fun i hi hi6 => ?_, fun q hq => ?_⟩
    · rw [hf' _ (na a5 ex (by omega)) (na a5 ey (by omega))]; exact c1
    · rw [hf' _ (na a6 ex (by omega)) (na a6 ey (by omega))]; exact c2
    · rw [hf' _ (na a7 ex (by omega)) (na a7 ey (by omega))]; exact c3
    · rcases Nat.lt_or_ge i k with z | z
      · obtain ⟨k1, f2, k2, k3⟩ := c4 i z
        have gx := (a8 i (by omega)).1
        have gy := (a8 i (by omega)).2
        exact ⟨by rw [hf' _ (na gx ex (by omega)) (na gx ey (by omega))]; exact k1, f2, by rw [hf' _ (na gy ex (by omega)) (na gy ey (by omega))]; exact k2, k3⟩
      · have : i = k := by omega
        subst this; exact hd'
    · obtain ⟨k1, f2, k2, k3⟩ := c5 i (by omega) hi6
      have gx := (a8 i hi6).1
      have gy := (a8 i hi6).2
      exact ⟨by rw [hf' _ (na gx ex (by omega)) (na gx ey (by omega))]; exact k1, f2, by rw [hf' _ (na gy ex (by omega)) (na gy ey (by omega))]; exact k2, k3⟩
    · rw [hf' _ (fun z => hq ⟨3 + k, by omega, by rw [z, ex]⟩) (fun z => hq ⟨9 + k, by omega, by rw [z, ey]⟩)]; exact c6 q hq
