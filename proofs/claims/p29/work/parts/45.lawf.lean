/-! ===== what the law asks of a call, by its own arrays ===== -/
theorem nF6 (v : LM) : nF v 6 = pdF v := rfl
theorem nF7 (v : LM) : nF v 7 = pkF v := rfl
theorem trn_get {l : List Nat} {k : Nat} (hk : k < l.length) : (trn l).getD k 0 = (l.getD (l.length - 1 - k) 0 + 6) % 12 := by
  have h1 : k < (trn l).length := by rw [trn_len]; exact hk
  have e1 : (trn l).getD k 0 = (trn l)[k]'h1 := by simp [List.getD, h1]
  have h2 : l.length - 1 - k < l.length := by omega
  have e2 : l.getD (l.length - 1 - k) 0 = l[l.length - 1 - k]'h2 := by simp [List.getD, h2]
  rw [e1, e2]
  unfold trn
  simp
theorem wrw_ok {b e : Int32} (h : (wrw b e).length ≤ 24) : okP (wrw b e) := ⟨h, rps_lt _ (wts_ok b _)⟩
theorem mv_PM {f w : Nat → Nat} (hf : PM f) (hw : PM w) : PM (mv f w) := ⟨mv_lt hf.1 hw, fun p q hp hq e => by
  have h1 := (iv_spec hw hp)
  have h2 := (iv_spec hw hq)
  have := hf.2 _ _ h1.1 h2.1 e
  rw [← h1.2, ← h2.2, this]⟩
section LF
variable {S : PS} {tg : Nat → Nat × Nat} {x : Nat} {la : Nat → Nat} {v : LM} {P : Int32 → PS → Prop}
theorem LWo.far (h : LWo S tg x la v) {i b : Nat} (hi : i < 7) (hb : (tg b).2 < 40) : b ≠ la i := fun e => by
  rw [e, h.1 i hi] at hb
  exact absurd hb (by show ¬ 40 + i < 40; omega)
theorem LWo.new (h : LWo S tg x la v) {i q : Nat} (hi : i < 7) (hq : S q = oJ) : la i ≠ q := ne_new (h.live hi) hq
/-- only new cells, and one of the law's own temporary arrays, change -/
theorem LWo.tmp {S' : PS} {q : Nat} (h : LWo S tg x la v) (hq : S q = oJ) (hS : ∀ b, S b ≠ oJ → b ≠ q → S' b = S b) : LWo S' tg x la v := h.keep (fun b hb _ => ⟨rfl, hS b hb (ne_new hb hq)⟩)
theorem wq_346 {a a8 : Nat} {l : List Nat} {R : Nat → Int32} (hv : okL v) (h : LWo S tg x la v) (ha : a < 6) (hl : okP l) (h8 : AF S a8 24 R) (hR : ∀ k, k < l.length → R k = nI (l.getD k 0)) (n4 : la 4 ≠ a8) (n5 : la 5 ≠ a8) (hP : ∀ S', LWo S' tg x la (setDr v a l) → (∀ b, b ≠ la 4 → b ≠ la 5 → S' b = S b) → P (nI l.length) S') : wp_L_makes S (nI a) a8 (nI l.length) (la 4) (la 5) (fun S12 => P (nI l.length) S12) := by
  obtain ⟨t, h0, h1, h2, h3, h4, h5, R6, h6⟩ := id h
  refine wq_makes hv ha hl h8 hR h4 h5 n4 n5 (h.ne (by decide) (by decide) (by decide)) (fun S' d4 d5 f => ?_)
  have e : ∀ i, i < 7 → i ≠ 4 → i ≠ 5 → S' (la i) = S (la i) := fun i hi n4 n5 => f _ (h.ne hi (by decide) n4) (h.ne hi (by decide) n5)
  exact hP S' ⟨t, h0.fr (e 0 (by decide) (by decide) (by decide)), h1.fr (e 1 (by decide) (by decide) (by decide)), h2.fr (e 2 (by decide) (by decide) (by decide)), h3.fr (e 3 (by decide) (by decide) (by decide)), d4, d5, R6, h6.fr (e 6 (by decide) (by decide) (by decide))⟩ f
/-- the presses of a draft behind those that are there -/
theorem wq_puts {y a8 : Nat} {L : List Nat} {R : Nat → Int32} (hv : okL v) (h : LWo S tg x la v) (hy : y < 6) (h8 : AF S a8 24 R) (hR : ∀ k, k < L.length → R k = nI (L.getD k 0)) (hl : L.length + (drF v y).length ≤ 24) (n4 : la 4 ≠ a8) (n5 : la 5 ≠ a8) (hP : ∀ S' R', AF S' a8 24 R' → (∀ k, k < (L ++ drF v y).length → R' k = nI ((L ++ drF v y).getD k 0)) → (∀ b, b ≠ a8 → S' b = S b) → P (nI L.length + nI (drF v y).length) S') : wp_L_puts S (nI y) (nI L.length) (la 4) (la 5) a8 P := by
  obtain ⟨t, -, -, -, -, h4, h5, -, -⟩ := id h
  unfold wp_L_puts
  refine wpL_for (drF v y).length (fun k T => (∃ R', AF T a8 24 R' ∧ ∀ j, j < L.length + k → R' j = nI ((L ++ drF v y).getD j 0)) ∧ ∀ b, b ≠ a8 → T b = S b) ⟨⟨R, h8, fun j hj => ?_⟩, fun _ _ => rfl⟩ ?_ ?_
  · rw [getD_app_l (by omega)]; exact hR j (by omega)
  · intro T hT K
    obtain ⟨⟨R', r1, r2⟩, fr⟩ := hT
    show wpb_L_puts_3 _ _ _ _ _ _ _ (nI (drF v y).length) T
    unfold wpb_L_puts_3
    have k4 := h4.fr (fr _ n4)
    refine wq_n k4 hy (br_t (Int32.le_refl _) (wq_n k4 hy ?_))
    exact hP T R' r1 (fun k hk => r2 k (by rw [List.length_append] at hk; exact hk)) fr
  · intro k T hk hT K hK
    obtain ⟨⟨R', r1, r2⟩, fr⟩ := hT
    show wpb_L_puts_3 _ _ _ _ _ _ _ (nI k) T
    unfold wpb_L_puts_3
    have k4 := h4.fr (fr _ n4)
    have k5 := h5.fr (fr _ n5)
    refine wq_n k4 hy (br_f (nI_ge hk (by omega)) (wq_pressAt hv hy hk k5 ?_))
    rw [nI_add]
    refine r1.set (by omega) (fun T' d1 d2 => ?_)
    intro i17 e17
    rw [e17, nI_add]
    refine hK _ ⟨⟨_, d1, fun j hj => ?_⟩, fun b hb => (d2 b hb).trans (fr b hb)⟩
    by_cases z : j = L.length + k
    · rw [if_pos z, z, getD_app_m (by omega)]
      congr 2; omega
    · rw [if_neg z]; exact r2 j (by omega)
theorem wq_due {kd a : Nat} {b e : Int32} (hv : okL v) (hv' : okL (cF kd a b e v).2) (hc : okC kd a b e) (h : LWo S tg x la v) (hR : kd = 2 → (wrw b e).length ≤ 24 → ∃ R, AF S (la 6) 24 R ∧ ∀ k, k < (wrw b e).length → R k = nI ((wrw b e).getD k 0)) (hP : ∀ S', LWo S' tg x la (cF kd a b e v).2 → LK4 S tg S' → P (cF kd a b e v).1 S') : wp_L_due S (cF kd a b e v).1 (nI kd) (nI a) b e (la 0) (la 1) (la 2) (la 3) (la 4) (la 5) (la 6) P := by
  obtain ⟨t, h0, h1, h2, h3, h4, h5, R6, h6⟩ := id h
  unfold wp_L_due
  -- what stays when one array changes
  have one : ∀ {S' : PS} {i j : Nat}, i < 7 → j < 7 → (∀ b, b ≠ la i → S' b = S b) → j ≠ i → S' (la j) = S (la j) := fun hi hj f n => f _ (h.ne hj hi n)
  have lk : ∀ {S' : PS} {i : Nat}, i < 7 → (∀ b, b ≠ la i → S' b = S b) → LK4 S tg S' := fun hi f b _ hb => f b (h.far hi hb)
  rcases hc with ⟨rfl, ha, s, hs, rfl⟩ | ⟨rfl, ha, s, hs, rfl⟩ | ⟨rfl, ha⟩ | ⟨rfl, ha, y, z, hy, hz, rfl, rfl⟩ | ⟨rfl, ha, y, hy, rfl⟩ | ⟨rfl, ha, y, z, hy, hz, rfl, rfl⟩ | ⟨rfl, ha, u, ht1, ht, rfl⟩ | ⟨rfl, ha, c, hc, rfl⟩
  · rw [cF0 (by omega)] at hP hv' ⊢
    refine br_t nI_0 (h0.get ha (h0.set ha (fun S1 d1 f1 => ?_)))
    have o : ∀ j, j < 7 → j ≠ 0 → S1 (la j) = S (la j) := fun j hj n => one (i := 0) (by decide) hj f1 n
    refine hP S1 ⟨t, d1.ext (fun k _ => ?_), h1.fr (o 1 (by decide) (by decide)), h2.fr (o 2 (by decide) (by decide)), h3.fr (o 3 (by decide) (by decide)), h4.fr (o 4 (by decide) (by decide)), h5.fr (o 5 (by decide) (by decide)), R6, h6.fr (o 6 (by decide) (by decide))⟩ (lk (i := 0) (by decide) f1)
    show _ = nI (if k = a then s else shF v k)
    by_cases g : k = a
    · rw [if_pos g, if_pos g]
    · rw [if_neg g, if_neg g]
  · rw [cF1 (by omega)] at hP hv' ⊢
    refine br_f (by decide) (br_t rfl (h1.set ha (fun S1 d1 f1 => ?_)))
    have o : ∀ j, j < 7 → j ≠ 1 → S1 (la j) = S (la j) := fun j hj n => one (i := 1) (by decide) hj f1 n
    have d1 : AN S1 (la 1) 6 (tiF (setTi v a s)) := d1.ext (fun k _ => by
      show _ = nI (if k = a then s else tiF v k)
      by_cases g : k = a
      · rw [if_pos g, if_pos g]
      · rw [if_neg g, if_neg g])
    have d0 : AN S1 (la 0) 12 (shF (setTi v a s)) := h0.fr (o 0 (by decide) (by decide))
    refine wq_raised hv' ha d0 d1 (wq_ones (bs_lt _ 12) ?_)
    rw [pop_bs]
    exact hP S1 ⟨t, d0, d1, h2.fr (o 2 (by decide) (by decide)), h3.fr (o 3 (by decide) (by decide)), h4.fr (o 4 (by decide) (by decide)), h5.fr (o 5 (by decide) (by decide)), R6, h6.fr (o 6 (by decide) (by decide))⟩ (lk (i := 1) (by decide) f1)
  · refine br_f (by decide) (br_f (by decide) (br_t rfl ?_))
    rw [cF2] at hP hv' ⊢
    by_cases hl : (wrw b e).length ≤ 24
    · rw [if_pos hl] at hP hv' ⊢
      have h1 : 1 ≤ (wrw b e).length := by
        have := (rps_wts_le b (1 + lw e 7)).1
        unfold wrw; omega
      obtain ⟨R, r1, r2⟩ := hR rfl hl
      refine br_f (nI_nle h1 (by omega)) (wq_346 hv h ha (wrw_ok hl) r1 r2 (h.ne (by decide) (by decide) (by decide)) (h.ne (by decide) (by decide) (by decide)) (fun S' h' f' => hP S' h' (fun q hq hq2 => f' q (h.far (by decide) hq2) (h.far (by decide) hq2))))
    · rw [if_neg hl] at hP hv' ⊢
      exact br_t (by show (-3 : Int32) ≤ 0; decide) (hP S h (fun _ _ _ => rfl))
  · refine br_f (by decide) (br_f (by decide) (br_f (by decide) (br_f (by decide) (br_f (by decide) (br_t rfl ?_)))))
    refine wq_n h4 hy (wq_n h4 hz ?_)
    intro i80 e80
    have ly := (hv.2.2.2.2 y hy).1
    have lz := (hv.2.2.2.2 z hz).1
    rw [e80, nI_add]
    unfold wpk_L_due_198
    rw [cF3 (by omega) (by omega)] at hP hv'
    by_cases hl : (drF v y).length + (drF v z).length ≤ 24
    · rw [if_pos hl] at hP hv'
      refine br_t (nI_le hl (by decide)) (nw_AF (by decide) (fun q S1 hq hq1 f1 => br_f (by decide) ?_))
      have hS1 : ∀ {T : PS}, (∀ b, b ≠ q → T b = S1 b) → LWo T tg x la v := fun hT => h.tmp hq (fun b hb hb2 => (hT b hb2).trans (f1 b hb2))
      have nq : ∀ i, i < 7 → la i ≠ q := fun i hi => h.new hi hq
      refine wpL_for 2 (fun k t => (∃ L R, t.1 = nI L.length ∧ AF t.2 q 24 R ∧ (∀ j, j < L.length → R j = nI (L.getD j 0)) ∧ L = if k = 0 then [] else if k = 1 then drF v y else drF v y ++ drF v z) ∧ ∀ b, b ≠ q → t.2 b = S1 b) ⟨⟨[], _, rfl, hq1, fun j hj => absurd hj (Nat.not_lt_zero _), rfl⟩, fun _ _ => rfl⟩ ?_ ?_
      · intro t ht K
        obtain ⟨m, T⟩ := t
        obtain ⟨⟨L, R, e1, r1, r2, eL⟩, fr⟩ := ht
        have e1 : m = nI L.length := e1
        have eL : L = drF v y ++ drF v z := eL
        subst e1; subst eL
        have fr : ∀ b, b ≠ q → T b = S1 b := fr
        have r1 : AF T q 24 R := r1
        show wpb_L_due_294 _ _ _ _ _ _ _ _ _ (nI 2) (nI (drF v y ++ drF v z).length) T
        unfold wpb_L_due_294 wpk_L_due_346
        have hlen : (drF v y ++ drF v z).length = (drF v y).length + (drF v z).length := List.length_append
        rw [← hlen] at hP
        refine br_t rfl (br_t (nle_re 2) (wq_346 hv (hS1 fr) ha (okP_app (hv.2.2.2.2 y hy) (hv.2.2.2.2 z hz).2 hl) r1 r2 (nq 4 (by decide)) (nq 5 (by decide)) (fun S' h' f' => hP S' h' (fun b hb hb2 => ?_))))
        have bq := ne_new hb hq
        rw [f' b (h.far (by decide) hb2) (h.far (by decide) hb2), fr b bq, f1 b bq]
      · intro k t hk ht K hK
        obtain ⟨m, T⟩ := t
        obtain ⟨⟨L, R, e1, r1, r2, eL⟩, fr⟩ := ht
        have e1 : m = nI L.length := e1
        subst e1
        have fr : ∀ b, b ≠ q → T b = S1 b := fr
        have r1 : AF T q 24 R := r1
        show wpb_L_due_294 _ _ _ _ _ _ _ _ _ (nI k) (nI L.length) T
        unfold wpb_L_due_294 wpk_L_due_310
        refine br_t rfl (br_f (nle_ge hk (by decide)) (br_t rfl ?_))
        rcases (by omega : k = 0 ∨ k = 1) with rfl | rfl
        · have eL : L = [] := eL
          subst eL
          refine br_f (by decide) (wq_puts hv (hS1 fr) hy r1 r2 (by show 0 + _ ≤ 24; omega) (nq 4 (by decide)) (nq 5 (by decide)) (fun S' R' r1' r2' f' => ?_))
          intro i e
          rw [e, nI_add, nI_add]
          refine hK _ ⟨⟨drF v y, R', ?_, r1', r2', rfl⟩, fun b hb => (f' b hb).trans (fr b hb)⟩
          show nI (0 + (drF v y).length) = _
          rw [Nat.zero_add]
        · have eL : L = drF v y := eL
          subst eL
          refine br_t rfl (wq_puts hv (hS1 fr) hz r1 r2 hl (nq 4 (by decide)) (nq 5 (by decide)) (fun S' R' r1' r2' f' => ?_))
          intro i e
          rw [e, nI_add, nI_add]
          refine hK _ ⟨⟨drF v y ++ drF v z, R', ?_, r1', r2', rfl⟩, fun b hb => (f' b hb).trans (fr b hb)⟩
          show nI _ = nI _
          rw [List.length_append]
    · rw [if_neg hl] at hP hv'
      exact br_f (nI_ge (by omega) (by omega)) (hP S h (fun _ _ _ => rfl))
  · refine br_f (by decide) (br_f (by decide) (br_f (by decide) (br_f (by decide) (br_f (by decide) (br_f (by decide) (br_t rfl ?_))))))
    refine wq_n h4 hy ?_
    have ly := (hv.2.2.2.2 y hy).1
    unfold wpk_L_due_198
    rw [cF4 (by omega)] at hP hv'
    refine br_t (nI_le ly (by decide)) (nw_AF (by decide) (fun q S1 hq hq1 f1 => br_t rfl ?_))
    have hS1 : ∀ {T : PS}, (∀ b, b ≠ q → T b = S1 b) → LWo T tg x la v := fun hT => h.tmp hq (fun b hb hb2 => (hT b hb2).trans (f1 b hb2))
    have nq : ∀ i, i < 7 → la i ≠ q := fun i hi => h.new hi hq
    refine wpL_for (drF v y).length (fun k T => (∃ R, AF T q 24 R ∧ ∀ j, j < k → R j = nI ((trn (drF v y)).getD j 0)) ∧ ∀ b, b ≠ q → T b = S1 b) ⟨⟨_, hq1, fun j hj => absurd hj (Nat.not_lt_zero _)⟩, fun _ _ => rfl⟩ ?_ ?_
    · intro T hT K
      obtain ⟨⟨R, r1, r2⟩, fr⟩ := hT
      show wpb_L_due_225 _ _ _ _ _ _ _ (nI (drF v y).length) T
      unfold wpb_L_due_225 wpk_L_due_346
      have k4 : AF T (la 4) 8 (nF v) := (hS1 fr).2.2.2.2.2.1
      refine wq_n k4 hy (br_t (Int32.le_refl _) (wq_n k4 hy ?_))
      rw [← trn_len (drF v y)] at hP r2 ⊢
      refine wq_346 hv (hS1 fr) ha (trn_ok (hv.2.2.2.2 y hy)) r1 r2 (nq 4 (by decide)) (nq 5 (by decide)) (fun S' h' f' => hP S' h' (fun b hb hb2 => ?_))
      have bq := ne_new hb hq
      rw [f' b (h.far (by decide) hb2) (h.far (by decide) hb2), fr b bq, f1 b bq]
    · intro k T hk hT K hK
      obtain ⟨⟨R, r1, r2⟩, fr⟩ := hT
      show wpb_L_due_225 _ _ _ _ _ _ _ (nI k) T
      unfold wpb_L_due_225
      have k4 : AF T (la 4) 8 (nF v) := (hS1 fr).2.2.2.2.2.1
      have k5 : AN T (la 5) 18 (dF v) := (hS1 fr).2.2.2.2.2.2.1
      refine wq_n k4 hy (br_f (nI_ge hk (by omega)) (wq_n k4 hy ?_))
      rw [pk_sub (by omega), pk_sub (by omega)]
      have hp := (hv.2.2.2.2 y hy).2 ((drF v y).length - 1 - k) (by omega)
      have eg := trn_get hk
      refine wq_pressAt hv hy (by omega) k5 (br_c (fun c => ?_) (fun c => ?_))
      · rw [nI_leI (by decide) (by omega)] at c
        rw [pk_sub c]
        refine r1.set (by omega) (fun T' d1 d2 => ?_)
        intro i54 e54
        rw [e54, nI_add]
        refine hK _ ⟨⟨_, d1, fun j hj => ?_⟩, fun b hb => (d2 b hb).trans (fr b hb)⟩
        by_cases g : j = k
        · rw [if_pos g, g, eg]
          congr 1; omega
        · rw [if_neg g]; exact r2 j (by omega)
      · rw [nI_leI (by decide) (by omega)] at c
        rw [nI_add]
        refine r1.set (by omega) (fun T' d1 d2 => ?_)
        intro i54 e54
        rw [e54, nI_add]
        refine hK _ ⟨⟨_, d1, fun j hj => ?_⟩, fun b hb => (d2 b hb).trans (fr b hb)⟩
        by_cases g : j = k
        · rw [if_pos g, g, eg]
          congr 1; omega
        · rw [if_neg g]; exact r2 j (by omega)
  · refine br_f (by decide) (br_f (by decide) (br_f (by decide) (br_f (by decide) (br_f (by decide) (br_f (by decide) (br_f (by decide) ?_))))))
    refine wq_n h4 hy ?_
    intro i67 e67
    have ly := (hv.2.2.2.2 y hy).1
    have hb : (drF v y).length * z ≤ 24 * 24 := Nat.mul_le_mul ly hz
    rw [e67, pk_mul, Nat.mul_comm z]
    unfold wpk_L_due_198
    rw [cF5 (by omega) (by omega)] at hP hv'
    by_cases hl : (drF v y).length * z ≤ 24
    · rw [if_pos hl] at hP hv'
      refine br_t (nI_le hl (by decide)) (nw_AF (by decide) (fun q S1 hq hq1 f1 => br_f (by decide) ?_))
      have hS1 : ∀ {T : PS}, (∀ b, b ≠ q → T b = S1 b) → LWo T tg x la v := fun hT => h.tmp hq (fun b hb hb2 => (hT b hb2).trans (f1 b hb2))
      have nq : ∀ i, i < 7 → la i ≠ q := fun i hi => h.new hi hq
      refine wpL_for z (fun k t => (∃ R, t.1 = nI (rpt (drF v y) k).length ∧ AF t.2 q 24 R ∧ (∀ j, j < (rpt (drF v y) k).length → R j = nI ((rpt (drF v y) k).getD j 0))) ∧ ∀ b, b ≠ q → t.2 b = S1 b) ⟨⟨_, rfl, hq1, fun j hj => absurd hj (Nat.not_lt_zero _)⟩, fun _ _ => rfl⟩ ?_ ?_
      · intro t ht K
        obtain ⟨m, T⟩ := t
        obtain ⟨⟨R, e1, r1, r2⟩, fr⟩ := ht
        have e1 : m = nI (rpt (drF v y) z).length := e1
        subst e1
        have fr : ∀ b, b ≠ q → T b = S1 b := fr
        have r1 : AF T q 24 R := r1
        show wpb_L_due_294 _ _ _ _ _ _ _ _ _ (nI z) (nI (rpt (drF v y) z).length) T
        unfold wpb_L_due_294 wpk_L_due_346
        have hok := rpt_ok (hv.2.2.2.2 y hy) z hl
        rw [← rpt_len (drF v y) z] at hP
        refine br_f (by decide) (br_t (Int32.le_refl _) (wq_346 hv (hS1 fr) ha hok r1 r2 (nq 4 (by decide)) (nq 5 (by decide)) (fun S' h' f' => hP S' h' (fun b hb hb2 => ?_))))
        have bq := ne_new hb hq
        rw [f' b (h.far (by decide) hb2) (h.far (by decide) hb2), fr b bq, f1 b bq]
      · intro k t hk ht K hK
        obtain ⟨m, T⟩ := t
        obtain ⟨⟨R, e1, r1, r2⟩, fr⟩ := ht
        have e1 : m = nI (rpt (drF v y) k).length := e1
        subst e1
        have fr : ∀ b, b ≠ q → T b = S1 b := fr
        have r1 : AF T q 24 R := r1
        show wpb_L_due_294 _ _ _ _ _ _ _ _ _ (nI k) (nI (rpt (drF v y) k).length) T
        unfold wpb_L_due_294 wpk_L_due_310
        have hle : (rpt (drF v y) k).length + (drF v y).length ≤ 24 := by
          rw [rpt_len, ← Nat.mul_succ]
          exact Nat.le_trans (Nat.mul_le_mul_left _ hk) hl
        refine br_f (by decide) (br_f (nI_ge hk (by omega)) (br_f (by decide) (wq_puts hv (hS1 fr) hy r1 r2 hle (nq 4 (by decide)) (nq 5 (by decide)) (fun S' R' r1' r2' f' => ?_))))
        intro i e
        rw [e, nI_add, nI_add]
        refine hK _ ⟨⟨R', ?_, r1', r2'⟩, fun b hb => (f' b hb).trans (fr b hb)⟩
        show nI _ = nI (rpt (drF v y) k ++ drF v y).length
        rw [List.length_append]
    · rw [if_neg hl] at hP hv'
      exact br_f (nI_ge (by omega) (by omega)) (hP S h (fun _ _ _ => rfl))
  · refine br_f (by decide) (br_f (by decide) (br_f (by decide) (br_t rfl ?_)))
    rw [cF6 (by omega)] at hP hv'
    refine nw_AF (by decide) (fun q S1 hq hq1 f1 => ?_)
    have hS1 : LWo S1 tg x la v := h.tmp hq (fun b _ hb2 => f1 b hb2)
    have nq : ∀ i, i < 7 → la i ≠ q := fun i hi => h.new hi hq
    have hto := pmWyl v (drF v a)
    refine wq_lay hv ha hS1.2.1 hS1.2.2.1 hS1.2.2.2.2.2.1 hS1.2.2.2.2.2.2.1 hq1 (Ne.symm (nq 0 (by decide))) (Ne.symm (nq 1 (by decide))) (Ne.symm (nq 4 (by decide))) (Ne.symm (nq 5 (by decide))) (fun S2 d2 f2 => ?_)
    have hS2 : LWo S2 tg x la v := h.tmp hq (fun b hb hb2 => (f2 b (by rw [f1 b hb2]; exact hb) hb2).trans (f1 b hb2))
    have liv2 : ∀ b, S b ≠ oJ → S2 b = S b := fun b hb => by
      have bq := ne_new hb hq
      rw [f2 b (by rw [f1 b bq]; exact hb) bq, f1 b bq]
    refine wpL_fromB u (fun k T => AN T (la 2) 12 (mv (thF v) (itr (wyl v (drF v a)) k)) ∧ ∀ b, S2 b ≠ oJ → b ≠ la 2 → T b = S2 b) (Nat.zero_le _) (by omega) ⟨hS2.2.2.2.1.ext (fun p hp => ?_), fun _ _ _ => rfl⟩ ?_ ?_
    · have := mv_at (f := thF v) PM.id hp
      show nI (thF v p) = nI (mv (thF v) (fun p => p) p)
      rw [this]
    · intro T hT K
      obtain ⟨a1, a2⟩ := hT
      show wpb_L_due_91 _ _ _ _ _ _ _ (nI u) T
      unfold wpb_L_due_91
      have o : ∀ {T' : PS} {i j : Nat}, i < 7 → j < 7 → (∀ b, b ≠ la i → T' b = T b) → j ≠ i → T' (la j) = T (la j) := fun hi hj f n => f _ (h.ne hj hi n)
      have o2 : ∀ j, j < 7 → j ≠ 2 → T (la j) = S2 (la j) := fun j hj n => a2 _ (hS2.live hj) (h.ne hj (by decide) n)
      have k4 : AF T (la 4) 8 (nF v) := hS2.2.2.2.2.2.1.fr (o2 4 (by decide) (by decide))
      refine br_t (Int32.le_refl _) (k4.get (k := 6) (by decide) (wq_n k4 ha (k4.set (k := 6) (by decide) (fun T1 d3 f3 => ?_))))
      refine d3.get (k := 7) (by decide) (d3.set (k := 7) (by decide) (fun T2 d4 f4 => ?_))
      have o3 : ∀ j, j < 7 → j ≠ 4 → T2 (la j) = T (la j) := fun j hj n => (f4 _ (h.ne hj (by decide) n)).trans (f3 _ (h.ne hj (by decide) n))
      have w2 : AN T2 (la 2) 12 (thF (wvn v a u)) := a1.fr (o3 2 (by decide) (by decide))
      refine wq_home w2 (mv_lt hv.2.2.1.1 (hto.it u)) ?_
      have o4 : ∀ j, j < 7 → j ≠ 2 → j ≠ 4 → T2 (la j) = S2 (la j) := fun j hj n n2 => (o3 j hj n2).trans (o2 j hj n)
      obtain ⟨-, c0, c1, -, c3, -, c5, R7, c6⟩ := hS2
      refine hP T2 ⟨t, c0.fr (o4 0 (by decide) (by decide) (by decide)), c1.fr (o4 1 (by decide) (by decide) (by decide)), w2, c3.fr (o4 3 (by decide) (by decide) (by decide)), d4.ext (fun k hk => ?_), c5.fr (o4 5 (by decide) (by decide) (by decide)), R7, c6.fr (o4 6 (by decide) (by decide) (by decide))⟩ (fun b hb hb2 => ?_)
      · show (if k = 7 then (if 7 = 6 then nF v 6 + nI u * nI (drF v a).length else nF v 7) + nI u else if k = 6 then nF v 6 + nI u * nI (drF v a).length else nF v k) = (if k < 6 then nI (drF v k).length else if k = 6 then pdF v + nI (drF v a).length * nI u else pkF v + nI u)
        rw [nF6, nF7, Int32.mul_comm (nI u)]
        by_cases g : k = 7
        · rw [if_pos g, if_neg (by decide), if_neg (by omega), if_neg (by omega)]
        · by_cases g2 : k = 6
          · rw [if_neg g, if_pos g2, if_neg (by omega), if_pos g2]
          · rw [if_neg g, if_neg g2, if_pos (by omega)]
            unfold nF
            rw [if_pos (by omega)]
      · have n2 := h.far (i := 2) (by decide) hb2
        have n4 := h.far (i := 4) (by decide) hb2
        have l2 := liv2 b hb
        rw [f4 b n4, f3 b n4, a2 b (by rw [l2]; exact hb) n2, l2]
    · intro k T hk hT K hK
      obtain ⟨a1, a2⟩ := hT
      show wpb_L_due_91 _ _ _ _ _ _ _ (nI k) T
      unfold wpb_L_due_91
      have dq : AN T q 12 (wyl v (drF v a)) := d2.fr (a2 q d2.live (Ne.symm (nq 2 (by decide))))
      refine br_f (nI_ge hk (by omega)) (wq_weaves (w' := mv (thF v) (itr (wyl v (drF v a)) (k + 1))) dq a1 (Ne.symm (nq 2 (by decide))) hto (fun p hp => ?_) (fun T' d3 f3 => ?_))
      · have e1 := mv_mv (f := thF v) (hto.it k) hto (hto.1 p hp)
        have e2 : mv (mv (thF v) (itr (wyl v (drF v a)) k)) (wyl v (drF v a)) (wyl v (drF v a) p) = mv (thF v) (itr (wyl v (drF v a)) k) p := mv_at hto hp
        rw [e2] at e1
        exact e1.symm
      · intro i117 e117
        rw [e117, nI_add]
        exact hK _ ⟨d3, fun b hb hb2 => (f3 b (by rw [a2 b hb hb2]; exact hb) hb2).trans (a2 b hb hb2)⟩
  · rw [cF7 (by omega)] at hP hv' ⊢
    refine br_f (by decide) (br_f (by decide) (br_f (by decide) (br_f (by decide) (br_t rfl (h3.get ha (h3.set ha (fun S1 d1 f1 => ?_)))))))
    have o : ∀ j, j < 7 → j ≠ 3 → S1 (la j) = S (la j) := fun j hj n => one (i := 3) (by decide) hj f1 n
    refine hP S1 ⟨t, h0.fr (o 0 (by decide) (by decide)), h1.fr (o 1 (by decide) (by decide)), h2.fr (o 2 (by decide) (by decide)), d1.ext (fun k _ => ?_), h4.fr (o 4 (by decide) (by decide)), h5.fr (o 5 (by decide) (by decide)), R6, h6.fr (o 6 (by decide) (by decide))⟩ (lk (i := 3) (by decide) f1)
    show _ = nI (if k = a then c else coF v k)
    by_cases g : k = a
    · rw [if_pos g, if_pos g]
    · rw [if_neg g, if_neg g]
end LF
