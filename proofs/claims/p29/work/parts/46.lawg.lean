/-! ===== the law's own look at a draft ===== -/
theorem sm_swap (f : Nat → Nat → Nat) (m : Nat) : ∀ n, fb_sm (fun i => fb_sm (fun j => f i j) m) n = fb_sm (fun j => fb_sm (fun i => f i j) n) m
  | 0 => by
    have e : fb_sm (fun j => fb_sm (fun i => f i j) 0) m = fb_sm (fun _ => 0) m := fb_sm_cong fun _ _ => rfl
    rw [e, fb_sm_const, Nat.mul_zero]; rfl
  | n + 1 => by
    have e : fb_sm (fun j => fb_sm (fun i => f i j) (n + 1)) m = fb_sm (fun j => fb_sm (fun i => f i j) n + f n j) m := fb_sm_cong fun _ _ => rfl
    rw [fb_sm_succ, sm_swap f m n, e, fb_sm_add]
theorem ct_sm (P : Nat → Bool) : ∀ n, fb_ct P n = fb_sm (fun k => if P k then 1 else 0) n
  | 0 => rfl
  | n + 1 => by rw [fb_ct_succ, fb_sm_succ, ct_sm P n]
/-- pairs that cross, the right one of each counted: up to place k -/
def crk (w : Nat → Nat) (k : Nat) : Nat := fb_sm (fun p => fb_ct (fun e => decide (w p < w e)) p) k
theorem ct_cut (R : Nat → Bool) {p : Nat} : ∀ {n : Nat}, p ≤ n → fb_ct (fun e => decide (e < p) && R e) n = fb_ct R p
  | 0, h => by
    have : p = 0 := by omega
    subst this; rfl
  | n + 1, h => by
    by_cases c : p = n + 1
    · subst c
      exact fb_ct_cong fun k hk => by simp [hk]
    · rw [fb_ct_succ, ct_cut R (show p ≤ n by omega)]
      have : ¬ n < p := by omega
      simp [this]
theorem crk_crs (w : Nat → Nat) : crk w 12 = crs w := by
  unfold crk crs
  have e1 : fb_sm (fun p => fb_ct (fun e => decide (w p < w e)) p) 12 = fb_sm (fun p => fb_sm (fun e => if (decide (e < p) && decide (w p < w e)) = true then 1 else 0) 12) 12 := fb_sm_cong fun p hp => by
    rw [← ct_cut (fun e => decide (w p < w e)) (show p ≤ 12 by omega), ct_sm]
  rw [e1, sm_swap]
  exact fb_sm_cong fun p hp => (ct_sm _ 12).symm
theorem crk_le (w : Nat → Nat) : ∀ k, k ≤ 12 → crk w k ≤ 12 * k
  | 0, _ => Nat.le_refl _
  | k + 1, h => by
    have h1 := crk_le w k (by omega)
    have h2 := fb_ct_le (fun e => decide (w k < w e)) k
    have e : crk w (k + 1) = crk w k + fb_ct (fun e => decide (w k < w e)) k := rfl
    omega
/-! isFirst: no place of the cycle lies further left -/
def fst1 (w : Nat → Nat) (p m : Nat) : Bool := (List.range m).all (fun j => decide (j = 0) || decide (p < itr w j p))
theorem fst1_succ (w : Nat → Nat) (p m : Nat) : fst1 w p (m + 1) = (fst1 w p m && (decide (m = 0) || decide (p < itr w m p))) := by
  unfold fst1
  rw [List.range_succ, List.all_append]
  simp
theorem fst1_low {w : Nat → Nat} (hw : PM w) {p : Nat} (hp : p < 12) : fst1 w p (cyc w p) = low w p := by
  obtain ⟨c1, c2, c3, c4⟩ := cyc_spec hw hp
  rw [Bool.eq_iff_iff]
  unfold fst1 low
  rw [List.all_eq_true, List.all_eq_true]
  constructor
  · intro h q hq
    have hq := List.mem_range.mp hq
    cases e : orb w p q with
    | false => rfl
    | true =>
      obtain ⟨j, hj, ej⟩ := (orb_iff hw hp q).mp e
      have := h j (List.mem_range.mpr hj)
      rcases Nat.eq_zero_or_pos j with z | z
      · subst z
        have ej : p = q := ej
        omega
      · rw [ej] at this
        simp at this
        omega
  · intro h j hj
    have hj := List.mem_range.mp hj
    rcases Nat.eq_zero_or_pos j with z | z
    · subst z; simp
    · have h1 : ¬ itr w j p < p := fun c => by
        have := h (itr w j p) (List.mem_range.mpr c)
        rw [(orb_iff hw hp _).mpr ⟨j, hj, rfl⟩] at this
        cases this
      have h2 := c4 j z hj
      simp; omega
theorem cyc_1 {w : Nat → Nat} (hw : PM w) {p : Nat} (hp : p < 12) : cyc w p = 1 ↔ w p = p := by
  obtain ⟨c1, c2, c3, c4⟩ := cyc_spec hw hp
  constructor
  · intro e
    rw [e] at c3; exact c3
  · intro e
    rcases Nat.lt_or_ge 1 (cyc w p) with z | z
    · exact absurd (show itr w 1 p = p from e) (c4 1 (Nat.le_refl _) z)
    · omega
/-! what the law finds of the way home: after k weavings -/
def unt (w th : Nat → Nat) (k : Nat) (i : Int32) : Prop := (∃ t, t ≤ k ∧ UH w th t ∧ (∀ j, j < t → ¬ UH w th j) ∧ i = nI t) ∨ ((∀ j, j ≤ k → ¬ UH w th j) ∧ i = -6)
def ckv (T k : Nat) : Int32 := if T ≤ k then nI T else nI 0
theorem uh_now {w th : Nat → Nat} (hw : PM w) (k : Nat) : fb_ct (fun p => mv th (itr w k) p == p) 12 = 12 ↔ UH w th k := by
  rw [fb_ct_all]
  unfold UH
  constructor
  · intro h p hp
    have := h (itr w k p) ((hw.it k).1 p hp)
    have e : mv th (itr w k) (itr w k p) = itr w k p := by simpa using this
    rw [mv_at (hw.it k) hp] at e
    exact e.symm
  · intro h q hq
    obtain ⟨p, hp, e⟩ := (hw.it k).onto hq
    have : mv th (itr w k) q = q := by rw [← e, mv_at (hw.it k) hp, h p hp]
    simp [this]
theorem all_now {g h : Nat → Nat} : (List.range 12).all (fun q => g q == h q) = true ↔ ∀ q, q < 12 → g q = h q := eqW_iff
theorem back_now {w th : Nat → Nat} (hw : PM w) (ht : PM th) (k : Nat) : eqW (mv th (itr w k)) th = true ↔ ∀ p, p < 12 → itr w k p = p := by
  rw [eqW_iff, mv_same (hw.it k)]
  exact ⟨fun h p hp => ht.2 _ _ ((hw.it k).1 p hp) hp (h p hp), fun h p hp => by rw [h p hp]⟩
theorem cloth_now {w : Nat → Nat} {v : LM} (hw : PM w) (k : Nat) : eqW (fun q => coF v (mv (thF v) (itr w k) q)) (cbp v) = true ↔ ∀ p, p < 12 → cbp v (itr w k p) = cbp v p := by
  rw [eqW_iff]
  exact mv_same (f := cbp v) (hw.it k)
theorem tua_le (f : Nat → Nat) {w : Nat → Nat} (hw : PM w) : tua f w ≤ tua (fun p => p) w := by
  obtain ⟨a1, a2, a3, a4⟩ := tua_spec f hw
  obtain ⟨b1, b2, b3, b4⟩ := tua_spec (fun p => p) hw
  rcases Nat.lt_or_ge (tua (fun p => p) w) (tua f w) with z | z
  · exact absurd (fun p hp => by rw [b3 p hp]) (a4 _ b1 z)
  · exact z
theorem unt_end {w th : Nat → Nat} (hw : PM w) {i : Int32} (h : unt w th (tua (fun p => p) w) i) : (∃ t, t < 60 ∧ UH w th t ∧ (∀ j, j < t → ¬ UH w th j) ∧ i = nI t) ∨ ((∀ j, j < 60 → ¬ UH w th j) ∧ i = -6) := by
  obtain ⟨b1, b2, b3, b4⟩ := tua_spec (fun p => p) hw
  have red : ∀ j, UH w th j → UH w th (j % tua (fun p => p) w) := fun j h p hp => by
    rw [← itr_rem (b3 p hp) j]; exact h p hp
  rcases h with ⟨t, h1, h2, h3, h4⟩ | ⟨h1, h2⟩
  · refine Or.inl ⟨t, ?_, h2, h3, h4⟩
    have hm := Nat.mod_lt t b1
    rcases Nat.lt_or_ge t (tua (fun p => p) w) with z | z
    · omega
    · exact absurd (red t h2) (h3 _ (by omega))
  · refine Or.inr ⟨fun j _ c => ?_, h2⟩
    have hm := Nat.mod_lt j b1
    exact h1 _ (by omega) (red j c)
theorem all_succ (g : Nat → Bool) (k : Nat) : (List.range (k + 1)).all g = ((List.range k).all g && g k) := by
  rw [List.range_succ, List.all_append]
  simp
theorem b2_0 (b : Bool) : nI (b2 b) = 0 ↔ b = false := by cases b <;> decide
section LG
variable {S S' : PS} {tg tg' : Nat → Nat × Nat} {x : Nat} {ad : Nat → Nat} {f g : Nat → Option Nat} {v : LM} {hist : List LM} {sl : Nat → Option LM} {pad : List Nat} {P : Int32 → Prop} {Q : Int32 → PS → Prop} {d : Nat} {la : Nat → Nat}
theorem tk_draft0 (h : TkF S tg x ad f g v hist sl pad) (hd : d < 6) (hP : P (nI (drF v d).length)) : wp_X7_draft S x (nI d) (nI 0) P := tk_draft h hd (fun c => absurd c (by decide)) (fun _ => hP) (fun c => absurd c (by decide)) (fun c => absurd c (by decide)) (fun c => absurd c (by decide)) (fun c => absurd c (by decide)) (fun c => absurd c (by decide)) (fun c => absurd c (by decide))
theorem tk_draft1 (h : TkF S tg x ad f g v hist sl pad) (hd : d < 6) (hP : P (nI (tua (fun p => p) (wy v d)))) : wp_X7_draft S x (nI d) (nI 1) P := tk_draft h hd (fun c => absurd c (by decide)) (fun c => absurd c (by decide)) (fun _ => hP) (fun c => absurd c (by decide)) (fun c => absurd c (by decide)) (fun c => absurd c (by decide)) (fun c => absurd c (by decide)) (fun c => absurd c (by decide))
theorem tk_draft2 (h : TkF S tg x ad f g v hist sl pad) (hd : d < 6) (hP : P (nI (bs (fun p => wy v d p == p) 12))) : wp_X7_draft S x (nI d) (nI 2) P := tk_draft h hd (fun c => absurd c (by decide)) (fun c => absurd c (by decide)) (fun c => absurd c (by decide)) (fun _ => hP) (fun c => absurd c (by decide)) (fun c => absurd c (by decide)) (fun c => absurd c (by decide)) (fun c => absurd c (by decide))
theorem tk_draft3 (h : TkF S tg x ad f g v hist sl pad) (hd : d < 6) (hP : P (nI (cys (wy v d)))) : wp_X7_draft S x (nI d) (nI 3) P := tk_draft h hd (fun c => absurd c (by decide)) (fun c => absurd c (by decide)) (fun c => absurd c (by decide)) (fun c => absurd c (by decide)) (fun _ => hP) (fun c => absurd c (by decide)) (fun c => absurd c (by decide)) (fun c => absurd c (by decide))
theorem tk_draft4 (h : TkF S tg x ad f g v hist sl pad) (hd : d < 6) (hP : P (nI (lng (wy v d)))) : wp_X7_draft S x (nI d) (nI 4) P := tk_draft h hd (fun c => absurd c (by decide)) (fun c => absurd c (by decide)) (fun c => absurd c (by decide)) (fun c => absurd c (by decide)) (fun c => absurd c (by decide)) (fun _ => hP) (fun c => absurd c (by decide)) (fun c => absurd c (by decide))
theorem tk_draft5 (h : TkF S tg x ad f g v hist sl pad) (hd : d < 6) (hP : P (nI (crs (wy v d)))) : wp_X7_draft S x (nI d) (nI 5) P := tk_draft h hd (fun c => absurd c (by decide)) (fun c => absurd c (by decide)) (fun c => absurd c (by decide)) (fun c => absurd c (by decide)) (fun c => absurd c (by decide)) (fun c => absurd c (by decide)) (fun _ => hP) (fun c => absurd c (by decide))
theorem tk_draft6 (h : TkF S tg x ad f g v hist sl pad) (hd : d < 6) (hP : P (nI (tua (cbp v) (wy v d)))) : wp_X7_draft S x (nI d) (nI 6) P := tk_draft h hd (fun c => absurd c (by decide)) (fun c => absurd c (by decide)) (fun c => absurd c (by decide)) (fun c => absurd c (by decide)) (fun c => absurd c (by decide)) (fun c => absurd c (by decide)) (fun c => absurd c (by decide)) (fun _ => hP)
theorem wq_587 {an dn : Nat} (h : TkF S tg x ad f g v hist sl pad) (hn : AF S an 8 (nF v)) (hdn : AN S dn 18 (dF v)) (hd : d < 6) (hQ : Q (nI 1) S) : wpk_L_isDraft_587 x (nI d) an dn S Q (nI 1) := by
  have okv := h.2.2.2.1.1
  have hx := h.2.1
  have h24 := (okv.2.2.2.2 d hd).1
  unfold wpk_L_isDraft_587
  refine wpL_for (drF v d).length (fun k t => t = nI 1) rfl ?_ ?_
  · intro t ht K
    show wpb_L_isDraft_590 _ _ _ _ _ _ _ (nI (drF v d).length) t
    unfold wpb_L_isDraft_590
    refine wq_n hn hd (br_t (Int32.le_refl _) (br_f (by rw [ht]; exact n1z) (wq_n hn hd (rc_of hx (tk_press_no2 h hd (Or.inr (Int32.le_refl _)) (br_t rfl (rc_of hx (tk_press_no2 h hd (Or.inl (by decide)) (br_t rfl hQ)))))))))
  · intro k t hk ht K hK
    show wpb_L_isDraft_590 _ _ _ _ _ _ _ (nI k) t
    unfold wpb_L_isDraft_590
    refine wq_n hn hd (br_f (nI_ge hk (by omega)) (br_f (by rw [ht]; exact n1z) (rc_of hx (tk_press h hd hk (wq_pressAt okv hd hk hdn (br_t rfl ?_))))))
    unfold wpk_L_isDraft_629
    intro i56 e56
    rw [e56, nI_add]
    exact hK _ rfl
theorem wq_428 {an dn a1 : Nat} {y i7 i8 i12 i13 i17 i18 i19 : Int32} (h : TkF S tg x ad f g v hist sl pad) (hn : AF S an 8 (nF v)) (hdn : AN S dn 18 (dF v)) (h1 : AN S a1 12 (wy v d)) (hd : d < 6) (e7 : i7 = nI (crs (wy v d))) (e8 : i8 = nI (bs (fun p => wy v d p == p) 12)) (e12 : i12 = nI (lng (wy v d))) (e13 : i13 = nI (cys (wy v d))) (e17 : i17 = nI (tua (cbp v) (wy v d))) (e18 : i18 = nI (tua (fun p => p) (wy v d))) (e19 : (∃ t, t < 60 ∧ UH (wy v d) (thF v) t ∧ (∀ j, j < t → ¬ UH (wy v d) (thF v) j) ∧ i19 = nI t) ∨ ((∀ j, j < 60 → ¬ UH (wy v d) (thF v) j) ∧ i19 = -6)) (hQ : Q (nI 1) S) : wpk_L_isDraft_428 x (nI d) y an dn a1 i7 i8 i12 i13 Q i17 i18 i19 S := by
  have hx := h.2.1
  have hw := pmWy v d
  obtain ⟨b1, b2, b3, b4⟩ := tua_spec (fun p => p) hw
  unfold wpk_L_isDraft_428
  have em : (1000001 : Int32) = nI 1000001 := rfl
  rw [em]
  have l1 := lw_lt (x := y) (n := 12) (by decide)
  have l2 := lw_lt (x := y >>> (nI 4 &&& 31)) (n := 1000001) (by decide)
  refine wq_low (by decide) (by decide) (wq_low (by decide) (by decide) ?_)
  generalize lw y 12 = pl at l1 ⊢
  generalize lw (y >>> (nI 4 &&& 31)) 1000001 = tm at l2 ⊢
  have hm := Nat.mod_lt tm b1
  have er : nI tm - nI tm / i18 * i18 = nI (tm % tua (fun p => p) (wy v d)) := by rw [e18]; exact pk_rem (by omega) b1 (by omega)
  refine wpL_for (tm % tua (fun p => p) (wy v d)) (fun k t => t = nI (itr (wy v d) k pl)) rfl ?_ ?_
  · intro t ht K
    show wpb_L_isDraft_453 _ _ _ _ _ _ _ _ _ _ _ _ _ _ _ _ _ (nI (tm % tua (fun p => p) (wy v d))) t
    unfold wpb_L_isDraft_453
    refine ⟨by rw [e18]; exact nI_ne0 b1 (by omega), br_t (by rw [er]; exact Int32.le_refl _) ?_⟩
    refine rc_of hx (tk_draft0 h hd (wq_n hn hd (br_t rfl ?_)))
    refine rc_of hx (tk_draft1 h hd (br_t e18.symm ?_))
    refine rc_of hx (tk_draft2 h hd (br_t e8.symm ?_))
    refine rc_of hx (tk_draft3 h hd (br_t e13.symm ?_))
    refine rc_of hx (tk_draft4 h hd (br_t e12.symm ?_))
    refine rc_of hx (tk_draft5 h hd (br_t e7.symm ?_))
    refine rc_of hx (tk_draft6 h hd (br_t e17.symm ?_))
    have fin : rc S x 5 (wp_X7_comesTo S x (nI d) (nI pl) (nI tm) (fun i93 => (i93 = t → wpk_L_isDraft_587 x (nI d) an dn S Q (nI 1)) ∧ (¬ i93 = t → wpk_L_isDraft_587 x (nI d) an dn S Q (nI 0)))) := by
      refine rc_of hx (tk_comesTo h hd l1 (by omega) (br_t ?_ (wq_587 h hn hdn hd hQ)))
      rw [ht, ← itr_rem (b3 pl l1) tm]
    rcases e19 with ⟨u, u1, u2, u3, u4⟩ | ⟨u1, u2⟩
    · exact rc_of hx (tk_untilHome h hd u1 u2 u3 (br_t u4.symm fin))
    · exact rc_of hx (tk_untilHome_none h hd u1 (br_t u2.symm fin))
  · intro k t hk ht K hK
    show wpb_L_isDraft_453 _ _ _ _ _ _ _ _ _ _ _ _ _ _ _ _ _ (nI k) t
    unfold wpb_L_isDraft_453
    refine ⟨by rw [e18]; exact nI_ne0 b1 (by omega), br_f (by rw [er]; exact nI_ge hk (by omega)) ?_⟩
    rw [ht]
    refine h1.get ((hw.it k).1 pl l1) ?_
    intro i101 e101
    rw [e101, nI_add]
    exact hK _ rfl
/-- one more weaving: is it back, is it the cloth again, is all home -/
theorem wq_294 {a3 : Nat} {kk : Nat} {K266 : (Int32 × Int32 × Int32 × Int32 × Int32 × PS) → Prop} {i107 : Int32} (hv : okL v) (hL : LWo S tg x la v) (hw : PM (wy v d)) (h3 : AN S a3 12 (mv (thF v) (itr (wy v d) kk))) (hk1 : 1 ≤ kk) (hk : kk ≤ tua (fun p => p) (wy v d)) (hu : unt (wy v d) (thF v) (kk - 1) i107)
    (hK : ∀ i, unt (wy v d) (thF v) kk i → K266 (nI (kk + 1), (if kk = tua (fun p => p) (wy v d) then nI 1 else nI 0), ckv (tua (cbp v) (wy v d)) kk, ckv (tua (fun p => p) (wy v d)) kk, i, S)) : ∃ n : Nat, wpL (fun (K294 : (Int32 × Int32 × Int32) → Prop) (q : Int32 × Int32 × Int32) => wpb_L_isDraft_294 (la 2) (la 3) a3 (nI kk) (ckv (tua (cbp v) (wy v d)) (kk - 1)) (ckv (tua (fun p => p) (wy v d)) (kk - 1)) i107 S K266 K294 q.1 q.2.1 q.2.2) n ((nI 0), (nI 1), (nI 1)) := by
  obtain ⟨tt, -, -, hth, hco, -⟩ := hL
  have ht := hv.2.2.1
  have hnow := mv_PM ht (hw.it kk)
  obtain ⟨b1, b2', b3, b4⟩ := tua_spec (fun p => p) hw
  obtain ⟨c1, c2, c3, c4⟩ := tua_spec (cbp v) hw
  have hcT := tua_le (cbp v) hw
  generalize hN : mv (thF v) (itr (wy v d) kk) = now at h3 hnow
  refine wpL_for 12 (fun p t => t = (nI (b2 ((List.range p).all (fun q => coF v (now q) == coF v (thF v q)))), nI (b2 ((List.range p).all (fun q => now q == thF v q))))) rfl ?_ ?_
  · rintro t rfl K
    show wpb_L_isDraft_294 _ _ _ _ _ _ _ _ _ _ (nI 12) (nI (b2 (eqW (fun q => coF v (now q)) (cbp v)))) (nI (b2 (eqW now (thF v))))
    unfold wpb_L_isDraft_294
    refine br_t (nle_re 12) ?_
    have eB : eqW now (thF v) = true ↔ kk = tua (fun p => p) (wy v d) := by
      rw [← hN, back_now hw ht kk]
      constructor
      · intro hh
        rcases Nat.lt_or_ge kk (tua (fun p => p) (wy v d)) with z | z
        · exact absurd hh (b4 kk hk1 z)
        · omega
      · intro e; rw [e]; exact b3
    have eC : eqW (fun q => coF v (now q)) (cbp v) = true ↔ ∀ p, p < 12 → cbp v (itr (wy v d) kk p) = cbp v p := by rw [← hN]; exact cloth_now hw kk
    have eH : fb_ct (fun p => now p == p) 12 = 12 ↔ UH (wy v d) (thF v) kk := by rw [← hN]; exact uh_now hw kk
    have hle := fb_ct_le (fun p => now p == p) 12
    -- until
    have tail : ∀ i114 i116 i117, (∀ i, unt (wy v d) (thF v) kk i → K266 (nI (kk + 1), i114, i117, i116, i, S)) → wpk_L_isDraft_396 a3 (nI kk) i107 S i114 i116 K266 i117 := fun i114 i116 i117 hK2 => by
      unfold wpk_L_isDraft_396 wpk_L_isDraft_422
      refine br_c (fun c => ?_) (fun c => ?_)
      · refine wq_home h3 hnow.1 (br_c (fun q => ?_) (fun q => ?_))
        · rw [nI_eq (by omega) (by decide)] at q
          intro i119 e119
          rw [e119, nI_add]
          refine hK2 _ (Or.inl ⟨kk, Nat.le_refl _, eH.mp q, ?_, rfl⟩)
          rcases hu with ⟨t, t1, t2, t3, t4⟩ | ⟨t1, -⟩
          · rw [t4] at c
            have h0 : (0 : Int32) ≤ nI t := nI_pos' (by omega)
            rw [c] at h0
            exact absurd h0 (by decide)
          · exact fun j hj => t1 j (by omega)
        · rw [nI_eq (by omega) (by decide)] at q
          intro i119 e119
          rw [e119, nI_add]
          refine hK2 _ (Or.inr ⟨?_, c⟩)
          rcases hu with ⟨t, t1, t2, t3, t4⟩ | ⟨t1, -⟩
          · rw [t4] at c
            have h0 : (0 : Int32) ≤ nI t := nI_pos' (by omega)
            rw [c] at h0
            exact absurd h0 (by decide)
          · intro j hj
            by_cases z : j = kk
            · rw [z]; exact fun y => q (eH.mpr y)
            · exact t1 j (by omega)
      · intro i119 e119
        rw [e119, nI_add]
        refine hK2 _ ?_
        rcases hu with ⟨t, t1, t2, t3, t4⟩ | ⟨t1, t2⟩
        · exact Or.inl ⟨t, by omega, t2, t3, t4⟩
        · exact absurd t2 c
    -- the cloth
    have cl : ∀ i114 i116, (∀ i, unt (wy v d) (thF v) kk i → K266 (nI (kk + 1), i114, ckv (tua (cbp v) (wy v d)) kk, i116, i, S)) → wpk_L_isDraft_377 a3 (nI kk) (ckv (tua (cbp v) (wy v d)) (kk - 1)) i107 S (nI (b2 (eqW (fun q => coF v (now q)) (cbp v)))) i114 K266 i116 := fun i114 i116 hK2 => by
      unfold wpk_L_isDraft_377
      rw [b2_0]
      refine br_c (fun c => ?_) (fun c => ?_)
      · refine tail _ _ _ ?_
        have e : ckv (tua (cbp v) (wy v d)) (kk - 1) = ckv (tua (cbp v) (wy v d)) kk := by
          unfold ckv
          by_cases z : tua (cbp v) (wy v d) ≤ kk - 1
          · rw [if_pos z, if_pos (by omega)]
          · rw [if_neg z, if_neg]
            intro z2
            have : tua (cbp v) (wy v d) = kk := by omega
            rw [this] at c3
            rw [eC.mpr c3] at c
            cases c
        rw [e]; exact hK2
      · have c : eqW (fun q => coF v (now q)) (cbp v) = true := by
          cases z : eqW (fun q => coF v (now q)) (cbp v) with
          | true => rfl
          | false => exact absurd z c
        have hle2 : tua (cbp v) (wy v d) ≤ kk := by
          rcases Nat.lt_or_ge kk (tua (cbp v) (wy v d)) with z | z
          · exact absurd (eC.mp c) (c4 kk hk1 z)
          · exact z
        by_cases z : tua (cbp v) (wy v d) ≤ kk - 1
        · have e1 : ckv (tua (cbp v) (wy v d)) (kk - 1) = nI (tua (cbp v) (wy v d)) := if_pos z
          have e2 : ckv (tua (cbp v) (wy v d)) kk = nI (tua (cbp v) (wy v d)) := if_pos hle2
          rw [e1]
          rw [e2] at hK2
          exact br_f (nI_ne0 c1 (by omega)) (tail _ _ _ hK2)
        · have e1 : ckv (tua (cbp v) (wy v d)) (kk - 1) = nI 0 := if_neg z
          have e2 : ckv (tua (cbp v) (wy v d)) kk = nI kk := by
            unfold ckv
            rw [if_pos hle2]
            congr 1; omega
          rw [e1]
          rw [e2] at hK2
          exact br_t nI_0 (tail _ _ _ hK2)
    rw [b2_0]
    refine br_c (fun c => ?_) (fun c => ?_)
    · have z : ¬ kk = tua (fun p => p) (wy v d) := fun z => by rw [eB.mpr z] at c; cases c
      rw [c]
      refine cl _ _ ?_
      rw [if_neg z] at hK
      have e : ckv (tua (fun p => p) (wy v d)) (kk - 1) = ckv (tua (fun p => p) (wy v d)) kk := by
        unfold ckv
        rw [if_neg (by omega), if_neg (by omega)]
      rw [e]
      exact hK
    · have c : eqW now (thF v) = true := by
        cases z : eqW now (thF v) with
        | true => rfl
        | false => exact absurd z c
      have z := eB.mp c
      rw [c]
      refine cl _ _ ?_
      rw [if_pos z] at hK
      have e : ckv (tua (fun p => p) (wy v d)) kk = nI kk := by
        unfold ckv
        rw [if_pos (by omega), ← z]
      rw [e] at hK
      exact hK
  · rintro p t hp rfl K hK2
    show wpb_L_isDraft_294 _ _ _ _ _ _ _ _ _ _ (nI p) (nI (b2 ((List.range p).all (fun q => coF v (now q) == coF v (thF v q))))) (nI (b2 ((List.range p).all (fun q => now q == thF v q))))
    unfold wpb_L_isDraft_294
    refine br_f (nle_ge hp (by decide)) ?_
    have n1 := hnow.1 p hp
    have t1 := ht.1 p hp
    have k1 := hv.2.2.2.1 _ n1
    have k2 := hv.2.2.2.1 _ t1
    have hK3 := hK2 _ rfl
    rw [all_succ, all_succ] at hK3
    -- the colours
    have col : ∀ i126 : Int32, (K (nI (p + 1), nI (b2 ((List.range p).all (fun q => coF v (now q) == coF v (thF v q)) && (coF v (now p) == coF v (thF v p)))), i126)) → wpk_L_isDraft_326 (la 2) (la 3) a3 S (nI p) (nI (b2 ((List.range p).all (fun q => coF v (now q) == coF v (thF v q))))) K i126 := fun i126 hh => by
      unfold wpk_L_isDraft_326 wpk_L_isDraft_357
      rw [b2_0]
      refine br_c (fun c => ?_) (fun c => ?_)
      · intro i128 e128
        rw [e128, nI_add]
        rw [c, Bool.false_and] at hh
        exact hh
      · have c : (List.range p).all (fun q => coF v (now q) == coF v (thF v q)) = true := by
          cases z : (List.range p).all (fun q => coF v (now q) == coF v (thF v q)) with
          | true => rfl
          | false => exact absurd z c
        rw [c, Bool.true_and] at hh
        refine h3.get hp (hco.get n1 (hth.get hp (hco.get t1 (br_c (fun z => ?_) (fun z => ?_)))))
        · rw [nI_eq (by omega) (by omega)] at z
          intro i128 e128
          rw [e128, nI_add]
          have ez : (coF v (now p) == coF v (thF v p)) = true := by rw [z]; exact beq_self_eq_true _
          rw [ez] at hh
          exact hh
        · rw [nI_eq (by omega) (by omega)] at z
          intro i128 e128
          rw [e128, nI_add]
          have ez : (coF v (now p) == coF v (thF v p)) = false := beq_false_of_ne z
          rw [ez] at hh
          exact hh
    rw [b2_0]
    refine br_c (fun c => ?_) (fun c => ?_)
    · rw [c, Bool.false_and] at hK3
      exact col _ hK3
    · have c : (List.range p).all (fun q => now q == thF v q) = true := by
        cases z : (List.range p).all (fun q => now q == thF v q) with
        | true => rfl
        | false => exact absurd z c
      rw [c, Bool.true_and] at hK3
      refine h3.get hp (hth.get hp (br_c (fun z => ?_) (fun z => ?_)))
      · rw [nI_eq (by omega) (by omega)] at z
        have ez : (now p == thF v p) = true := by rw [z]; exact beq_self_eq_true _
        rw [ez] at hK3
        exact col _ hK3
      · rw [nI_eq (by omega) (by omega)] at z
        have ez : (now p == thF v p) = false := beq_false_of_ne z
        rw [ez] at hK3
        exact col _ hK3
end LG
