/-! ===== ways: repeated, cycles ===== -/
def itr (w : Nat → Nat) : Nat → Nat → Nat
  | 0, p => p
  | n + 1, p => w (itr w n p)
theorem itr_add (w : Nat → Nat) (b p : Nat) : ∀ a, itr w (a + b) p = itr w a (itr w b p)
  | 0 => by rw [Nat.zero_add]; rfl
  | a + 1 => by
    rw [Nat.add_right_comm]
    show w (itr w (a + b) p) = w (itr w a (itr w b p))
    rw [itr_add w b p a]
theorem PM.it {w : Nat → Nat} (h : PM w) : ∀ n, PM (itr w n)
  | 0 => PM.id
  | n + 1 => PM.cmp (a := itr w n) (b := w) (PM.it h n) h
theorem wp_power {w : Nat → Nat} {t : Nat} {Post : Int64 → Prop} (hw : PM w) (ht : t ≤ 1000000) (h : Post (en (itr w t))) : wp_X6_power (en w) (nI t) Post := by
  unfold wp_X6_power
  refine wpL_inv (fun q => ∃ l d a, q.1 = nI l ∧ q.2.1 = en (itr w d) ∧ q.2.2 = en (itr w a) ∧ d * l + a = t ∧ l ≤ t) (fun q => q.1.toNatClampNeg) ?_ ⟨t, 1, 0, rfl, rfl, home_en, by omega, Nat.le_refl _⟩
  intro q hq K hK
  obtain ⟨i, x, y⟩ := q
  obtain ⟨l, d, a, e1, e2, e3, e4, e5⟩ := hq
  have e1 : i = nI l := e1
  have e2 : x = en (itr w d) := e2
  have e3 : y = en (itr w a) := e3
  subst e1; subst e2; subst e3
  show wpb_X6_power_10 Post K (nI l) (en (itr w d)) (en (itr w a))
  unfold wpb_X6_power_10
  have hlt : ∀ n p, p < 12 → itr w n p < 12 := fun n p hp => (PM.it hw n).1 p hp
  have hlt16 : ∀ n p, p < 12 → itr w n p < 16 := fun n p hp => Nat.lt_trans (hlt n p hp) (by decide)
  have cm : ∀ a b, en (fun p => itr w a (itr w b p)) = en (itr w (a + b)) := fun a b => congrArg en (funext fun p => (itr_add w b p a).symm)
  rcases Nat.eq_zero_or_pos l with z | z
  · subst z
    refine br_t (by rw [nI_0]; exact Int32.le_refl _) ?_
    have : a = t := by omega
    rw [this]; exact h
  · refine br_f (nI_nle z (by omega)) ?_
    have ea : nI l &&& nI 1 = nI (l % 2) := fa_mask l 1
    have es : nI l >>> (nI 1 &&& 31) = nI (l / 2) := pk_shrN (by omega) (nI 1 &&& 31) 1 (s_l 1 (by decide))
    have hm : (nI (l / 2)).toNatClampNeg < (nI l).toNatClampNeg := by
      rw [nI_clamp (by omega), nI_clamp (by omega)]; omega
    rw [ea]
    rcases Nat.mod_two_eq_zero_or_one l with g | g
    · rw [g]
      refine br_f n01 ?_
      refine wp_then (hlt d) (hlt16 d) ?_
      intro i7 e7
      rw [e7, es, cm]
      refine hK _ ⟨l / 2, d + d, a, rfl, rfl, rfl, ?_, by omega⟩ hm
      have : l = 2 * (l / 2) := by omega
      have e6 : (d + d) * (l / 2) = d * l := by
        rw [← Nat.two_mul, Nat.mul_comm 2 d, Nat.mul_assoc, ← this]
      omega
    · rw [g]
      refine br_t rfl ?_
      refine wp_then (hlt a) (hlt16 d) ?_
      refine wp_then (hlt d) (hlt16 d) ?_
      intro i7 e7
      rw [e7, es, cm, cm]
      refine hK _ ⟨l / 2, d + d, d + a, rfl, rfl, rfl, ?_, by omega⟩ hm
      have : l = 2 * (l / 2) + 1 := by omega
      have e6 : d * l = (d + d) * (l / 2) + d := by
        rw [← Nat.two_mul, Nat.mul_comm 2 d, Nat.mul_assoc]
        conv => lhs; rw [this]
        rw [Nat.mul_add, Nat.mul_one]
      omega
theorem mv_mv {f a b : Nat → Nat} (ha : PM a) (hb : PM b) {q : Nat} (hq : q < 12) : mv (mv f a) b q = mv f (fun p => b (a p)) q := by
  obtain ⟨p, hp, e⟩ := (PM.cmp ha hb).onto hq
  have h1 : mv f (fun p => b (a p)) q = f p := by rw [← e]; exact mv_at (PM.cmp ha hb) hp
  rw [h1, ← e]
  show mv (mv f a) b (b (a p)) = f p
  rw [mv_at hb (ha.1 p hp), mv_at ha hp]
theorem mv_lt {f w : Nat → Nat} {n : Nat} (hf : ∀ p, p < 12 → f p < n) (hw : PM w) : ∀ p, p < 12 → mv f w p < n := fun p hp => hf _ (iv_spec hw hp).1
theorem mv_same {f w : Nat → Nat} (hw : PM w) : (∀ q, q < 12 → mv f w q = f q) ↔ ∀ p, p < 12 → f (w p) = f p := by
  constructor
  · intro h p hp
    have := h (w p) (hw.1 p hp)
    rw [mv_at hw hp] at this
    exact this.symm
  · intro h q hq
    obtain ⟨p, hp, e⟩ := hw.onto hq
    rw [← e, mv_at hw hp, h p hp]
theorem wp_tua {f w : Nat → Nat} {t : Nat} {Post : Int32 → Prop} (hf : ∀ p, p < 12 → f p < 16) (hw : PM w) (h1 : 1 ≤ t) (h60 : t ≤ 60) (hP : ∀ p, p < 12 → f (itr w t p) = f p) (hmin : ∀ j, 1 ≤ j → j < t → ¬ ∀ p, p < 12 → f (itr w j p) = f p) (h : Post (nI t)) : wp_X6_timesUntilAgain (en w) (en f) Post := by
  unfold wp_X6_timesUntilAgain
  refine wp_moved hf hw ?_
  have hlt : ∀ k p, p < 12 → mv f (itr w k) p < 16 := fun k => mv_lt hf (hw.it k)
  have e1 : en (mv f w) = en (mv f (itr w 1)) := rfl
  rw [e1]
  refine wpL_from t (fun k x => 1 ≤ k ∧ x = en (mv f (itr w k))) h1 ⟨Nat.le_refl _, rfl⟩ ?_ ?_
  · intro x hx K
    obtain ⟨-, e⟩ := hx
    show wpb_X6_timesUntilAgain_10 _ _ _ _ (nI t) x
    unfold wpb_X6_timesUntilAgain_10
    refine br_t ?_ h
    rw [e, lg0]
    exact (en_eq (hlt t) hf).mpr ((mv_same (hw.it t)).mpr hP)
  · intro k x hk hx K hK
    obtain ⟨hk1, e⟩ := hx
    show wpb_X6_timesUntilAgain_10 _ _ _ _ (nI k) x
    unfold wpb_X6_timesUntilAgain_10
    refine br_f ?_ ?_
    · rw [e, lg0]
      exact fun z => hmin k hk1 hk ((mv_same (hw.it k)).mp ((en_eq (hlt k) hf).mp z))
    · refine br_f (nle_ge (show k < 60 by omega) (by decide)) ?_
      rw [e]
      refine wp_moved (hlt k) hw ?_
      intro i7 e7
      rw [e7, nI_add]
      refine hK _ ⟨by omega, en_ext fun q hq => ?_⟩
      rw [mv_mv (hw.it k) hw hq]
      rfl
def orb (w : Nat → Nat) (p q : Nat) : Bool := (List.range 12).any (fun j => itr w j p == q)
noncomputable def cyc (w : Nat → Nat) (p : Nat) : Nat := Classical.epsilon (fun c => 1 ≤ c ∧ c ≤ 12 ∧ itr w c p = p ∧ ∀ j, 1 ≤ j → j < c → itr w j p ≠ p)
theorem itr_cancel {w : Nat → Nat} (hw : PM w) {p : Nat} (hp : p < 12) : ∀ {i j : Nat}, i ≤ j → itr w i p = itr w j p → itr w (j - i) p = p := by
  intro i j hij e
  have e2 : itr w j p = itr w i (itr w (j - i) p) := by
    rw [← itr_add]; congr 1; omega
  rw [e2] at e
  exact ((hw.it i).2 _ _ hp ((hw.it (j - i)).1 p hp) e).symm
theorem cyc_spec {w : Nat → Nat} (hw : PM w) {p : Nat} (hp : p < 12) : 1 ≤ cyc w p ∧ cyc w p ≤ 12 ∧ itr w (cyc w p) p = p ∧ ∀ j, 1 ≤ j → j < cyc w p → itr w j p ≠ p := by
  refine Classical.epsilon_spec (p := fun c => 1 ≤ c ∧ c ≤ 12 ∧ itr w c p = p ∧ ∀ j, 1 ≤ j → j < c → itr w j p ≠ p) ?_
  obtain ⟨i, j, hij, hj, e⟩ := fb_twice (m := 12) (n := 13) (f := fun k => itr w k p) (fun k _ => (hw.it k).1 p hp) (by decide)
  have e2 := itr_cancel hw hp (Nat.le_of_lt hij) e
  obtain ⟨c, ⟨h1, h2⟩, h3⟩ := pk_least (fun k => 1 ≤ k ∧ itr w k p = p) ⟨j - i, by omega, e2⟩
  refine ⟨c, h1, ?_, h2, fun x hx hxc ex => h3 x hxc ⟨hx, ex⟩⟩
  rcases Nat.lt_or_ge 12 c with g | g
  · exact absurd ⟨by omega, e2⟩ (h3 (j - i) (by omega))
  · exact g
theorem itr_mod {w : Nat → Nat} {p c : Nat} (hc : itr w c p = p) : ∀ k r, itr w (r + c * k) p = itr w r p
  | 0, r => by rw [Nat.mul_zero, Nat.add_zero]
  | k + 1, r => by
    have e : r + c * (k + 1) = (r + c * k) + c := by rw [Nat.mul_succ]; omega
    rw [e, itr_add, hc, itr_mod hc k r]
theorem itr_rem {w : Nat → Nat} {p c : Nat} (hc : itr w c p = p) (j : Nat) : itr w j p = itr w (j % c) p := by
  have e := itr_mod hc (j / c) (j % c)
  rw [Nat.add_comm, Nat.div_add_mod] at e
  exact e
theorem orb_iff {w : Nat → Nat} (hw : PM w) {p : Nat} (hp : p < 12) (q : Nat) : orb w p q = true ↔ ∃ j, j < cyc w p ∧ itr w j p = q := by
  obtain ⟨h1, h2, h3, h4⟩ := cyc_spec hw hp
  unfold orb
  rw [List.any_eq_true]
  constructor
  · intro h
    obtain ⟨j, hj, e⟩ := h
    have e : itr w j p = q := by simpa using e
    exact ⟨j % cyc w p, Nat.mod_lt _ h1, by rw [← itr_rem h3]; exact e⟩
  · intro h
    obtain ⟨j, hj, e⟩ := h
    exact ⟨j, List.mem_range.mpr (by omega), by simp [e]⟩
theorem orb_inj {w : Nat → Nat} (hw : PM w) {p : Nat} (hp : p < 12) {i j : Nat} (hi : i < cyc w p) (hj : j < cyc w p) (e : itr w i p = itr w j p) : i = j := by
  obtain ⟨h1, h2, h3, h4⟩ := cyc_spec hw hp
  rcases Nat.lt_trichotomy i j with g | g | g
  · exact absurd (itr_cancel hw hp (Nat.le_of_lt g) e) (h4 _ (by omega) (by omega))
  · exact g
  · exact absurd (itr_cancel hw hp (Nat.le_of_lt g) e.symm) (h4 _ (by omega) (by omega))
theorem ct_image {n : Nat} (f : Nat → Nat) : ∀ (c : Nat) (P : Nat → Bool), (∀ j, j < c → f j < n) → (∀ i j, i < c → j < c → f i = f j → i = j) → (∀ q, q < n → (P q = true ↔ ∃ j, j < c ∧ f j = q)) → fb_ct P n = c
  | 0, P, _, _, h => fb_ct_zero.mpr fun k hk => by
    cases e : P k with
    | false => rfl
    | true => obtain ⟨j, hj, -⟩ := (h k hk).mp e; omega
  | c + 1, P, h1, h2, h3 => by
    have ih := ct_image f c (fun q => P q && !(q == f c)) (fun j hj => h1 j (by omega)) (fun i j hi hj e => h2 i j (by omega) (by omega) e) (fun q hq => by
      constructor
      · intro g
        simp at g
        obtain ⟨j, hj, e⟩ := (h3 q hq).mp g.1
        refine ⟨j, ?_, e⟩
        rcases Nat.lt_or_ge j c with z | z
        · exact z
        · have : j = c := by omega
          subst this
          exact absurd e.symm g.2
      · intro g
        obtain ⟨j, hj, e⟩ := g
        simp
        refine ⟨(h3 q hq).mpr ⟨j, by omega, e⟩, fun z => ?_⟩
        have := h2 j c (by omega) (by omega) (e.trans z)
        omega)
    have hc := h1 c (by omega)
    have hu := fb_ct_upd (fun q => P q && !(q == f c)) true hc
    have e1 : fb_ct (fun k => if k = f c then true else (fun q => P q && !(q == f c)) k) n = fb_ct P n := fb_ct_cong fun k hk => by
      by_cases z : k = f c
      · subst z
        rw [if_pos rfl]
        exact ((h3 _ hk).mpr ⟨c, by omega, rfl⟩).symm
      · simp [z]
    rw [e1, ih] at hu
    simp at hu
    omega
theorem orb_ct {w : Nat → Nat} (hw : PM w) {p : Nat} (hp : p < 12) : fb_ct (orb w p) 12 = cyc w p :=
  ct_image (fun j => itr w j p) (cyc w p) _ (fun j _ => (hw.it j).1 p hp) (fun i j hi hj e => orb_inj hw hp hi hj e) (fun q _ => orb_iff hw hp q)
theorem wp_cycleOf {w : Nat → Nat} {p : Nat} {Post : Int32 → Prop} (hw : PM w) (hp : p < 12) (h : Post (nI (bs (orb w p) 12))) : wp_X6_cycleOf (en w) (nI p) Post := by
  obtain ⟨h1, h2, h3, h4⟩ := cyc_spec hw hp
  unfold wp_X6_cycleOf
  intro i1 e1
  refine wp_at hw.lt16 hp ?_
  rw [e1, sh1 (by omega)]
  have fin : ∀ A : Nat, A < 2 ^ 12 → (∀ q, q < 12 → A.testBit q = (List.range (cyc w p)).any (fun j => itr w j p == q)) → Post (nI A) := by
    intro A hA hb
    rw [bs_of (P := orb w p) hA fun q hq => ?_]
    · exact h
    · rw [hb q hq]
      rw [Bool.eq_iff_iff, orb_iff hw hp, List.any_eq_true]
      constructor
      · intro g; obtain ⟨j, hj, e⟩ := g; exact ⟨j, List.mem_range.mp hj, by simpa using e⟩
      · intro g; obtain ⟨j, hj, e⟩ := g; exact ⟨j, List.mem_range.mpr hj, by simp [e]⟩
  refine wpL_from (cyc w p) (fun k x => 1 ≤ k ∧ x.1 = nI (itr w k p) ∧ ∃ A : Nat, x.2 = nI A ∧ A < 2 ^ 12 ∧ ∀ q, q < 12 → A.testBit q = (List.range k).any (fun j => itr w j p == q)) h1 ⟨Nat.le_refl _, rfl, 2 ^ p, rfl, Nat.pow_lt_pow_right (by decide) hp, fun q hq => ?_⟩ ?_ ?_
  · rw [Nat.testBit_two_pow]
    show decide (p = q) = _
    simp [List.range_succ, itr]
    rfl
  · intro x hx K
    obtain ⟨x1, x2⟩ := x
    obtain ⟨-, e2, A, e3, hA, hb⟩ := hx
    have e2 : x1 = nI (itr w (cyc w p) p) := e2
    have e3 : x2 = nI A := e3
    subst e2; subst e3
    show wpb_X6_cycleOf_14 _ _ _ _ (nI (cyc w p)) (nI (itr w (cyc w p) p)) (nI A)
    unfold wpb_X6_cycleOf_14
    refine br_c (fun _ => fin A hA hb) (fun _ => br_t (by rw [h3]) (fin A hA hb))
  · intro k x hk hx K hK
    obtain ⟨x1, x2⟩ := x
    obtain ⟨hk1, e2, A, e3, hA, hb⟩ := hx
    have e2 : x1 = nI (itr w k p) := e2
    have e3 : x2 = nI A := e3
    subst e2; subst e3
    have hx12 := (hw.it k).1 p hp
    show wpb_X6_cycleOf_14 _ _ _ _ (nI k) (nI (itr w k p)) (nI A)
    unfold wpb_X6_cycleOf_14
    refine br_f (nle_ge (show k < 12 by omega) (by decide)) (br_f (fun z => h4 k hk1 hk ((nI_eq (by omega) (by omega)).mp z)) ?_)
    intro i8 e8
    refine wp_at hw.lt16 hx12 ?_
    intro i10 e10
    rw [e10, nI_add, e8, or_sh (by omega)]
    refine hK _ ⟨by omega, rfl, _, rfl, Nat.or_lt_two_pow hA (Nat.pow_lt_pow_right (by decide) hx12), fun q hq => ?_⟩
    rw [Nat.testBit_or, hb q hq, Nat.testBit_two_pow, List.range_succ, List.any_append]
    simp
    rw [eq_comm]
    rfl
