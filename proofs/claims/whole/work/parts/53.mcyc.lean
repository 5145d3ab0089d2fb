/-! ===== the reference: how many cycles ===== -/
theorem sm_swap (f : Nat → Nat → Nat) (m : Nat) : ∀ n, fb_sm (fun i => fb_sm (fun j => f i j) m) n = fb_sm (fun j => fb_sm (fun i => f i j) n) m
  | 0 => by
    have e : fb_sm (fun j => fb_sm (fun i => f i j) 0) m = fb_sm (fun _ => 0) m := fb_sm_cong fun _ _ => rfl
    rw [e, fb_sm_const, Nat.mul_zero]; rfl
  | n + 1 => by
    have e : fb_sm (fun j => fb_sm (fun i => f i j) (n + 1)) m = fb_sm (fun j => fb_sm (fun i => f i j) n + f n j) m := fb_sm_cong fun _ _ => rfl
    rw [fb_sm_succ, sm_swap f m n, e, fb_sm_add]
theorem ct_sm (P : Nat → Bool) : ∀ n, fb_ct P n = fb_sm (fun k => if P k then 1 else 0) n
  | 0 => rfl
  | n + 1 => by rw [fb_ct_succ, fb_sm_succ, ct_sm P n]
theorem sm_ct_mul (P : Nat → Bool) (c : Nat) : ∀ n, fb_sm (fun k => if P k then c else 0) n = c * fb_ct P n
  | 0 => (Nat.mul_zero c).symm
  | n + 1 => by
    rw [fb_sm_succ, sm_ct_mul P c n, fb_ct_succ]
    cases P n with
    | true => simp [Nat.mul_add]
    | false => simp
theorem orb_of {w : Nat → Nat} (hw : PM w) {p q : Nat} (hp : p < 12) (n : Nat) (e : itr w n p = q) : orb w p q = true := by
  obtain ⟨c1, c2, c3, c4⟩ := cyc_spec hw hp
  exact (orb_iff hw hp q).mpr ⟨n % cyc w p, Nat.mod_lt _ c1, by rw [← itr_rem c3]; exact e⟩
theorem orb_lt {w : Nat → Nat} (hw : PM w) {p q : Nat} (hp : p < 12) (h : orb w p q = true) : q < 12 := by
  obtain ⟨j, -, e⟩ := (orb_iff hw hp q).mp h
  rw [← e]; exact (hw.it j).1 p hp
theorem orb_sym {w : Nat → Nat} (hw : PM w) {p q : Nat} (hp : p < 12) (h : orb w p q = true) : orb w q p = true := by
  obtain ⟨c1, c2, c3, c4⟩ := cyc_spec hw hp
  have hq := orb_lt hw hp h
  obtain ⟨j, hj, e⟩ := (orb_iff hw hp q).mp h
  refine orb_of hw hq (cyc w p - j) ?_
  rw [← e, ← itr_add, show cyc w p - j + j = cyc w p by omega]
  exact c3
theorem orb_trans {w : Nat → Nat} (hw : PM w) {p q r : Nat} (hp : p < 12) (h : orb w p q = true) (h2 : orb w q r = true) : orb w p r = true := by
  have hq := orb_lt hw hp h
  obtain ⟨j, -, e⟩ := (orb_iff hw hp q).mp h
  obtain ⟨i, -, e2⟩ := (orb_iff hw hq r).mp h2
  refine orb_of hw hp (i + j) ?_
  rw [itr_add, e, e2]
theorem low_ex {w : Nat → Nat} (hw : PM w) {p : Nat} (hp : p < 12) : ∃ r, r < 12 ∧ ∀ q, q < 12 → ((low w q && orb w q p) = true ↔ q = r) := by
  obtain ⟨r, hr, hmin⟩ := pk_least (fun r => orb w p r = true) ⟨p, orb_self w p⟩
  have hr12 := orb_lt hw hp hr
  have hlow : low w r = true := by
    unfold low
    rw [List.all_eq_true]
    intro q hq
    cases e : orb w r q with
    | false => rfl
    | true => exact absurd (orb_trans hw hp hr e) (hmin q (List.mem_range.mp hq))
  refine ⟨r, hr12, fun q hq => ⟨fun h => ?_, fun h => ?_⟩⟩
  · rw [Bool.and_eq_true] at h
    have h1 := orb_trans hw hq h.2 hr
    have hle : ¬ q < r := fun c => hmin q c (orb_sym hw hq h.2)
    have hge : ¬ r < q := fun c => by
      have h3 := h.1
      unfold low at h3
      rw [List.all_eq_true] at h3
      have := h3 r (List.mem_range.mpr c)
      rw [h1] at this
      cases this
    omega
  · simp [h, hlow, orb_sym hw hp hr]
theorem low_ct {w : Nat → Nat} (hw : PM w) {p : Nat} (hp : p < 12) : fb_sm (fun r => if (low w r && orb w r p) = true then 1 else 0) 12 = 1 := by
  obtain ⟨r, hr, h⟩ := low_ex hw hp
  have e : fb_sm (fun q => if (low w q && orb w q p) = true then 1 else 0) 12 = fb_sm (fun c => if r == c then 1 else 0) 12 := fb_sm_cong fun q hq => by
    by_cases z : q = r
    · rw [if_pos ((h q hq).mpr z), z]; simp
    · rw [if_neg (fun c => z ((h q hq).mp c))]
      have : ¬ r = q := fun c => z c.symm
      simp [this]
  rw [e, sm_one r 12 hr]
theorem cyc_orb {w : Nat → Nat} (hw : PM w) {p q : Nat} (hp : p < 12) (h : orb w p q = true) : cyc w q = cyc w p := by
  obtain ⟨j, -, e⟩ := (orb_iff hw hp q).mp h
  rw [← e, cyc_itr hw hp j]
theorem cyc_ct {w : Nat → Nat} (hw : PM w) (c : Nat) : fb_ct (fun p => cyc w p == c) 12 = c * fb_ct (fun r => low w r && (cyc w r == c)) 12 := by
  have e1 : fb_ct (fun p => cyc w p == c) 12 = fb_sm (fun p => fb_sm (fun r => if ((low w r && orb w r p) && (cyc w p == c)) = true then 1 else 0) 12) 12 := by
    rw [ct_sm]
    refine fb_sm_cong fun p hp => ?_
    cases z : (cyc w p == c) with
    | true => exact (low_ct hw hp).symm.trans (fb_sm_cong fun r _ => by simp)
    | false =>
      have e : fb_sm (fun r => if ((low w r && orb w r p) && false) = true then 1 else 0) 12 = fb_sm (fun _ => 0) 12 := fb_sm_cong fun r _ => by simp
      rw [e, fb_sm_const]; rfl
  rw [e1, sm_swap, ← sm_ct_mul]
  refine fb_sm_cong fun r hr => ?_
  show fb_sm (fun p => if ((low w r && orb w r p) && (cyc w p == c)) = true then 1 else 0) 12 = _
  cases hl : low w r with
  | false =>
    have e : fb_sm (fun p => if ((false && orb w r p) && (cyc w p == c)) = true then 1 else 0) 12 = fb_sm (fun _ => 0) 12 := fb_sm_cong fun p _ => by simp
    rw [e, fb_sm_const]; rfl
  | true =>
    cases hc : (cyc w r == c) with
    | false =>
      have e : fb_sm (fun p => if ((true && orb w r p) && (cyc w p == c)) = true then 1 else 0) 12 = fb_sm (fun _ => 0) 12 := fb_sm_cong fun p _ => by
        cases ho : orb w r p with
        | false => simp
        | true => rw [cyc_orb hw hr ho, hc]; simp
      rw [e, fb_sm_const]; rfl
    | true =>
      have e : fb_sm (fun p => if ((true && orb w r p) && (cyc w p == c)) = true then 1 else 0) 12 = fb_sm (fun p => if orb w r p = true then 1 else 0) 12 := fb_sm_cong fun p _ => by
        cases ho : orb w r p with
        | false => simp
        | true => rw [cyc_orb hw hr ho, hc]; simp
      rw [e, ← ct_sm (orb w r), orb_ct hw hr]
      have : cyc w r = c := by simpa using hc
      exact this
theorem cyc_one {w : Nat → Nat} (hw : PM w) {p : Nat} (hp : p < 12) : cyc w p = 1 ↔ w p = p := by
  obtain ⟨c1, c2, c3, c4⟩ := cyc_spec hw hp
  constructor
  · intro e
    rw [e] at c3; exact c3
  · intro e
    rcases Nat.lt_or_ge 1 (cyc w p) with z | z
    · exact absurd (show itr w 1 p = p from e) (c4 1 (Nat.le_refl _) z)
    · omega
theorem cys_sm {w : Nat → Nat} (hw : PM w) : fb_sm (fun l => fb_ct (fun r => low w r && (cyc w r == l + 2)) 12) 11 = cys w := by
  have e1 : fb_sm (fun l => fb_ct (fun r => low w r && (cyc w r == l + 2)) 12) 11 = fb_sm (fun l => fb_sm (fun r => if (low w r && (cyc w r == l + 2)) = true then 1 else 0) 12) 11 := fb_sm_cong fun l _ => ct_sm _ 12
  unfold cys
  rw [e1, sm_swap, ct_sm]
  refine fb_sm_cong fun r hr => ?_
  show fb_sm (fun l => if (low w r && (cyc w r == l + 2)) = true then 1 else 0) 11 = _
  obtain ⟨c1, c2, -, -⟩ := cyc_spec hw hr
  have h1 := cyc_one hw hr
  cases hl : low w r with
  | false =>
    have e : fb_sm (fun l => if (false && (cyc w r == l + 2)) = true then 1 else 0) 11 = fb_sm (fun _ => 0) 11 := fb_sm_cong fun l _ => by simp
    rw [e, fb_sm_const]; rfl
  | true =>
    by_cases z : w r = r
    · have e : fb_sm (fun l => if (true && (cyc w r == l + 2)) = true then 1 else 0) 11 = fb_sm (fun _ => 0) 11 := fb_sm_cong fun l _ => by
        have : ¬ cyc w r = l + 2 := by rw [h1.mpr z]; omega
        simp [this]
      rw [e, fb_sm_const]; simp [z]
    · have hc : cyc w r ≠ 1 := fun c => z (h1.mp c)
      have e : fb_sm (fun l => if (true && (cyc w r == l + 2)) = true then 1 else 0) 11 = fb_sm (fun l => if cyc w r - 2 == l then 1 else 0) 11 := fb_sm_cong fun l _ => by
        by_cases y : cyc w r = l + 2
        · have : cyc w r - 2 = l := by omega
          simp [y]
        · have : ¬ cyc w r - 2 = l := by omega
          simp [y, this]
      rw [e, sm_one _ 11 (by omega)]; simp [z]
section MCY
variable {S0 S S' : PS} {tg : Nat → Nat × Nat} {m : Nat} {bd : Nat → Nat} {A A' : Nat → Nat → Int32} {I I' : Nat → Int32} {v : LM} {hist : List LM} {sl : Nat → Option LM} {pad : List Nat} {P : Int32 → PS → Prop} {Q : Int32 → Prop} {d : Nat} {w : Nat → Nat}
theorem wp_cysM (h : MdS S0 S tg m bd A I) (hd : d < 6) (hw : PM w) (hc : ∀ p, p < 12 → A 6 (12 * d + p) = nI (w p)) (hQ : Q (nI (cys w))) : wp_X8_cycles S m (nI d) Q := by
  unfold wp_X8_cycles
  refine wpL_from 13 (fun k t => 2 ≤ k ∧ t = nI (fb_sm (fun l => fb_ct (fun r => low w r && (cyc w r == l + 2)) 12) (k - 2))) (by decide) ⟨Nat.le_refl _, rfl⟩ ?_ ?_
  · intro t ht K
    obtain ⟨-, ht⟩ := ht
    show wpb_X8_cycles_4 _ _ _ _ _ (nI 13) t
    unfold wpb_X8_cycles_4
    refine br_t (by decide) ?_
    rw [ht, cys_sm hw]; exact hQ
  · intro k t hk ht K hK
    obtain ⟨hk2, ht⟩ := ht
    show wpb_X8_cycles_4 _ _ _ _ _ (nI k) t
    unfold wpb_X8_cycles_4
    refine br_f (by rw [nI_ltI (by decide) (by omega)]; omega) ?_
    refine wpL_for 12 (fun j x => x = nI (fb_ct (fun p => cyc w p == k) j)) rfl ?_ ?_
    · intro x hx K2
      show wpb_X8_cycles_16 _ _ _ _ _ _ _ (nI 12) x
      unfold wpb_X8_cycles_16
      refine br_t (nle_re 12) ⟨nI_ne0 (by omega) (by omega), fun i8 e8 i9 e9 => ?_⟩
      have hle := fb_ct_le (fun p => cyc w p == k) 12
      rw [e9, nI_add, e8, hx, pk_div (by omega) (by omega) (by omega), ht, nI_add]
      refine hK _ ⟨by omega, congrArg nI ?_⟩
      rw [cyc_ct hw k, Nat.mul_div_cancel_left _ (by omega), show k + 1 - 2 = (k - 2) + 1 by omega, fb_sm_succ, show k - 2 + 2 = k by omega]
    · intro j x hj hx K2 hK2
      show wpb_X8_cycles_16 _ _ _ _ _ _ _ (nI j) x
      unfold wpb_X8_cycles_16
      obtain ⟨c1, c2, -, -⟩ := cyc_spec hw hj
      refine br_f (nle_ge hj (by decide)) (rc_of h.ob (wp_cyc h hd hw hc hj (br_c (fun e i16 e16 i17 e17 => ?_) (fun e i14 e14 i15 e15 => ?_))))
      · have e := (nI_eq (by omega) (by omega)).mp e
        rw [e17, nI_add, e16, hx, nI_add]
        refine hK2 _ ?_
        rw [fb_ct_succ]; simp [e]
      · have e : ¬ cyc w j = k := fun c => e (by rw [c])
        rw [e15, nI_add, e14, hx, nI_add]
        refine hK2 _ ?_
        rw [fb_ct_succ]; simp [e]
end MCY
