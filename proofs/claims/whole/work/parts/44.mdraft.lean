/-! ===== the reference: what is asked of a draft ===== -/
section MDR
variable {S0 S S' : PS} {tg : Nat → Nat × Nat} {m : Nat} {bd : Nat → Nat} {A A' : Nat → Nat → Int32} {I I' : Nat → Int32} {v : LM} {hist : List LM} {sl : Nat → Option LM} {pad : List Nat} {P : Int32 → PS → Prop} {Q : Int32 → Prop} {d : Nat} {w : Nat → Nat}
theorem wp_stays (h : MdS S0 S tg m bd A I) (hd : d < 6) (hw : PM w) (hc : ∀ p, p < 12 → A 6 (12 * d + p) = nI (w p)) (hQ : Q (nI (bs (fun p => w p == p) 12))) : wp_X8_stays S m (nI d) Q := by
  unfold wp_X8_stays
  refine wpL_for 12 (fun k x => x = nI (bs (fun p => w p == p) k)) rfl ?_ ?_
  · intro x hx K
    show wpb_X8_stays_4 _ _ _ _ _ (nI 12) x
    unfold wpb_X8_stays_4
    exact br_t (nle_re 12) (by rw [hx]; exact hQ)
  · intro k x hk hx K hK
    show wpb_X8_stays_4 _ _ _ _ _ (nI k) x
    unfold wpb_X8_stays_4
    refine br_f (nle_ge hk (by decide)) (rc_of h.ob (wp_cb h hd hk (hc k hk) (br_c (fun e => ?_) (fun e => ?_))))
    · have e := (nI_eq (show w k < 2 ^ 31 by have := hw.1 k hk; omega) (by omega)).mp e
      intro i21 e21 i22 e22
      rw [e22, nI_add, e21, hx, bs_put (P := fun p => w p == p) (by omega) (by simp [e])]
      exact hK _ rfl
    · have e : ¬ w k = k := fun c => e (by rw [c])
      intro i21 e21 i22 e22
      rw [e22, nI_add, e21, hx, or0, bs_no (P := fun p => w p == p) (by simp [e])]
      exact hK _ rfl
theorem wp_cyc {p : Nat} (h : MdS S0 S tg m bd A I) (hd : d < 6) (hw : PM w) (hc : ∀ p, p < 12 → A 6 (12 * d + p) = nI (w p)) (hp : p < 12) (hQ : Q (nI (cyc w p))) : wp_X8_cycleOf S m (nI d) (nI p) Q := by
  obtain ⟨c1, c2, c3, c4⟩ := cyc_spec hw hp
  unfold wp_X8_cycleOf
  refine rc_of h.ob (wp_cb h hd hp (hc p hp) ⟨cyc w p, ?_⟩)
  have key : ∀ e k, 1 ≤ k → k + e = cyc w p → wpL (fun (K10 : (Int32 × Int32) → Prop) (q : Int32 × Int32) => wpb_X8_cycleOf_10 S m (nI d) (nI p) Q K10 q.1 q.2) (e + 1) (nI (itr w k p), nI k) := by
    intro e
    induction e with
    | zero =>
      intro k k1 hk
      show wpb_X8_cycleOf_10 _ _ _ _ _ _ (nI (itr w k p)) (nI k)
      unfold wpb_X8_cycleOf_10
      have ek : k = cyc w p := hk
      refine br_t (by rw [ek, c3]) (by rw [ek]; exact hQ)
    | succ e ih =>
      intro k k1 hk
      show wpb_X8_cycleOf_10 _ _ _ _ _ _ (nI (itr w k p)) (nI k)
      unfold wpb_X8_cycleOf_10
      have hlt := (hw.it k).1 p hp
      refine br_f (fun z => c4 k k1 (by omega) ((nI_eq (by omega) (by omega)).mp z)) (fun i7 e7 => ?_)
      rw [e7, nI_add]
      exact rc_of h.ob (wp_cb h hd hlt (hc _ hlt) (ih (k + 1) (by omega) (by omega)))
  have := key (cyc w p - 1) 1 (Nat.le_refl _) (by omega)
  rw [show cyc w p - 1 + 1 = cyc w p by omega] at this
  exact this
theorem cyc_dvd {p t : Nat} (hw : PM w) (hp : p < 12) : itr w t p = p ↔ t % cyc w p = 0 := by
  obtain ⟨c1, c2, c3, c4⟩ := cyc_spec hw hp
  rw [itr_rem c3 t]
  constructor
  · intro e
    rcases Nat.eq_zero_or_pos (t % cyc w p) with z | z
    · exact z
    · exact absurd e (c4 _ z (Nat.mod_lt _ c1))
  · intro e
    rw [e]; rfl
theorem wp_order (h : MdS S0 S tg m bd A I) (hd : d < 6) (hw : PM w) (hc : ∀ p, p < 12 → A 6 (12 * d + p) = nI (w p)) (hQ : Q (nI (tua (fun p => p) w))) : wp_X8_orderOf S m (nI d) Q := by
  obtain ⟨t1, t2, t3, t4⟩ := tua_spec (fun p => p) hw
  generalize tua (fun p => p) w = T at *
  unfold wp_X8_orderOf
  have key : ∀ e k, k + e = T → ∀ r : Int32, (k < T → r = nI 0) → (k = T → r = nI 1) → wpL (fun (K4 : (Int32 × Int32) → Prop) (q : Int32 × Int32) => wpb_X8_orderOf_4 S m (nI d) Q K4 q.1 q.2) (e + 1) (r, nI k) := by
    intro e
    induction e with
    | zero =>
      intro k hk r h0 h1
      show wpb_X8_orderOf_4 _ _ _ _ _ r (nI k)
      unfold wpb_X8_orderOf_4
      have ek : k = T := hk
      rw [h1 ek, ek]
      exact br_f n1z hQ
    | succ e ih =>
      intro k hk r h0 h1
      show wpb_X8_orderOf_4 _ _ _ _ _ r (nI k)
      unfold wpb_X8_orderOf_4
      rw [h0 (by omega)]
      refine br_t rfl (fun i4 e4 => ?_)
      rw [e4, nI_add]
      refine wpL_for 12 (fun j x => ∃ b : Bool, x = nI (b2 b) ∧ (b = true ↔ ∀ p, p < j → itr w (k + 1) p = p)) ⟨true, rfl, fun _ p hp => absurd hp (Nat.not_lt_zero _), fun _ => rfl⟩ ?_ ?_
      · intro x hx K
        obtain ⟨b, e1, e2⟩ := hx
        show wpb_X8_orderOf_16 _ _ _ _ _ _ (nI 12) x
        unfold wpb_X8_orderOf_16
        refine br_t (nle_re 12) (ih (k + 1) (by omega) x (fun c => ?_) (fun c => ?_))
        · cases b with
          | false => exact e1
          | true => exact absurd (e2.mp rfl) (t4 (k + 1) (by omega) c)
        · have : b = true := e2.mpr (by rw [c]; exact t3)
          rw [e1, this]; rfl
      · intro j x hj hx K hK
        obtain ⟨b, e1, e2⟩ := hx
        show wpb_X8_orderOf_16 _ _ _ _ _ _ (nI j) x
        unfold wpb_X8_orderOf_16
        refine br_f (nle_ge hj (by decide)) ?_
        rw [e1]
        have nxt : ∀ {b' : Bool}, (b' = true ↔ b = true ∧ itr w (k + 1) j = j) → ∀ i16 : Int32, i16 = nI j + nI 1 → K (i16, nI (b2 b')) := fun hb' i16 e16 => by
          rw [e16, nI_add]
          refine hK _ ⟨_, rfl, hb'.trans ⟨fun c p hp => ?_, fun c => ⟨e2.mpr fun p hp => c p (by omega), c j (by omega)⟩⟩⟩
          by_cases z : p = j
          · rw [z]; exact c.2
          · exact e2.mp c.1 p (by omega)
        cases b with
        | false => exact br_t rfl (nxt (b' := false) ⟨fun c => (by cases c), fun c => c.1⟩)
        | true =>
          obtain ⟨c1, c2, -, -⟩ := cyc_spec hw hj
          refine br_f n1z (rc_of h.ob (wp_cyc h hd hw hc hj ⟨nI_ne0 (by omega) (by omega), ?_⟩))
          rw [pk_rem (by omega) (by omega) (by omega)]
          have hlt := Nat.mod_lt (k + 1) c1
          refine br_c (fun c => ?_) (fun c => ?_)
          · have c := (nI_eq (b := 0) (by omega) (by decide)).mp c
            exact nxt (b' := true) ⟨fun _ => ⟨rfl, (cyc_dvd hw hj).mpr c⟩, fun _ => rfl⟩
          · exact nxt (b' := false) ⟨fun z => (by cases z), fun z => absurd (show nI ((k + 1) % cyc w j) = 0 by rw [(cyc_dvd hw hj).mp z.2]; rfl) c⟩
  exact ⟨T + 1, key T 0 (by omega) (nI 0) (fun _ => rfl) (fun c => by omega)⟩
end MDR
