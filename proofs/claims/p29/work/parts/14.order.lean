/-! ===== no way has an order above 60 ===== -/
theorem itr_comm (w : Nat → Nat) (a b p : Nat) : itr w a (itr w b p) = itr w b (itr w a p) := by
  rw [← itr_add, ← itr_add, Nat.add_comm]
theorem cyc_itr {w : Nat → Nat} (hw : PM w) {p : Nat} (hp : p < 12) (j : Nat) : cyc w (itr w j p) = cyc w p := by
  have hj := (hw.it j).1 p hp
  have e : ∀ t, itr w t (itr w j p) = itr w j p ↔ itr w t p = p := fun t => by
    rw [itr_comm]
    exact ⟨fun h => (hw.it j).2 _ _ ((hw.it t).1 p hp) hp h, fun h => by rw [h]⟩
  unfold cyc
  congr 1
  funext c
  rw [e c]
  refine propext ⟨fun h => ⟨h.1, h.2.1, h.2.2.1, fun i h1 h2 h3 => h.2.2.2 i h1 h2 ((e i).mpr h3)⟩, fun h => ⟨h.1, h.2.1, h.2.2.1, fun i h1 h2 h3 => h.2.2.2 i h1 h2 ((e i).mp h3)⟩⟩
theorem sm_one (x : Nat) : ∀ n, x < n → fb_sm (fun c => if x == c then 1 else 0) n = 1
  | 0, h => absurd h (Nat.not_lt_zero _)
  | n + 1, h => by
    rw [fb_sm_succ]
    by_cases e : x = n
    · subst e
      have : fb_sm (fun c => if x == c then 1 else 0) x = fb_sm (fun _ => 0) x := fb_sm_cong fun k hk => by
        have : ¬ x = k := by omega
        simp [this]
      rw [this, fb_sm_const]; simp
    · rw [sm_one x n (by omega)]
      simp [e]
theorem sm_ct (g : Nat → Nat) : ∀ n, (∀ p, p < n → g p < 13) → fb_sm (fun c => fb_ct (fun p => g p == c) n) 13 = n
  | 0, _ => rfl
  | n + 1, h => by
    have e : fb_sm (fun c => fb_ct (fun p => g p == c) (n + 1)) 13 = fb_sm (fun c => fb_ct (fun p => g p == c) n + (if g n == c then 1 else 0)) 13 := rfl
    rw [e, fb_sm_add, sm_ct g n (fun p hp => h p (by omega)), sm_one (g n) 13 (h n (by omega))]
def smC (m : Nat) : Nat := fb_sm (fun c => if m.testBit c then c else 0) 13
def lcC (m : Nat) : Nat → Nat
  | 0 => 1
  | n + 1 => if m.testBit n then Nat.lcm (lcC m n) n else lcC m n
theorem lan_all : (List.range 4096).all (fun m => decide (12 < smC (2 * m)) || (decide (lcC (2 * m) 13 ≤ 60) && decide (1 ≤ lcC (2 * m) 13))) = true := by decide +kernel
theorem lcC_dvd {m c : Nat} (h : m.testBit c = true) : ∀ n, c < n → c ∣ lcC m n
  | 0, hc => absurd hc (Nat.not_lt_zero _)
  | n + 1, hc => by
    by_cases e : c = n
    · subst e
      show c ∣ (if m.testBit c then Nat.lcm (lcC m c) c else lcC m c)
      rw [if_pos h]
      exact Nat.dvd_lcm_right _ _
    · have ih := lcC_dvd h n (by omega)
      show c ∣ (if m.testBit n then Nat.lcm (lcC m n) n else lcC m n)
      split
      · exact Nat.dvd_trans ih (Nat.dvd_lcm_left _ _)
      · exact ih
theorem order60 {w : Nat → Nat} (hw : PM w) : ∃ T, 1 ≤ T ∧ T ≤ 60 ∧ ∀ p, p < 12 → itr w T p = p := by
  have hc : ∀ p, p < 12 → 1 ≤ cyc w p ∧ cyc w p ≤ 12 := fun p hp => ⟨(cyc_spec hw hp).1, (cyc_spec hw hp).2.1⟩
  generalize hM : bs (fun c => (List.range 12).any (fun p => cyc w p == c + 1)) 12 = M
  have hM4 : M < 4096 := by rw [← hM]; exact bs_lt _ 12
  have hbit : ∀ c, c < 12 → ((2 * M).testBit (c + 1) = true ↔ ∃ p, p < 12 ∧ cyc w p = c + 1) := fun c hc => by
    have e : (2 * M).testBit (c + 1) = M.testBit c := by
      rw [Nat.testBit_succ]; congr 1; omega
    rw [e, ← hM, bs_bit]
    simp [hc]
  have hb0 : (2 * M).testBit 0 = false := by simp
  have hsm : smC (2 * M) ≤ 12 := by
    unfold smC
    have h1 := sm_ct (cyc w) 12 (fun p hp => by have := (hc p hp).2; omega)
    rw [← h1]
    refine fb_sm_le fun c hc13 => ?_
    rcases Nat.eq_zero_or_pos c with z | z
    · rw [z, hb0]; simp
    · obtain ⟨k, rfl⟩ : ∃ k, c = k + 1 := ⟨c - 1, by omega⟩
      by_cases b : (2 * M).testBit (k + 1) = true
      · rw [if_pos b]
        obtain ⟨p, hp, e⟩ := (hbit k (by omega)).mp b
        have h2 := orb_ct hw hp
        rw [e] at h2
        conv => lhs; rw [← h2]
        refine fb_ct_sub fun q hq ho => ?_
        obtain ⟨j, -, e2⟩ := (orb_iff hw hp q).mp ho
        rw [← e2, cyc_itr hw hp j, e]
        simp
      · rw [if_neg b]; exact Nat.zero_le _
  have h3 := List.all_eq_true.mp lan_all M (List.mem_range.mpr hM4)
  have h4 : ¬ 12 < smC (2 * M) := by omega
  simp [h4] at h3
  refine ⟨lcC (2 * M) 13, h3.2, h3.1, fun p hp => ?_⟩
  have hcp := hc p hp
  have hd : cyc w p ∣ lcC (2 * M) 13 := by
    refine lcC_dvd ?_ 13 (by omega)
    have := (hbit (cyc w p - 1) (by omega)).mpr ⟨p, hp, by omega⟩
    rw [show cyc w p - 1 + 1 = cyc w p by omega] at this
    exact this
  obtain ⟨k, ek⟩ := hd
  rw [itr_rem (cyc_spec hw hp).2.2.1, ek, Nat.mul_mod_right]
  rfl
/-- how often, at least once, until what the places hold is as it was -/
noncomputable def tua (f w : Nat → Nat) : Nat := Classical.epsilon (fun t => 1 ≤ t ∧ t ≤ 60 ∧ (∀ p, p < 12 → f (itr w t p) = f p) ∧ ∀ j, 1 ≤ j → j < t → ¬ ∀ p, p < 12 → f (itr w j p) = f p)
theorem tua_spec (f : Nat → Nat) {w : Nat → Nat} (hw : PM w) : 1 ≤ tua f w ∧ tua f w ≤ 60 ∧ (∀ p, p < 12 → f (itr w (tua f w) p) = f p) ∧ ∀ j, 1 ≤ j → j < tua f w → ¬ ∀ p, p < 12 → f (itr w j p) = f p := by
  refine Classical.epsilon_spec (p := fun t => 1 ≤ t ∧ t ≤ 60 ∧ (∀ p, p < 12 → f (itr w t p) = f p) ∧ ∀ j, 1 ≤ j → j < t → ¬ ∀ p, p < 12 → f (itr w j p) = f p) ?_
  obtain ⟨T, h1, h2, h3⟩ := order60 hw
  obtain ⟨c, ⟨g1, g2⟩, g3⟩ := pk_least (fun t => 1 ≤ t ∧ ∀ p, p < 12 → f (itr w t p) = f p) ⟨T, h1, fun p hp => by rw [h3 p hp]⟩
  refine ⟨c, g1, ?_, g2, fun j j1 j2 j3 => g3 j j2 ⟨j1, j3⟩⟩
  rcases Nat.lt_or_ge 60 c with z | z
  · exact absurd ⟨h1, fun p hp => by rw [h3 p hp]⟩ (g3 T (by omega))
  · exact z
theorem wp_tua' {f w : Nat → Nat} {Post : Int32 → Prop} (hf : ∀ p, p < 12 → f p < 16) (hw : PM w) (h : Post (nI (tua f w))) : wp_X6_timesUntilAgain (en w) (en f) Post := by
  obtain ⟨h1, h2, h3, h4⟩ := tua_spec f hw
  exact wp_tua hf hw h1 h2 h3 h4 h
