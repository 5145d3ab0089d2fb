/-! ===== the reference: the pad ===== -/
theorem sgn_m {u m : Nat} (hm : m ≤ 8) (hz : m = 8 ∨ byt u m = 0) (hn : ∀ j, j < m → byt u j ≠ 0) : ∀ k i, i + k = 8 → i ≤ m → ((u / 256 ^ m = 0 ∧ ∀ j, i ≤ j → j < m → 33 ≤ byt u j ∧ byt u j ≤ 126) → sgn u k i = m) ∧ (¬ (u / 256 ^ m = 0 ∧ ∀ j, i ≤ j → j < m → 33 ≤ byt u j ∧ byt u j ≤ 126) → sgn u k i = 0)
  | 0, i, hi, him => by
    have e : i = m := by omega
    subst e
    unfold sgn
    refine ⟨fun h => if_pos h.1, fun h => if_neg (fun c => h ⟨c, fun j h1 h2 => by omega⟩)⟩
  | k + 1, i, hi, him => by
    unfold sgn
    by_cases e : i = m
    · subst e
      have hz : byt u i = 0 := hz.resolve_left (by omega)
      rw [if_pos hz]
      exact ⟨fun h => if_pos h.1, fun h => if_neg (fun c => h ⟨c, fun j h1 h2 => by omega⟩)⟩
    · have hlt : i < m := by omega
      rw [if_neg (hn i hlt)]
      obtain ⟨a1, a2⟩ := sgn_m hm hz hn k (i + 1) (by omega) (by omega)
      constructor
      · intro h
        have := h.2 i (Nat.le_refl _) hlt
        rw [if_neg (by omega), if_pos this.2]
        exact a1 ⟨h.1, fun j h1 h2 => h.2 j (by omega) h2⟩
      · intro h
        by_cases c : byt u i < 33
        · rw [if_pos c]
        · rw [if_neg c]
          by_cases c2 : byt u i ≤ 126
          · rw [if_pos c2]
            refine a2 (fun d => h ⟨d.1, fun j h1 h2 => ?_⟩)
            by_cases z : j = i
            · subst z; omega
            · exact d.2 j (by omega) h2
          · rw [if_neg c2]
theorem wp_wn {x a b : Nat} {Q : Int32 → Prop} (hx : x < 2 ^ 31) (ha : a < 2 ^ 31) (hb : b < 2 ^ 31) (h1 : a ≤ x → x ≤ b → Q (nI 1)) (h0 : ¬ (a ≤ x ∧ x ≤ b) → Q (nI 0)) : wp_X8_within (nI x) (nI a) (nI b) Q := by
  unfold wp_X8_within
  rw [nI_ltI hx ha, nI_ltI hb hx]
  exact ⟨fun c => h0 (by omega), fun c => ⟨fun c2 => h0 (by omega), fun c2 => h1 (by omega) (by omega)⟩⟩
theorem wp_code {u k : Nat} {Q : Int32 → Prop} (hu : u < 2 ^ 64) (hk : k < 8) (h : Q (nI (byt u k))) : wp_X8_codeAt (lN u) (nI k) Q := by
  unfold wp_X8_codeAt
  rw [byt_L hu hk]; exact h
theorem wp_chars {u : Nat} {Q : Int32 → Prop} (hu : u < 2 ^ 64) (h : Q (nI (signs u))) : wp_X8_charactersIn (lN u) Q := by
  have h256 : u / 256 ^ 8 = 0 := Nat.div_eq_of_lt (Nat.lt_of_lt_of_le hu (by decide))
  -- the checks of the m signs
  have chk : ∀ {m : Nat} {b : Bool}, m ≤ 8 → (m = 8 ∨ byt u m = 0) → (∀ j, j < m → byt u j ≠ 0) → (b = true ↔ u / 256 ^ m = 0) → wpk_X8_charactersIn_45 (lN u) (nI m) Q (nI (b2 b)) := by
    intro m b hm hz hn hb
    unfold wpk_X8_charactersIn_45
    refine wpL_for m (fun k t => ∃ c : Bool, t = nI (b2 c) ∧ (c = true ↔ u / 256 ^ m = 0 ∧ ∀ j, 0 ≤ j → j < k → 33 ≤ byt u j ∧ byt u j ≤ 126)) ⟨b, rfl, hb.trans ⟨fun e => ⟨e, fun j _ hj => absurd hj (Nat.not_lt_zero _)⟩, fun e => e.1⟩⟩ ?_ ?_
    · intro t ht K
      obtain ⟨c, e1, e2⟩ := ht
      show wpb_X8_charactersIn_48 _ _ _ _ (nI m) t
      unfold wpb_X8_charactersIn_48
      obtain ⟨s1, s2⟩ := sgn_m hm hz hn 8 0 rfl (Nat.zero_le _)
      rw [e1]
      refine br_t (Int32.le_refl _) ?_
      cases c with
      | true =>
        have e : signs u = m := s1 (e2.mp rfl)
        rw [e] at h
        exact br_f n1z h
      | false =>
        have e : signs u = 0 := s2 (fun d => by have := e2.mpr d; cases this)
        rw [e] at h
        exact br_t rfl h
    · intro k t hk ht K hK
      obtain ⟨c, e1, e2⟩ := ht
      show wpb_X8_charactersIn_48 _ _ _ _ (nI k) t
      unfold wpb_X8_charactersIn_48
      rw [e1]
      refine br_f (nI_ge hk (by omega)) ?_
      have nxt : ∀ {b' : Bool}, (b' = true ↔ c = true ∧ 33 ≤ byt u k ∧ byt u k ≤ 126) → wpk_X8_charactersIn_80 (nI k) K (nI (b2 b')) := fun hb' i9 e9 => by
        rw [e9, nI_add]
        refine hK _ ⟨_, rfl, hb'.trans ⟨fun d => ⟨(e2.mp d.1).1, fun j _ hj => ?_⟩, fun d => ⟨e2.mpr ⟨d.1, fun j _ hj => d.2 j (Nat.zero_le _) (by omega)⟩, d.2 k (Nat.zero_le _) (by omega)⟩⟩⟩
        by_cases z : j = k
        · rw [z]; exact d.2
        · exact (e2.mp d.1).2 j (Nat.zero_le _) (by omega)
      cases c with
      | false => exact br_t rfl (nxt (b' := false) ⟨fun d => (by cases d), fun d => d.1⟩)
      | true =>
        refine br_f n1z (wp_code hu (by omega) (wp_wn (Nat.lt_trans (byt_lt u k) (by decide)) (by decide) (by decide) (fun g1 g2 => br_f n1z (nxt (b' := true) ⟨fun _ => ⟨rfl, g1, g2⟩, fun _ => rfl⟩)) (fun g => br_t rfl (nxt (b' := false) ⟨fun d => (by cases d), fun d => absurd d.2 g⟩))))
  have mid : ∀ {m : Nat}, m ≤ 8 → (m = 8 ∨ byt u m = 0) → (∀ j, j < m → byt u j ≠ 0) → wpk_X8_charactersIn_22 (lN u) Q (nI m) := by
    intro m hm hz hn
    unfold wpk_X8_charactersIn_22
    refine br_c (fun c => ?_) (fun c => ?_)
    · have c := (nI_eq (by omega) (by decide)).mp c
      subst c
      exact chk (b := true) (Nat.le_refl _) hz hn ⟨fun _ => h256, fun _ => rfl⟩
    · have c : m < 8 := Nat.lt_of_le_of_ne hm (fun e => c (by rw [e]))
      have hw : u / 256 ^ m < 2 ^ 64 := Nat.lt_of_le_of_lt (Nat.div_le_self _ _) hu
      rw [ush8 hu c]
      refine br_c (fun d => ?_) (fun d => ?_)
      · exact chk (b := true) hm hz hn ⟨fun _ => (lz hw).mp (lg0.mp d), fun _ => rfl⟩
      · exact chk (b := false) hm hz hn ⟨fun e => (by cases e), fun e => absurd (lg0.mpr ((lz hw).mpr e)) d⟩
  unfold wp_X8_charactersIn
  refine ⟨9, ?_⟩
  have key : ∀ d k, k + d = 8 → (∀ j, j < k → byt u j ≠ 0) → wpL (fun (K2 : (Int32) → Prop) (q : Int32) => wpb_X8_charactersIn_2 (lN u) Q K2 q) (d + 1) (nI k) := by
    intro d
    induction d with
    | zero =>
      intro k hk hn
      have e : k = 8 := by omega
      subst e
      show wpb_X8_charactersIn_2 _ _ _ (nI 8)
      unfold wpb_X8_charactersIn_2
      exact br_t (nle_re 8) (mid (Nat.le_refl _) (Or.inl rfl) hn)
    | succ d ih =>
      intro k hk hn
      show wpb_X8_charactersIn_2 _ _ _ (nI k)
      unfold wpb_X8_charactersIn_2
      refine br_f (nle_ge (show k < 8 by omega) (by decide)) (wp_code hu (by omega) ?_)
      have hb := byt_lt u k
      by_cases z : byt u k = 0
      · rw [z]
        exact br_t rfl (mid (by omega) (Or.inr z) hn)
      · refine br_f (nI_ne0 (by omega) (by omega)) (fun i20 e20 => ?_)
        rw [e20, nI_add]
        refine ih (k + 1) (by omega) (fun j hj => ?_)
        by_cases c : j = k
        · rw [c]; exact z
        · exact hn j (by omega)
  exact key 8 0 rfl (fun j hj => absurd hj (Nat.not_lt_zero _))
section MWR
variable {S0 S S' : PS} {tg : Nat → Nat × Nat} {m : Nat} {bd : Nat → Nat} {A A' : Nat → Nat → Int32} {I I' : Nat → Int32} {v : LM} {hist : List LM} {sl : Nat → Option LM} {pad : List Nat} {P : Int32 → PS → Prop}
theorem md_wipe (h : MdS S0 S tg m bd A I) (hr : RA A I v hist sl pad) (hP : ∀ S' A' I', MdS S0 S' tg m bd A' I' → RA A' I' v hist sl [] → P (nI pad.length) S') : wp_X8_wipe S m P := by
  obtain ⟨r1, r2, r4, r5, r6, r7⟩ := hr
  unfold wp_X8_wipe
  refine gI_of h.ob rfl (pF_of h.ob (Nat.le_of_ble_eq_true rfl) _ rfl ?_)
  show P (I 1) _
  rw [r6.1]
  exact hP _ A (va_up I 1 (nI 0)) (h.setI rfl) ⟨r1, r2, r4, r5, ⟨va_up_self _ _ _, Nat.zero_le _⟩, fun k hk => absurd hk (Nat.not_lt_zero _)⟩
theorem md_write_no {u : Nat} (hu : u < 2 ^ 64) (h0 : signs u = 0) (hP : P (-2) S) : wp_X8_write S m (lN u) P := by
  unfold wp_X8_write
  exact wp_chars hu (by rw [h0]; exact br_t rfl hP)
theorem md_write_many {u : Nat} (h : MdS S0 S tg m bd A I) (hr : RA A I v hist sl pad) (hu : u < 2 ^ 64) (h0 : ¬ signs u = 0) (hl : 40 < pad.length + signs u) (hP : P (-4) S) : wp_X8_write S m (lN u) P := by
  have h8 := (signs_ok u).1
  have h40 := hr.2.2.2.2.1
  unfold wp_X8_write
  refine wp_chars hu (br_f (nI_ne0 (by omega) (by omega)) (gI_of h.ob rfl ?_))
  show (I 1 + nI (signs u) ≤ nI 40 → _) ∧ (¬ I 1 + nI (signs u) ≤ nI 40 → _)
  rw [h40.1, nI_add]
  exact br_f (nI_ge hl (by omega)) hP
theorem md_write {u : Nat} (h : MdS S0 S tg m bd A I) (hr : RA A I v hist sl pad) (hu : u < 2 ^ 64) (h0 : ¬ signs u = 0) (hl : pad.length + signs u ≤ 40) (hP : ∀ S' A' I', MdS S0 S' tg m bd A' I' → RA A' I' v hist sl (pad ++ wtx u) → P (nI (pad.length + signs u)) S') : wp_X8_write S m (lN u) P := by
  obtain ⟨h8, hb⟩ := signs_ok u
  obtain ⟨r1, r2, r4, r5, r6, r7⟩ := hr
  unfold wp_X8_write
  refine wp_chars hu (br_f (nI_ne0 (by omega) (by omega)) (gI_of h.ob rfl ?_))
  show (I 1 + nI (signs u) ≤ nI 40 → _) ∧ (¬ I 1 + nI (signs u) ≤ nI 40 → _)
  rw [r6.1, nI_add]
  refine br_t (nI_le hl (by decide)) (fun i7 e7 => ?_)
  rw [e7]
  refine wpL_down (signs u) (fun k S1 => ∃ F J, MdS S0 S1 tg m bd (va_up A 4 F) J ∧ J 0 = I 0 ∧ J 1 = nI (pad.length + (signs u - k)) ∧ ∀ q, q < pad.length + (signs u - k) → F q = nI ((pad ++ dsc u (signs u) (signs u - k)).getD q 0)) ⟨A 4, I, by rw [va1]; exact h, rfl, by rw [Nat.sub_self]; exact r6.1, fun q hq => ?_⟩ ?_ ?_
  · rw [Nat.sub_self] at hq ⊢
    show _ = nI ((pad ++ []).getD q 0)
    rw [List.append_nil]; exact r7 q hq
  · intro S1 hS K
    obtain ⟨F, J, h1, j0, j1, c1⟩ := hS
    show wpb_X8_write_31 _ _ _ _ (-1) S1
    unfold wpb_X8_write_31
    refine br_t (by decide) (gI_of h1.ob rfl ?_)
    show P (J 1) S1
    rw [j1]
    refine hP _ _ J h1 ⟨r1, by rw [j0]; exact r2, r4, r5, ⟨?_, ?_⟩, fun k hk => ?_⟩
    · rw [j1]
      show _ = nI (pad ++ dsc u (signs u) (signs u)).length
      rw [List.length_append, dsc_len, Nat.sub_zero]
    · show (pad ++ dsc u (signs u) (signs u)).length ≤ 40
      rw [List.length_append, dsc_len]; exact hl
    · have hk : k < (pad ++ dsc u (signs u) (signs u)).length := hk
      rw [List.length_append, dsc_len] at hk
      exact c1 k (by omega)
  · intro k S1 hk hS K hK
    obtain ⟨F, J, h1, j0, j1, c1⟩ := hS
    show wpb_X8_write_31 _ _ _ _ (nI k) S1
    unfold wpb_X8_write_31
    have hj : signs u - k = signs u - (k + 1) + 1 := by omega
    refine br_f (nI_pos (by omega)) (gR_of h1.ob rfl (gI_of h1.ob rfl (wp_code hu (by omega) ?_)))
    show sI S1 (bd 4) (J 1) _ _
    rw [j1]
    refine sI_of (h1.ar (i := 4) (by decide)) (show pad.length + (signs u - (k + 1)) < 40 by omega) (by decide) ?_
    have h2 := h1.setA (i := 4) (F := upd F (pad.length + (signs u - (k + 1))) (nI (byt u k))) (by decide)
    rw [va2] at h2
    refine gI_of h2.ob rfl (pF_of h2.ob (Nat.le_of_ble_eq_true rfl) _ rfl (fun i31 e31 => ?_))
    rw [e31]
    refine hK _ ⟨_, va_up J 1 (J 1 + nI 1), h2.setI rfl, (va_up_ne _ _ (by decide)).trans j0, ?_, fun q hq => ?_⟩
    · rw [va_up_self, j1, nI_add, hj]; rfl
    · rw [hj]
      show _ = nI ((pad ++ (dsc u (signs u) (signs u - (k + 1)) ++ [byt u (signs u - 1 - (signs u - (k + 1)))])).getD q 0)
      rw [← List.append_assoc]
      have hlen : (pad ++ dsc u (signs u) (signs u - (k + 1))).length = pad.length + (signs u - (k + 1)) := by rw [List.length_append, dsc_len]
      by_cases z : q = pad.length + (signs u - (k + 1))
      · rw [z, pk_us, ← hlen, getD_app_r]; congr 2; omega
      · rw [pk_un z, c1 q (by omega), getD_app_l (l := pad ++ dsc u (signs u) (signs u - (k + 1))) (by omega)]
end MWR
