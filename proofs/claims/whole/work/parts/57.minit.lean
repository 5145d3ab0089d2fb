/-! ===== the reference: a new one ===== -/
def MdP (S0 : PS) (tg0 : Nat → Nat × Nat) (m : Nat) (S : PS) (tg : Nat → Nat × Nat) (L : List Nat) (fs : List Value) : Prop := tg m = (m, 40) ∧ (∀ j, j < L.length → tg (L.getD j 0) = (m, 41 + j) ∧ S (L.getD j 0) = aI (szs j) (fun _ => 0)) ∧ S m = .inl (6, fs) ∧ ∀ b, S0 b ≠ oJ → b ≠ m → S b = S0 b ∧ tg b = tg0 b
section MIN
variable {S0 S S' : PS} {tg0 tg : Nat → Nat × Nat} {m : Nat} {L : List Nat} {fs : List Value}
theorem gD_l {L2 : List Nat} {j : Nat} (h : j < L.length) : (L ++ L2).getD j 0 = L.getD j 0 := by
  simp [List.getD, List.getElem?_append_left h]
theorem gD_r {q : Nat} : (L ++ [q]).getD L.length 0 = q := by simp [List.getD]
theorem md_nw {P : Nat → PS → Prop} {k n : Nat} (h : MdP S0 tg0 m S tg L fs) (hn : szs L.length = n) (hk : k < fs.length) (hP : ∀ q S' tg', MdP S0 tg0 m S' tg' (L ++ [q]) (fs.set k (.ref q)) → P q S') : nw S (aI n (fun _ => 0)) (fun a S2 => pF S2 m 6 k (.ref a) (fun S5 => P a S5)) := by
  obtain ⟨h1, h2, h3, h4⟩ := h
  intro q hq S2 e2
  rw [e2]
  have hqm : m ≠ q := fun e => by
    rw [e, hq] at h3
    exact absurd h3 (by intro c; cases c)
  have hqL : ∀ j, j < L.length → L.getD j 0 ≠ q := fun j hj e => by
    have := (h2 j hj).2
    rw [e, hq] at this
    cases this
  have hLm : ∀ j, j < L.length → L.getD j 0 ≠ m := fun j hj e => by
    have := (h2 j hj).2
    rw [e, h3] at this
    cases this
  refine pF_of (fs := fs) ((up_n hqm).trans h3) hk _ rfl (hP q _ (va_up tg q (m, 41 + L.length)) ⟨?_, fun j hj => ?_, up_s _ _ _, fun b hb hbm => ?_⟩)
  · rw [va_up_ne _ _ hqm]; exact h1
  · rw [List.length_append] at hj
    have hj : j < L.length + 1 := hj
    by_cases z : j = L.length
    · rw [z, gD_r, va_up_self, up_n (Ne.symm hqm), up_s, hn]
      exact ⟨rfl, rfl⟩
    · have hj2 : j < L.length := by omega
      rw [gD_l hj2, va_up_ne _ _ (hqL j hj2), up_n (hLm j hj2), up_n (hqL j hj2)]
      exact h2 j hj2
  · obtain ⟨e1, e3⟩ := h4 b hb hbm
    have hbq : b ≠ q := fun e => hb (by rw [← e1, e, hq])
    rw [up_n hbm, up_n hbq, va_up_ne _ _ hbq]
    exact ⟨e1, e3⟩
theorem v0_stn {G : Nat → Int32} (h1 : ∀ p, p < 12 → G p = nI (p % 6) ∧ G (18 + p) = nI p) (h2 : ∀ t, t < 6 → G (12 + t) = nI (2 ^ t)) (h3 : ∀ q, 30 ≤ q → G q = nI 0) : ∀ k, k < 194 → G k = stn v0 k := fun k hk => by
  unfold stn
  by_cases c1 : k < 12
  · rw [if_pos c1]; exact (h1 k c1).1
  rw [if_neg c1]
  by_cases c2 : k < 18
  · rw [if_pos c2]
    have := h2 (k - 12) (by omega)
    rw [show 12 + (k - 12) = k by omega] at this
    exact this
  rw [if_neg c2]
  by_cases c3 : k < 30
  · rw [if_pos c3]
    have := (h1 (k - 18) (by omega)).2
    rw [show 18 + (k - 18) = k by omega] at this
    exact this
  rw [if_neg c3, h3 k (by omega)]
  by_cases c4 : k < 42
  · rw [if_pos c4]; rfl
  rw [if_neg c4]
  by_cases c5 : k < 48
  · rw [if_pos c5]; rfl
  rw [if_neg c5]
  by_cases c6 : k < 192
  · rw [if_pos c6]; rfl
  rw [if_neg c6]
  by_cases c7 : k < 193
  · rw [if_pos c7]; rfl
  · rw [if_neg c7]; rfl
theorem md_new {P : PS → Prop} (h : S m = .inl (6, [.null, .null, .int 0, .null, .null, .null, .int 0, .int 0, .null, .int 0, .null, .null, .null, .null, .int 0])) (ht : tg m = (m, 40)) (hP : ∀ S' tg' bd A I, MdX S' tg' m bd A I → RA A I v0 [] (fun _ => none) [] → (∀ b, S b ≠ oJ → (tg b).2 < 40 → S' b = S b ∧ tg' b = tg b) → P S') : wp_X8_init S m P := by
  have h0 : MdP S tg m S tg [] [.null, .null, .int 0, .null, .null, .null, .int 0, .int 0, .null, .int 0, .null, .null, .null, .null, .int 0] := ⟨ht, fun j hj => absurd hj (Nat.not_lt_zero _), h, fun b _ _ => ⟨rfl, rfl⟩⟩
  unfold wp_X8_init
  refine md_nw h0 rfl (Nat.le_of_ble_eq_true rfl) (fun q0 S1 t1 h1 => ?_)
  refine md_nw h1 rfl (Nat.le_of_ble_eq_true rfl) (fun q1 S2 t2 h2 => ?_)
  refine md_nw h2 rfl (Nat.le_of_ble_eq_true rfl) (fun q2 S3 t3 h3 => ?_)
  refine md_nw h3 rfl (Nat.le_of_ble_eq_true rfl) (fun q3 S4 t4 h4 => ?_)
  refine md_nw h4 rfl (Nat.le_of_ble_eq_true rfl) (fun q4 S5 t5 h5 => ?_)
  refine md_nw h5 rfl (Nat.le_of_ble_eq_true rfl) (fun q5 S6 t6 h6 => ?_)
  refine md_nw h6 rfl (Nat.le_of_ble_eq_true rfl) (fun q6 S7 t7 h7 => ?_)
  refine md_nw h7 rfl (Nat.le_of_ble_eq_true rfl) (fun q7 S8 t8 h8 => ?_)
  refine md_nw h8 rfl (Nat.le_of_ble_eq_true rfl) (fun q8 S9 t9 h9 => ?_)
  refine md_nw h9 rfl (Nat.le_of_ble_eq_true rfl) (fun q9 SA tA hA => ?_)
  have hA : MdP S tg m SA tA [q0, q1, q2, q3, q4, q5, q6, q7, q8, q9] [.ref q0, .ref q1, .int 0, .ref q2, .ref q3, .ref q4, .int 0, .int 0, .ref q5, .int 0, .ref q6, .ref q7, .ref q8, .ref q9, .int 0] := hA
  obtain ⟨g1, g2, g3, g4⟩ := hA
  have hX : MdX SA tA m (fun j => [q0, q1, q2, q3, q4, q5, q6, q7, q8, q9].getD j 0) (fun _ _ => 0) (fun _ => 0) := ⟨g1, fun i hi => (g2 i hi).1, g3, fun i hi => (g2 i hi).2⟩
  generalize (fun j => [q0, q1, q2, q3, q4, q5, q6, q7, q8, q9].getD j 0) = bd at hX
  have hM := MdS.rfl' hX
  have fr : ∀ {S'}, MF SA tA S' → ∀ b, S b ≠ oJ → (tg b).2 < 40 → S' b = S b ∧ tA b = tg b := fun hm b hb hr => by
    have hbm : b ≠ m := fun e => by rw [e, ht] at hr; exact absurd hr (Nat.lt_irrefl 40)
    obtain ⟨e1, e2⟩ := g4 b hb hbm
    exact ⟨(hm b (by rw [e2]; exact hr)).trans e1, e2⟩
  have eA : va_up (fun (_ : Nat) (_ : Nat) => (0 : Int32)) 0 (fun (_ : Nat) => (0 : Int32)) = fun (_ : Nat) (_ : Nat) => (0 : Int32) := funext fun j => (if z : j = 0 then by rw [z, va_up_self] else va_up_ne _ _ z)
  refine wpL_for 12 (fun k S3 => ∃ G, MdS SA S3 tA m bd (va_up (fun _ _ => 0) 0 G) (fun _ => 0) ∧ (∀ p, p < k → G p = nI (p % 6) ∧ G (18 + p) = nI p) ∧ ∀ q, 30 ≤ q → G q = nI 0) ⟨fun _ => 0, by rw [eA]; exact hM, fun p hp => absurd hp (Nat.not_lt_zero _), fun _ _ => rfl⟩ ?_ ?_
  · rintro S3 ⟨G, h3, e1, e2⟩ K
    show wpb_X8_init_89 _ _ _ (nI 12) S3
    unfold wpb_X8_init_89
    refine br_t (nle_re 12) ?_
    refine wpL_for 6 (fun k S4 => ∃ G, MdS SA S4 tA m bd (va_up (fun _ _ => 0) 0 G) (fun _ => 0) ∧ (∀ p, p < 12 → G p = nI (p % 6) ∧ G (18 + p) = nI p) ∧ (∀ t, t < k → G (12 + t) = nI (2 ^ t)) ∧ ∀ q, 30 ≤ q → G q = nI 0) ⟨G, h3, e1, fun t ht => absurd ht (Nat.not_lt_zero _), e2⟩ ?_ ?_
    · rintro S4 ⟨G2, h4, a1, a2, a3⟩ K2
      show wpb_X8_init_125 _ _ _ (nI 6) S4
      unfold wpb_X8_init_125
      refine br_t (nle_re 6) (hP S4 tA bd _ _ h4.1 ⟨v0_stn a1 a2 a3, ⟨rfl, Nat.zero_le _⟩, fun j hj => absurd hj (Nat.not_lt_zero _), fun j hj => ⟨fun _ => ?_, fun w hw => ?_⟩, ⟨rfl, Nat.zero_le _⟩, fun k hk => absurd hk (Nat.not_lt_zero _)⟩ (fr h4.2))
      · rw [va_up_ne _ _ (by decide)]; rfl
      · cases hw
    · rintro k S4 hk ⟨G2, h4, a1, a2, a3⟩ K2 hK2
      show wpb_X8_init_125 _ _ _ (nI k) S4
      unfold wpb_X8_init_125
      refine br_f (nle_ge hk (by decide)) (gR_of h4.ob rfl ?_)
      rw [nI_add, sh1 (by omega)]
      refine md_set h4 (show 12 + k < 194 by omega) (fun S5 h5 i64 e64 => ?_)
      rw [e64, nI_add]
      have hs : MdS SA S5 tA m bd (va_up (fun _ _ => 0) 0 (upd G2 (12 + k) (nI (2 ^ k)))) (fun _ => 0) := by simpa only [va2, va_up_self] using h5
      refine hK2 _ ⟨_, hs, fun p hp => ?_, fun t ht => ?_, fun q hq => ?_⟩
      · rw [pk_un (by omega), pk_un (by omega)]; exact a1 p hp
      · by_cases z : t = k
        · rw [z, pk_us]
        · rw [pk_un (by omega)]; exact a2 t (by omega)
      · rw [pk_un (by omega)]; exact a3 q hq
  · rintro k S3 hk ⟨G, h3, e1, e2⟩ K hK
    show wpb_X8_init_89 _ _ _ (nI k) S3
    unfold wpb_X8_init_89
    refine br_f (nle_ge hk (by decide)) (gR_of h3.ob rfl ?_)
    rw [nI_add, Nat.zero_add, pk_rem (by omega) (by decide) (by decide), nI_add]
    refine md_set h3 (show k < 194 by omega) (fun S4 h4 => gR_of h4.ob rfl (md_set h4 (show 18 + k < 194 by omega) (fun S5 h5 i80 e80 => ?_)))
    rw [e80, nI_add]
    have hs : MdS SA S5 tA m bd (va_up (fun _ _ => 0) 0 (upd (upd G k (nI (k % 6))) (18 + k) (nI k))) (fun _ => 0) := by simpa only [va2, va_up_self] using h5
    refine hK _ ⟨_, hs, fun p hp => ?_, fun q hq => ?_⟩
    · by_cases z : p = k
      · rw [z, pk_un (by omega), pk_us, pk_us]
        exact ⟨rfl, rfl⟩
      · rw [pk_un (by omega), pk_un (by omega), pk_un (by omega), pk_un (by omega)]
        exact e1 p (by omega)
    · rw [pk_un (by omega), pk_un (by omega)]; exact e2 q hq
end MIN
