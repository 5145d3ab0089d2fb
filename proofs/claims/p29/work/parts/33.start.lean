/-! ===== the class is made ===== -/
def FaE (S : PS) (tg : Nat → Nat × Nat) (x : Nat) (E : Nat → Option (Nat × Ob)) : Prop := ∀ r a o, E r = some (a, o) → S a = o ∧ tg a = (x, r) ∧ o ≠ oJ ∧ 20 ≤ r
def StE (S0 : PS) (tg0 : Nat → Nat × Nat) (x l : Nat) (E : Nat → Option (Nat × Ob)) (S : PS) (tg : Nat → Nat × Nat) : Prop := FaE S tg x E ∧ LmAt S tg l v0 ∧ (∀ b, S0 b ≠ oJ → b ≠ x → S b = S0 b ∧ tg b = tg0 b) ∧ (∀ r a o, E r = some (a, o) → S0 a = oJ ∨ a = x)
section STE
variable {S0 S : PS} {tg0 tg : Nat → Nat × Nat} {x l : Nat} {E : Nat → Option (Nat × Ob)}
theorem StE.new {q r : Nat} {o : Ob} (h : StE S0 tg0 x l E S tg) (hq : S q = oJ) (ho : o ≠ oJ) (hr : 20 ≤ r) (hx : S0 x ≠ oJ → S x ≠ oJ) : StE S0 tg0 x l (va_up E r (some (q, o))) (va_up S q o) (va_up tg q (x, r)) := by
  obtain ⟨h1, h2, h3, h4⟩ := h
  have nq : ∀ {b}, S b ≠ oJ → b ≠ q := fun hb z => hb (by rw [z]; exact hq)
  have h0 : S0 q = oJ := Classical.byContradiction fun c => by
    by_cases z : q = x
    · rw [z] at c hq; exact hx c hq
    · exact c (by rw [← (h3 q c z).1]; exact hq)
  refine ⟨fun r' a o' e => ?_, ?_, fun b hb hbx => ?_, fun r' a o' e => ?_⟩
  · by_cases z : r' = r
    · rw [z, va_up_self] at e
      cases e
      exact ⟨up_s _ _ _, by rw [va_up_self, z], ho, by omega⟩
    · rw [va_up_ne _ _ z] at e
      obtain ⟨a1, a2, a3, a4⟩ := h1 r' a o' e
      have : a ≠ q := nq (by rw [a1]; exact a3)
      exact ⟨by rw [up_n this]; exact a1, by rw [va_up_ne _ _ this]; exact a2, a3, a4⟩
  · exact h2.keep (fun b _ hb => ⟨up_n (nq hb), va_up_ne _ _ (nq hb)⟩)
  · have e := h3 b hb hbx
    have : b ≠ q := nq (by rw [e.1]; exact hb)
    exact ⟨by rw [up_n this]; exact e.1, by rw [va_up_ne _ _ this]; exact e.2⟩
  · by_cases z : r' = r
    · rw [z, va_up_self] at e
      cases e
      exact Or.inl h0
    · rw [va_up_ne _ _ z] at e
      exact h4 r' a o' e
theorem StE.upd {r a : Nat} {o o' : Ob} (h : StE S0 tg0 x l E S tg) (e : E r = some (a, o)) (ho : o' ≠ oJ) : StE S0 tg0 x l (va_up E r (some (a, o'))) (va_up S a o') tg := by
  obtain ⟨h1, h2, h3, h4⟩ := h
  obtain ⟨a1, a2, a3, a4⟩ := h1 r a o e
  refine ⟨fun r' b ob eb => ?_, ?_, fun b hb hbx => ?_, fun r' b ob eb => ?_⟩
  · by_cases z : r' = r
    · rw [z, va_up_self] at eb
      cases eb
      exact ⟨up_s _ _ _, by rw [z]; exact a2, ho, by omega⟩
    · rw [va_up_ne _ _ z] at eb
      obtain ⟨b1, b2, b3, b4⟩ := h1 r' b ob eb
      exact ⟨by rw [up_n (tne b2 a2 (pne z))]; exact b1, b2, b3, b4⟩
  · exact h2.frame2 (fun b hb => up_n (fun z => by rw [z, a2] at hb; exact absurd a4 (Nat.not_le_of_lt hb)))
  · have e2 := h3 b hb hbx
    have : b ≠ a := fun z => by
      rcases h4 r a o e with c | c
      · exact hb (by rw [z]; exact c)
      · exact hbx (by rw [z]; exact c)
    exact ⟨by rw [up_n this]; exact e2.1, e2.2⟩
  · by_cases z : r' = r
    · rw [z, va_up_self] at eb
      cases eb
      exact h4 r a o e
    · rw [va_up_ne _ _ z] at eb
      exact h4 r' b ob eb
theorem StE.at {r a : Nat} {o : Ob} (h : StE S0 tg0 x l E S tg) (e : E r = some (a, o)) : S a = o := (h.1 r a o e).1
theorem StE.xl {o : Ob} (h : StE S0 tg0 x l E S tg) (e : E 20 = some (x, o)) : S0 x ≠ oJ → S x ≠ oJ := fun _ => by
  obtain ⟨a1, -, a3, -⟩ := h.1 20 x o e
  rw [a1]; exact a3
end STE
theorem tk_new {S : PS} {tg : Nat → Nat × Nat} {x : Nat} {P : PS → Prop} (h : S x = .inl (5, [.null, .null, .null, .null, .null, .null])) (ht : tg x = (x, 20)) (hP : ∀ S' tg' ad, TkF S' tg' x ad (fun _ => none) (fun _ => none) v0 [] (fun _ => none) [] → (∀ b, S b ≠ oJ → b ≠ x → S' b = S b ∧ tg' b = tg b) → P S') : wp_X7_init S x P := by
  unfold wp_X7_init
  have lv : ∀ {ci : Nat} {fs : List Value}, ci < 99 → (Sum.inl (ci, fs) : Ob) ≠ oJ := fun hc => l_ne_oJ (by omega)
  -- the loom
  intro l hl S1 e1
  have s1l : S1 l = .inl (1, [.long 0, .long 0, .long 0, .null, .null, .int 0, .int 0]) := by rw [e1, up_s]
  refine ⟨by rw [s1l]; exact lv (by decide), ?_⟩
  have nl : ∀ {b}, S b ≠ oJ → b ≠ l := fun hb z => hb (by rw [z]; exact hl)
  refine wp_initL (tg := va_up tg l (l, 0)) s1l (va_up_self _ _ _) (fun S2 tg2 l2 k2 => ?_)
  have old : ∀ b, S b ≠ oJ → tg2 b = tg b ∧ S2 b = S b := fun b hb => by
    have z := k2 b (by rw [e1, up_n (nl hb)]; exact hb)
    exact ⟨z.1.trans (va_up_ne _ _ (nl hb)), (z.2.2 (nl hb)).trans (by rw [e1, up_n (nl hb)])⟩
  have hx0 : S x ≠ oJ := by rw [h]; exact lv (by decide)
  have h0 : StE S tg x l (va_up (fun _ => none) 20 (some (x, .inl (5, [.null, .null, .null, .null, .null, .null])))) S2 tg2 := by
    refine ⟨fun r a o e => ?_, l2, fun b hb _ => ⟨(old b hb).2, (old b hb).1⟩, fun r a o e => ?_⟩
    · by_cases z : r = 20
      · rw [z, va_up_self] at e
        cases e
        exact ⟨(old x hx0).2.trans h, (old x hx0).1.trans (by rw [ht, z]), lv (by decide), by omega⟩
      · rw [va_up_ne _ _ z] at e; cases e
    · by_cases z : r = 20
      · rw [z, va_up_self] at e
        cases e
        exact Or.inr rfl
      · rw [va_up_ne _ _ z] at e; cases e
  refine pF_of (h0.at (r := 20) rfl) (Nat.le_of_ble_eq_true rfl) _ rfl ?_
  have h1 := h0.upd (r := 20) (o' := .inl (5, [.ref l, .null, .null, .null, .null, .null])) rfl (lv (by decide))
  -- the past
  intro a1 q1 S3 e3
  rw [e3]
  have h2 := h1.new (r := 21) (o := .inl (3, [.null, .int 0])) q1 (lv (by decide)) (by decide) (h1.xl rfl)
  refine ⟨by rw [up_s]; exact lv (by decide), ?_⟩
  unfold wp_X3_init
  intro a2 q2 S4 e4
  rw [e4]
  have h3 := h2.new (r := 22) (o := aL 6 (fun _ => none)) q2 r_ne_oJ (by decide) (h2.xl rfl)
  refine pF_of (h3.at (r := 21) rfl) (Nat.le_of_ble_eq_true rfl) _ rfl ?_
  have h4 := h3.upd (r := 21) (o' := .inl (3, [.ref a2, .int 0])) rfl (lv (by decide))
  refine pF_of (h4.at (r := 21) rfl) (Nat.le_of_ble_eq_true rfl) _ rfl ?_
  have h5 := h4.upd (r := 21) (o' := .inl (3, [.ref a2, .int (nI 0)])) rfl (lv (by decide))
  refine pF_of (h5.at (r := 20) rfl) (Nat.le_of_ble_eq_true rfl) _ rfl ?_
  have h6 := h5.upd (r := 20) (o' := .inl (5, [.ref l, .ref a1, .null, .null, .null, .null])) rfl (lv (by decide))
  -- the slots
  intro a3 q3 S5 e5
  rw [e5]
  have h7 := h6.new (r := 23) (o := aL 2 (fun _ => none)) q3 r_ne_oJ (by decide) (h6.xl rfl)
  refine pF_of (h7.at (r := 20) rfl) (Nat.le_of_ble_eq_true rfl) _ rfl ?_
  have h8 := h7.upd (r := 20) (o' := .inl (5, [.ref l, .ref a1, .ref a3, .null, .null, .null])) rfl (lv (by decide))
  -- the pad
  intro a4 q4 S6 e6
  rw [e6]
  have h9 := h8.new (r := 24) (o := .inl (2, [.null, .int 0])) q4 (lv (by decide)) (by decide) (h8.xl rfl)
  refine ⟨by rw [up_s]; exact lv (by decide), ?_⟩
  unfold wp_X2_init
  intro a5 q5 S7 e7
  rw [e7]
  have h10 := h9.new (r := 25) (o := aC 40 (fun _ => 0)) q5 r_ne_oJ (by decide) (h9.xl rfl)
  refine pF_of (h10.at (r := 24) rfl) (Nat.le_of_ble_eq_true rfl) _ rfl ?_
  have h11 := h10.upd (r := 24) (o' := .inl (2, [.ref a5, .int 0])) rfl (lv (by decide))
  refine pF_of (h11.at (r := 24) rfl) (Nat.le_of_ble_eq_true rfl) _ rfl ?_
  have h12 := h11.upd (r := 24) (o' := .inl (2, [.ref a5, .int (nI 0)])) rfl (lv (by decide))
  refine pF_of (h12.at (r := 20) rfl) (Nat.le_of_ble_eq_true rfl) _ rfl ?_
  have h13 := h12.upd (r := 20) (o' := .inl (5, [.ref l, .ref a1, .ref a3, .ref a4, .null, .null])) rfl (lv (by decide))
  -- the search
  intro a6 q6 S8 e8
  rw [e8]
  have h14 := h13.new (r := 26) (o := .inl (4, [.null, .int 0, .null, .int 0, .null])) q6 (lv (by decide)) (by decide) (h13.xl rfl)
  refine ⟨by rw [up_s]; exact lv (by decide), ?_⟩
  unfold wp_X5_init
  intro a7 q7 S9 e9
  rw [e9]
  have h15 := h14.new (r := 27) (o := aJ 6 (fun _ => 0)) q7 r_ne_oJ (by decide) (h14.xl rfl)
  refine pF_of (h15.at (r := 26) rfl) (Nat.le_of_ble_eq_true rfl) _ rfl ?_
  have h16 := h15.upd (r := 26) (o' := .inl (4, [.ref a7, .int 0, .null, .int 0, .null])) rfl (lv (by decide))
  refine pF_of (h16.at (r := 26) rfl) (Nat.le_of_ble_eq_true rfl) _ rfl ?_
  have h17 := h16.upd (r := 26) (o' := .inl (4, [.ref a7, .int (nI 0), .null, .int 0, .null])) rfl (lv (by decide))
  intro a8 q8 S10 e10
  rw [e10]
  have h18 := h17.new (r := 28) (o := aJ 301 (fun _ => 0)) q8 r_ne_oJ (by decide) (h17.xl rfl)
  refine pF_of (h18.at (r := 26) rfl) (Nat.le_of_ble_eq_true rfl) _ rfl ?_
  have h19 := h18.upd (r := 26) (o' := .inl (4, [.ref a7, .int (nI 0), .ref a8, .int 0, .null])) rfl (lv (by decide))
  refine pF_of (h19.at (r := 26) rfl) (Nat.le_of_ble_eq_true rfl) _ rfl ?_
  have h20 := h19.upd (r := 26) (o' := .inl (4, [.ref a7, .int (nI 0), .ref a8, .int (nI 0), .null])) rfl (lv (by decide))
  intro a9 q9 S11 e11
  rw [e11]
  have h21 := h20.new (r := 29) (o := aJ 1024 (fun _ => 0)) q9 r_ne_oJ (by decide) (h20.xl rfl)
  refine pF_of (h21.at (r := 26) rfl) (Nat.le_of_ble_eq_true rfl) _ rfl ?_
  have h22 := h21.upd (r := 26) (o' := .inl (4, [.ref a7, .int (nI 0), .ref a8, .int (nI 0), .ref a9])) rfl (lv (by decide))
  refine pF_of (h22.at (r := 20) rfl) (Nat.le_of_ble_eq_true rfl) _ rfl ?_
  have h23 := h22.upd (r := 20) (o' := .inl (5, [.ref l, .ref a1, .ref a3, .ref a4, .ref a6, .null])) rfl (lv (by decide))
  -- the draft laid aside
  intro a10 q10 S12 e12
  rw [e12]
  have h24 := h23.new (r := 30) (o := .inl (0, [.null, .int 0])) q10 (lv (by decide)) (by decide) (h23.xl rfl)
  refine ⟨by rw [up_s]; exact lv (by decide), ?_⟩
  unfold wp_X0_init
  intro a11 q11 S13 e13
  rw [e13]
  have h25 := h24.new (r := 31) (o := aI 24 (fun _ => 0)) q11 r_ne_oJ (by decide) (h24.xl rfl)
  refine pF_of (h25.at (r := 30) rfl) (Nat.le_of_ble_eq_true rfl) _ rfl ?_
  have h26 := h25.upd (r := 30) (o' := .inl (0, [.ref a11, .int 0])) rfl (lv (by decide))
  refine pF_of (h26.at (r := 30) rfl) (Nat.le_of_ble_eq_true rfl) _ rfl ?_
  have h27 := h26.upd (r := 30) (o' := .inl (0, [.ref a11, .int (nI 0)])) rfl (lv (by decide))
  refine pF_of (h27.at (r := 20) rfl) (Nat.le_of_ble_eq_true rfl) _ rfl ?_
  have h28 := h27.upd (r := 20) (o' := .inl (5, [.ref l, .ref a1, .ref a3, .ref a4, .ref a6, .ref a10])) rfl (lv (by decide))
  have F := h28.1
  have f : ∀ {r a : Nat} {o : Ob}, _ := fun {r a o} => F r a o
  refine hP _ _ (fun j => [l, a1, a2, a3, a4, a5, a6, a7, a8, a9, a10, a11].getD j 0) ?_ h28.2.2.1
  refine ⟨⟨(F 20 _ _ rfl).2.1, fun j j1 j2 => ?_⟩, (F 20 _ _ rfl).1, ⟨(F 21 _ _ rfl).1, Nat.zero_le _, (F 22 _ _ rfl).1, (F 23 _ _ rfl).1⟩, h28.2.1, fun k hk => ⟨fun w hw => ?_, fun a c => ?_⟩, fun j hj => ⟨fun _ => rfl, fun w c => ?_⟩, fun i j a hi hj c1 c2 => ?_, ⟨(F 24 _ _ rfl).1, Nat.zero_le _, ⟨_, (F 25 _ _ rfl).1, fun k c => absurd c (Nat.not_lt_zero _)⟩, fun k c => absurd c (Nat.not_lt_zero _)⟩, ⟨⟨_, _, (F 26 _ _ rfl).1⟩, ⟨_, (F 27 _ _ rfl).1⟩, ⟨_, (F 28 _ _ rfl).1⟩, _, (F 29 _ _ rfl).1⟩, ⟨_, (F 30 _ _ rfl).1⟩, _, (F 31 _ _ rfl).1⟩
  · rcases (by omega : j = 1 ∨ j = 2 ∨ j = 3 ∨ j = 4 ∨ j = 5 ∨ j = 6 ∨ j = 7 ∨ j = 8 ∨ j = 9 ∨ j = 10 ∨ j = 11) with z | z | z | z | z | z | z | z | z | z | z
    · rw [z]; exact (F 21 _ _ rfl).2.1
    · rw [z]; exact (F 22 _ _ rfl).2.1
    · rw [z]; exact (F 23 _ _ rfl).2.1
    · rw [z]; exact (F 24 _ _ rfl).2.1
    · rw [z]; exact (F 25 _ _ rfl).2.1
    · rw [z]; exact (F 26 _ _ rfl).2.1
    · rw [z]; exact (F 27 _ _ rfl).2.1
    · rw [z]; exact (F 28 _ _ rfl).2.1
    · rw [z]; exact (F 29 _ _ rfl).2.1
    · rw [z]; exact (F 30 _ _ rfl).2.1
    · rw [z]; exact (F 31 _ _ rfl).2.1
  · cases hw
  · cases c
  · cases c
  · have z0 : ∀ {i : Nat}, i < 9 → lo ([l, a1, a2, a3, a4, a5, a6, a7, a8, a9, a10, a11].getD 0 0) (fun _ => none) (fun _ => none) i = some a → i = 0 := fun {i} hi c => by
      rcases lo_cases (l0 := [l, a1, a2, a3, a4, a5, a6, a7, a8, a9, a10, a11].getD 0 0) hi with z | ⟨k, hk, z⟩ | ⟨k, hk, z⟩
      · exact z
      · rw [z, lo_f hk] at c; cases c
      · rw [z, lo_g] at c; cases c
    rw [z0 hi c1, z0 hj c2]
