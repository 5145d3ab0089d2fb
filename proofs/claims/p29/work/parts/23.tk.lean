/-! ===== the whole object: loom, history, slots, pad, search, the draft laid aside ===== -/
def lo (l0 : Nat) (f g : Nat → Option Nat) (i : Nat) : Option Nat := if i = 0 then some l0 else if i < 7 then f (i - 1) else g (i - 7)
def PadO (S : PS) (ad : Nat → Nat) (pad : List Nat) : Prop := S (ad 4) = .inl (2, [.ref (ad 5), .int (nI pad.length)]) ∧ pad.length ≤ 40 ∧ (∃ c, S (ad 5) = aC 40 c ∧ ∀ k, k < pad.length → c k = nI (pad.getD k 0)) ∧ ∀ k, k < pad.length → 33 ≤ pad.getD k 0 ∧ pad.getD k 0 ≤ 126
def SeaO (S : PS) (ad : Nat → Nat) : Prop := (∃ (mk ln : Int32), S (ad 6) = .inl (4, [.ref (ad 7), .int mk, .ref (ad 8), .int ln, .ref (ad 9)])) ∧ (∃ h, S (ad 7) = aJ 6 h) ∧ (∃ h, S (ad 8) = aJ 301 h) ∧ ∃ h, S (ad 9) = aJ 1024 h
def FrO (S : PS) (ad : Nat → Nat) : Prop := ShD S (ad 10) (ad 11)
def TkF (S : PS) (tg : Nat → Nat × Nat) (x : Nat) (ad : Nat → Nat) (f g : Nat → Option Nat) (v : LM) (hist : List LM) (sl : Nat → Option LM) (pad : List Nat) : Prop :=
  (tg x = (x, 20) ∧ ∀ j, 1 ≤ j → j < 12 → tg (ad j) = (x, 20 + j)) ∧ S x = .inl (5, [.ref (ad 0), .ref (ad 1), .ref (ad 3), .ref (ad 4), .ref (ad 6), .ref (ad 10)]) ∧ (S (ad 1) = .inl (3, [.ref (ad 2), .int (nI hist.length)]) ∧ hist.length ≤ 6 ∧ S (ad 2) = aL 6 f ∧ S (ad 3) = aL 2 g) ∧ LmAt S tg (ad 0) v ∧ (∀ k, k < 6 → (∀ w, hist[k]? = some w → ∃ a, f k = some a ∧ LmAt S tg a w) ∧ ∀ a, f k = some a → ∃ w, LmAt S tg a w) ∧ (∀ j, j < 2 → (sl j = none → g j = none) ∧ ∀ w, sl j = some w → ∃ a, g j = some a ∧ LmAt S tg a w) ∧ (∀ i j a, i < 9 → j < 9 → lo (ad 0) f g i = some a → lo (ad 0) f g j = some a → i = j) ∧ PadO S ad pad ∧ SeaO S ad ∧ FrO S ad
def TkO (S : PS) (tg : Nat → Nat × Nat) (x : Nat) (ad : Nat → Nat) (v : LM) (hist : List LM) (sl : Nat → Option LM) (pad : List Nat) : Prop := ∃ f g, TkF S tg x ad f g v hist sl pad
/-- cells of a role from n on stay as they were (40: all that isn't the class's) -/
def CK (n : Nat) (S : PS) (tg : Nat → Nat × Nat) (S' : PS) (tg' : Nat → Nat × Nat) : Prop := ∀ b, S b ≠ oJ → n ≤ (tg b).2 → tg' b = tg b ∧ S' b = S b
theorem CK.rf {n : Nat} {S : PS} {tg : Nat → Nat × Nat} : CK n S tg S tg := fun _ _ _ => ⟨rfl, rfl⟩
theorem CK.tr {n : Nat} {S S1 S2 : PS} {tg tg1 tg2 : Nat → Nat × Nat} (h1 : CK n S tg S1 tg1) (h2 : CK n S1 tg1 S2 tg2) : CK n S tg S2 tg2 := fun b hb h => by
  obtain ⟨a1, a2⟩ := h1 b hb h
  obtain ⟨c1, c2⟩ := h2 b (by rw [a2]; exact hb) (by rw [a1]; exact h)
  exact ⟨c1.trans a1, c2.trans a2⟩
theorem CK.wk {n k : Nat} {S S' : PS} {tg tg' : Nat → Nat × Nat} (h : CK n S tg S' tg') (hk : n ≤ k) : CK k S tg S' tg' := fun b hb h2 => h b hb (Nat.le_trans hk h2)
theorem CK.of {n : Nat} {S S' : PS} {tg : Nat → Nat × Nat} (h : ∀ b, n ≤ (tg b).2 → S' b = S b) : CK n S tg S' tg := fun b _ h2 => ⟨rfl, h b h2⟩
theorem CK.up {n : Nat} {S : PS} {tg : Nat → Nat × Nat} {a : Nat} {o : Ob} (h : (tg a).2 < n) : CK n S tg (va_up S a o) tg := CK.of fun b h2 => up_n (fun e => by rw [e] at h2; omega)
theorem CK.ow {n : Nat} {S S' : PS} {tg : Nat → Nat × Nat} {q : Nat} (hn : 20 ≤ n) (h : ∀ b, ¬ Ow tg q b → S' b = S b) : CK n S tg S' tg := CK.of fun b h2 => h b (Ow.no (by omega))
theorem PadO.fr {S S' : PS} {ad : Nat → Nat} {pad : List Nat} (h : PadO S ad pad) (h4 : S' (ad 4) = S (ad 4)) (h5 : S' (ad 5) = S (ad 5)) : PadO S' ad pad := by
  obtain ⟨a, b, ⟨c, d, e⟩, f⟩ := h
  exact ⟨by rw [h4]; exact a, b, ⟨c, by rw [h5]; exact d, e⟩, f⟩
theorem SeaO.fr {S S' : PS} {ad : Nat → Nat} (h : SeaO S ad) (h6 : S' (ad 6) = S (ad 6)) (h7 : S' (ad 7) = S (ad 7)) (h8 : S' (ad 8) = S (ad 8)) (h9 : S' (ad 9) = S (ad 9)) : SeaO S' ad := by
  obtain ⟨⟨a, b, c⟩, ⟨d, e⟩, ⟨f, g⟩, i, j⟩ := h
  exact ⟨⟨a, b, by rw [h6]; exact c⟩, ⟨d, by rw [h7]; exact e⟩, ⟨f, by rw [h8]; exact g⟩, i, by rw [h9]; exact j⟩
theorem FrO.fr {S S' : PS} {ad : Nat → Nat} (h : FrO S ad) (h10 : S' (ad 10) = S (ad 10)) (h11 : S' (ad 11) = S (ad 11)) : FrO S' ad := by
  obtain ⟨⟨a, b⟩, c, d⟩ := h
  exact ⟨⟨a, by rw [h10]; exact b⟩, c, by rw [h11]; exact d⟩
section TK
variable {S S' : PS} {tg tg' : Nat → Nat × Nat} {x : Nat} {ad : Nat → Nat} {f g : Nat → Option Nat} {v : LM} {hist : List LM} {sl : Nat → Option LM} {pad : List Nat}
theorem TkF.live (h : TkF S tg x ad f g v hist sl pad) : ∀ j, j < 12 → S (ad j) ≠ oJ := by
  obtain ⟨t, a1, ⟨a2, a3, a4, a5⟩, a6, a7, a8, a9, ⟨b1, b2, ⟨b3, b4, b5⟩, b6⟩, ⟨⟨c1, c2, c3⟩, ⟨c4, c5⟩, ⟨c6, c7⟩, c8, c9⟩, ⟨d1, d2⟩, d3, d4⟩ := h
  intro j hj
  obtain ⟨fs, e⟩ := a6.at
  rcases (by omega : j = 0 ∨ j = 1 ∨ j = 2 ∨ j = 3 ∨ j = 4 ∨ j = 5 ∨ j = 6 ∨ j = 7 ∨ j = 8 ∨ j = 9 ∨ j = 10 ∨ j = 11) with rfl | rfl | rfl | rfl | rfl | rfl | rfl | rfl | rfl | rfl | rfl | rfl
  · rw [e]; exact l_ne_oJ (by decide)
  · rw [a2]; exact l_ne_oJ (by decide)
  · rw [a4]; exact r_ne_oJ
  · rw [a5]; exact r_ne_oJ
  · rw [b1]; exact l_ne_oJ (by decide)
  · rw [b4]; exact r_ne_oJ
  · rw [c3]; exact l_ne_oJ (by decide)
  · rw [c5]; exact r_ne_oJ
  · rw [c7]; exact r_ne_oJ
  · rw [c9]; exact r_ne_oJ
  · rw [d2]; exact l_ne_oJ (by decide)
  · rw [d4]; exact r_ne_oJ
theorem TkF.role (h : TkF S tg x ad f g v hist sl pad) : ∀ j, j < 12 → (tg (ad j)).2 < 40 := by
  intro j hj
  rcases Nat.eq_zero_or_pos j with z | z
  · rw [z, h.2.2.2.1.tag]; show 0 < 40; decide
  · rw [h.1.2 j z hj]; show 20 + j < 40; omega
/-- nothing of the class's changes: the model's calls, new cells -/
theorem TkF.keep (h : TkF S tg x ad f g v hist sl pad) (hS : ∀ b, S b ≠ oJ → (tg b).2 < 40 → S' b = S b ∧ tg' b = tg b) : TkF S' tg' x ad f g v hist sl pad := by
  have hl := h.live
  have hr := h.role
  obtain ⟨⟨t1, t2⟩, a1, ⟨a2, a3, a4, a5⟩, a6, a7, a8, a9, b1, c1, d1⟩ := h
  have ea : ∀ j, j < 12 → S' (ad j) = S (ad j) ∧ tg' (ad j) = tg (ad j) := fun j hj => hS _ (hl j hj) (hr j hj)
  have ex := hS x (by rw [a1]; exact l_ne_oJ (by decide)) (by rw [t1]; show 20 < 40; decide)
  have kl : ∀ {a w}, LmAt S tg a w → LmAt S' tg' a w := fun hw => hw.keep (fun b ho hb => hS b hb (by obtain ⟨i, hi, e⟩ := ho; rw [e]; show i < 40; omega))
  refine ⟨⟨by rw [ex.2]; exact t1, fun j j1 j2 => by rw [(ea j j2).2]; exact t2 j j1 j2⟩, by rw [ex.1]; exact a1, ⟨by rw [(ea 1 (by decide)).1]; exact a2, a3, by rw [(ea 2 (by decide)).1]; exact a4, by rw [(ea 3 (by decide)).1]; exact a5⟩, kl a6, fun k hk => ⟨fun w hw => ?_, fun a ha => ?_⟩, fun j hj => ⟨(a8 j hj).1, fun w hw => ?_⟩, a9, b1.fr (ea 4 (by decide)).1 (ea 5 (by decide)).1, c1.fr (ea 6 (by decide)).1 (ea 7 (by decide)).1 (ea 8 (by decide)).1 (ea 9 (by decide)).1, d1.fr (ea 10 (by decide)).1 (ea 11 (by decide)).1⟩
  · obtain ⟨a, e1, e2⟩ := (a7 k hk).1 w hw
    exact ⟨a, e1, kl e2⟩
  · obtain ⟨w, e⟩ := (a7 k hk).2 a ha
    exact ⟨w, kl e⟩
  · obtain ⟨a, e1, e2⟩ := (a8 j hj).2 w hw
    exact ⟨a, e1, kl e2⟩
/-- pad, search or the draft laid aside change -/
theorem TkF.scr {pad' : List Nat} (h : TkF S tg x ad f g v hist sl pad) (hS : ∀ b, (tg b).2 < 24 → S' b = S b) (hp : PadO S' ad pad') (hs : SeaO S' ad) (hf : FrO S' ad) : TkF S' tg x ad f g v hist sl pad' := by
  obtain ⟨⟨t1, t2⟩, a1, ⟨a2, a3, a4, a5⟩, a6, a7, a8, a9, b1, c1, d1⟩ := h
  have ea : ∀ j, 1 ≤ j → j < 4 → S' (ad j) = S (ad j) := fun j j1 j2 => hS _ (by rw [t2 j j1 (by omega)]; show 20 + j < 24; omega)
  have kl : ∀ {a w}, LmAt S tg a w → LmAt S' tg a w := fun hw => hw.frame2 (fun b hb => hS b (by omega))
  refine ⟨⟨t1, t2⟩, by rw [hS x (by rw [t1]; show 20 < 24; decide)]; exact a1, ⟨by rw [ea 1 (by decide) (by decide)]; exact a2, a3, by rw [ea 2 (by decide) (by decide)]; exact a4, by rw [ea 3 (by decide) (by decide)]; exact a5⟩, kl a6, fun k hk => ⟨fun w hw => ?_, fun a ha => ?_⟩, fun j hj => ⟨(a8 j hj).1, fun w hw => ?_⟩, a9, hp, hs, hf⟩
  · obtain ⟨a, e1, e2⟩ := (a7 k hk).1 w hw
    exact ⟨a, e1, kl e2⟩
  · obtain ⟨w, e⟩ := (a7 k hk).2 a ha
    exact ⟨w, kl e⟩
  · obtain ⟨a, e1, e2⟩ := (a8 j hj).2 w hw
    exact ⟨a, e1, kl e2⟩
/-- one loom changes: the loom itself (i = 0), or one that no text of the history needs -/
theorem TkF.lm0 {v' : LM} (h : TkF S tg x ad f g v hist sl pad) (hS : ∀ b, ¬ Ow tg (ad 0) b → S' b = S b) (hv : LmAt S' tg (ad 0) v') : TkF S' tg x ad f g v' hist sl pad := by
  obtain ⟨⟨t1, t2⟩, a1, ⟨a2, a3, a4, a5⟩, a6, a7, a8, a9, b1, c1, d1⟩ := h
  have h0 := a6.tag
  have ea : ∀ j, 1 ≤ j → j < 12 → S' (ad j) = S (ad j) := fun j j1 j2 => hS _ (Ow.no (by rw [t2 j j1 j2]; show 20 ≤ 20 + j; omega))
  have kl : ∀ {a w i}, 1 ≤ i → i < 9 → lo (ad 0) f g i = some a → LmAt S tg a w → LmAt S' tg a w := fun {a w i} hi hi2 ha hw => hw.other (fun e => by
    have := a9 i 0 a hi2 (by decide) ha (by rw [e]; rfl)
    omega) hS
  have lf : ∀ k, k < 6 → lo (ad 0) f g (k + 1) = f k := fun k hk => by
    show (if k + 1 = 0 then some (ad 0) else if k + 1 < 7 then f (k + 1 - 1) else g (k + 1 - 7)) = f k
    rw [if_neg (by omega), if_pos (by omega)]; rfl
  have lg : ∀ j, j < 2 → lo (ad 0) f g (j + 7) = g j := fun j hj => by
    show (if j + 7 = 0 then some (ad 0) else if j + 7 < 7 then f (j + 7 - 1) else g (j + 7 - 7)) = g j
    rw [if_neg (by omega), if_neg (by omega)]; rfl
  refine ⟨⟨t1, t2⟩, by rw [hS x (Ow.no (by rw [t1]; exact Nat.le_refl 20))]; exact a1, ⟨by rw [ea 1 (by decide) (by decide)]; exact a2, a3, by rw [ea 2 (by decide) (by decide)]; exact a4, by rw [ea 3 (by decide) (by decide)]; exact a5⟩, hv, fun k hk => ⟨fun w hw => ?_, fun a ha => ?_⟩, fun j hj => ⟨(a8 j hj).1, fun w hw => ?_⟩, a9, b1.fr (ea 4 (by decide) (by decide)) (ea 5 (by decide) (by decide)), c1.fr (ea 6 (by decide) (by decide)) (ea 7 (by decide) (by decide)) (ea 8 (by decide) (by decide)) (ea 9 (by decide) (by decide)), d1.fr (ea 10 (by decide) (by decide)) (ea 11 (by decide) (by decide))⟩
  · obtain ⟨a, e1, e2⟩ := (a7 k hk).1 w hw
    exact ⟨a, e1, kl (i := k + 1) (by omega) (by omega) (by rw [lf k hk]; exact e1) e2⟩
  · obtain ⟨w, e⟩ := (a7 k hk).2 a ha
    exact ⟨w, kl (i := k + 1) (by omega) (by omega) (by rw [lf k hk]; exact ha) e⟩
  · obtain ⟨a, e1, e2⟩ := (a8 j hj).2 w hw
    exact ⟨a, e1, kl (i := j + 7) (by omega) (by omega) (by rw [lg j hj]; exact e1) e2⟩
end TK
