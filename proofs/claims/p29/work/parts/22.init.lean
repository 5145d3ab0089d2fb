/-! ===== a new loom ===== -/
/-- what was there stays: contents and owners -/
def Kp (S : PS) (tg : Nat → Nat × Nat) (S' : PS) (tg' : Nat → Nat × Nat) (X : Nat → Prop) : Prop := ∀ b, S b ≠ oJ → (tg' b = tg b) ∧ S' b ≠ oJ ∧ (¬ X b → S' b = S b)
theorem Kp.rf {S : PS} {tg : Nat → Nat × Nat} {X : Nat → Prop} : Kp S tg S tg X := fun _ h => ⟨rfl, h, fun _ => rfl⟩
theorem Kp.tr {S S1 S2 : PS} {tg tg1 tg2 : Nat → Nat × Nat} {X : Nat → Prop} (h1 : Kp S tg S1 tg1 X) (h2 : Kp S1 tg1 S2 tg2 X) : Kp S tg S2 tg2 X := fun b hb => by
  obtain ⟨a1, a2, a3⟩ := h1 b hb
  obtain ⟨c1, c2, c3⟩ := h2 b a2
  exact ⟨c1.trans a1, c2, fun hx => (c3 hx).trans (a3 hx)⟩
theorem Kp.wk {S S1 : PS} {tg tg1 : Nat → Nat × Nat} {X Z : Nat → Prop} (h : Kp S tg S1 tg1 X) (hx : ∀ b, X b → Z b) : Kp S tg S1 tg1 Z := fun b hb => ⟨(h b hb).1, (h b hb).2.1, fun hz => (h b hb).2.2 (fun x => hz (hx b x))⟩
theorem l_ne_oJ {ci : Nat} {fs : List Value} (h : ci ≠ 99) : (Sum.inl (ci, fs) : Ob) ≠ oJ := fun e => h (congrArg Prod.fst (Sum.inl.inj e))
theorem r_ne_oJ {x : Nat × vp_A} : (Sum.inr x : Ob) ≠ oJ := fun e => by cases e
def v0 : LM := ((fun p => p % 6), (fun t => 2 ^ t), (fun p => p), (fun _ => 0), (fun _ => []), nI 0, nI 0)
theorem v0_ok : okL v0 := ⟨fun p _ => Nat.mod_lt _ (by decide), fun t ht => Nat.lt_of_le_of_lt (Nat.pow_le_pow_right (by decide) (show t ≤ 5 by omega)) (by decide), PM.id, fun _ _ => (show 0 < 4 by decide), fun _ _ => ⟨(show 0 ≤ 24 by decide), fun k hk => absurd hk (Nat.not_lt_zero _)⟩⟩
theorem sh_en : (92573999051280 : Int64) = en (fun p => p % 6) := by decide +kernel
theorem co_en : lN 0 = en (fun _ => 0) := by decide +kernel
/-- a loom whose first i drafts are made -/
def PL (i : Nat) (S : PS) (tg : Nat → Nat × Nat) (a t d : Nat) : Prop := S a = .inl (1, [.long (en (shF v0)), .long (en (thF v0)), .long (en (coF v0)), .ref t, .ref d, .int (pdF v0), .int (pkF v0)]) ∧ (∃ f, S t = aI 6 f ∧ ∀ k, k < 6 → f k = nI (tiF v0 k)) ∧ tg a = (a, 0) ∧ tg t = (a, 1) ∧ tg d = (a, 2) ∧ ∃ (g : Nat → Option Nat) (xs ys : Nat → Nat), S d = aD 6 g ∧ ∀ k, k < i → g k = some (xs k) ∧ DrAt S (xs k) (ys k) [] ∧ tg (xs k) = (a, 3 + k) ∧ tg (ys k) = (a, 9 + k)
theorem PL.next {i : Nat} {S : PS} {tg : Nat → Nat × Nat} {a t d : Nat} {P : PS → Prop} (hi : i < 6) (h : PL i S tg a t d) (hP : ∀ S' tg', PL (i + 1) S' tg' a t d → Kp S tg S' tg' (fun b => b = d) → P S') : gR S a 1 4 (fun a69 => nw S (.inl (0, [.null, .int 0])) (fun a71 S72 => S72 a71 ≠ oJ ∧ (wp_X0_init S72 a71 (fun S73 => sD S73 a69 (nI i) a71 (fun S79 => P S79))))) := by
  obtain ⟨h1, ⟨f, h2, h2'⟩, h3, h4, h5, g, xs, ys, h6, h7⟩ := h
  refine gR_of h1 rfl ?_
  intro x hx S1 e1
  have nx : ∀ {b : Nat}, S b ≠ oJ → b ≠ x := fun hb e => hb (by rw [e]; exact hx)
  have s1x : S1 x = .inl (0, [.null, .int 0]) := by rw [e1, up_s]
  refine ⟨by rw [s1x]; exact l_ne_oJ (by decide), ?_⟩
  unfold wp_X0_init
  intro y hy S2 e2
  have ny1 : ∀ {b : Nat}, S1 b ≠ oJ → b ≠ y := fun hb e => hb (by rw [e]; exact hy)
  have hxy : x ≠ y := ny1 (by rw [s1x]; exact l_ne_oJ (by decide))
  have hSy : S y = oJ := by
    rw [e1, up_n (Ne.symm hxy)] at hy; exact hy
  have ny : ∀ {b : Nat}, S b ≠ oJ → b ≠ y := fun hb e => hb (by rw [e]; exact hSy)
  have s2x : S2 x = .inl (0, [.null, .int 0]) := by rw [e2, up_n hxy]; exact s1x
  refine pF_of s2x (Nat.le_of_ble_eq_true rfl) _ rfl (pF_of (up_s _ _ _) (Nat.le_of_ble_eq_true rfl) _ rfl ?_)
  rw [up_u]
  simp only [List.set_cons_succ, List.set_cons_zero]
  have hda : S d ≠ oJ := by rw [h6]; exact r_ne_oJ
  have old : ∀ {b : Nat}, S b ≠ oJ → va_up S2 x (.inl (0, [.ref y, .int (nI 0)])) b = S b := fun hb => by
    rw [up_n (nx hb), e2, up_n (ny hb), e1, up_n (nx hb)]
  refine sD_of ((old hda).trans h6) hi (by decide) (up_s _ _ _) ?_
  have hxd : x ≠ d := Ne.symm (nx hda)
  have hyd : y ≠ d := Ne.symm (ny hda)
  have od : ∀ {b : Nat}, S b ≠ oJ → b ≠ d → va_up (va_up S2 x (.inl (0, [.ref y, .int (nI 0)]))) d (aD 6 (va_up g i (some x))) b = S b := fun hb hbd => by rw [up_n hbd]; exact old hb
  have tgo : ∀ {b : Nat}, S b ≠ oJ → va_up (va_up tg x (a, 3 + i)) y (a, 9 + i) b = tg b := fun hb => by rw [va_up_ne _ _ (ny hb), va_up_ne _ _ (nx hb)]
  have ha' : S a ≠ oJ := by rw [h1]; exact l_ne_oJ (by decide)
  have ht' : S t ≠ oJ := by rw [h2]; exact r_ne_oJ
  refine hP _ (va_up (va_up tg x (a, 3 + i)) y (a, 9 + i)) ⟨?_, ⟨f, ?_, h2'⟩, ?_, ?_, ?_, va_up g i (some x), va_up xs i x, va_up ys i y, up_s _ _ _, fun k hk => ?_⟩ (fun b hb => ⟨tgo hb, ?_, fun hd => od hb hd⟩)
  · rw [od ha' (ob_ne h1 h6 lr_ne)]; exact h1
  · rw [od ht' (tne h4 h5 (by simp))]; exact h2
  · rw [tgo ha']; exact h3
  · rw [tgo ht']; exact h4
  · rw [tgo hda]; exact h5
  · rcases Nat.lt_or_ge k i with z | z
    · obtain ⟨k1, ⟨k2, f2, k3, k4⟩, k5, k6⟩ := h7 k z
      have e : k ≠ i := by omega
      have bx : S (xs k) ≠ oJ := by rw [k2]; exact l_ne_oJ (by decide)
      have bY : S (ys k) ≠ oJ := by rw [k3]; exact r_ne_oJ
      rw [va_up_ne _ _ e, va_up_ne _ _ e, va_up_ne _ _ e]
      exact ⟨k1, ⟨by rw [od bx (tne k5 h5 (by intro h; have := congrArg Prod.snd h; simp at this; omega))]; exact k2, f2, by rw [od bY (tne k6 h5 (by intro h; have := congrArg Prod.snd h; simp at this; omega))]; exact k3, k4⟩, by rw [tgo bx]; exact k5, by rw [tgo bY]; exact k6⟩
    · have e : k = i := by omega
      subst e
      rw [va_up_self, va_up_self, va_up_self]
      refine ⟨rfl, ⟨by rw [up_n hxd, up_s]; rfl, (fun _ => 0), ?_, fun k hk => absurd hk (Nat.not_lt_zero _)⟩, by rw [va_up_ne _ _ hxy, va_up_self], by rw [va_up_self]⟩
      rw [up_n hyd, up_n (Ne.symm hxy), e2, up_s]
  · by_cases z : b = d
    · rw [z, up_s]; exact r_ne_oJ
    · rw [od hb z]; exact hb
theorem PL.done {S : PS} {tg : Nat → Nat × Nat} {a t d : Nat} (h : PL 6 S tg a t d) : LmAt S tg a v0 := by
  obtain ⟨h1, h2, h3, h4, h5, g, xs, ys, h6, h7⟩ := h
  exact ⟨v0_ok, t, d, xs, ys, h1, h2, ⟨g, h6, fun i hi => (h7 i hi).1⟩, fun i hi => (h7 i hi).2.1, h3, h4, h5, fun i hi => ⟨(h7 i hi).2.2.1, (h7 i hi).2.2.2⟩⟩
theorem ties0 : ∀ k, k < 6 → upd (upd (upd (upd (upd (upd (fun _ => (0 : Int32)) 0 (nI 1 <<< (nI 0 &&& 31))) 1 (nI 1 <<< (nI 1 &&& 31))) 2 (nI 1 <<< (nI 2 &&& 31))) 3 (nI 1 <<< (nI 3 &&& 31))) 4 (nI 1 <<< (nI 4 &&& 31))) 5 (nI 1 <<< (nI 5 &&& 31)) k = nI (tiF v0 k) := by decide +kernel
theorem wp_initL {S : PS} {tg : Nat → Nat × Nat} {a : Nat} {P : PS → Prop} (h : S a = .inl (1, [.long 0, .long 0, .long 0, .null, .null, .int 0, .int 0])) (ht : tg a = (a, 0)) (hP : ∀ S' tg', LmAt S' tg' a v0 → Kp S tg S' tg' (fun b => b = a) → P S') : wp_X1_init S a P := by
  unfold wp_X1_init
  refine pF_of h (Nat.le_of_ble_eq_true rfl) _ rfl (pF_of (up_s _ _ _) (Nat.le_of_ble_eq_true rfl) _ rfl ?_)
  rw [up_u]
  refine pF_of (up_s _ _ _) (Nat.le_of_ble_eq_true rfl) _ rfl ?_
  rw [up_u]
  intro t hqt S2 e2
  have ha : ∀ o, o ≠ oJ → va_up S a o a ≠ oJ := fun o ho => by rw [up_s]; exact ho
  have hat : a ≠ t := fun e => by rw [← e, up_s] at hqt; exact l_ne_oJ (by decide) hqt
  have hSt : S t = oJ := by rw [up_n (Ne.symm hat)] at hqt; exact hqt
  have s2a := (congrFun e2 a).trans ((up_n hat).trans (up_s _ _ _))
  refine pF_of s2a (Nat.le_of_ble_eq_true rfl) _ rfl ?_
  intro d hqd S4 e4
  have had : a ≠ d := fun e => by rw [← e, up_s] at hqd; exact l_ne_oJ (by decide) hqd
  have hd2 : S2 d = oJ := by rw [up_n (Ne.symm had)] at hqd; exact hqd
  have htd : t ≠ d := fun e => by rw [← e, e2, up_s] at hd2; exact r_ne_oJ hd2
  have hSd : S d = oJ := by rw [e2, up_n (Ne.symm htd), up_n (Ne.symm had)] at hd2; exact hd2
  have s4a := (congrFun e4 a).trans ((up_n had).trans (up_s _ _ _))
  refine pF_of s4a (Nat.le_of_ble_eq_true rfl) _ rfl (pF_of (up_s _ _ _) (Nat.le_of_ble_eq_true rfl) _ rfl ?_)
  rw [up_u]
  refine pF_of (up_s _ _ _) (Nat.le_of_ble_eq_true rfl) _ rfl ?_
  rw [up_u]
  have s4t : S4 t = aI 6 (fun _ => 0) := by rw [e4, up_n htd, up_n (Ne.symm hat), e2, up_s]
  have s4d : S4 d = aD 6 (fun _ => none) := by rw [e4, up_s]
  refine gR_of (up_s _ _ _) rfl (sI_of ((up_n (Ne.symm hat)).trans s4t) (by decide) (by decide) ?_)
  refine gR_of ((up_n hat).trans (up_s _ _ _)) rfl (sI_of (up_s _ _ _) (by decide) (by decide) ?_)
  rw [up_u]
  refine gR_of ((up_n hat).trans (up_s _ _ _)) rfl (sI_of (up_s _ _ _) (by decide) (by decide) ?_)
  rw [up_u]
  refine gR_of ((up_n hat).trans (up_s _ _ _)) rfl (sI_of (up_s _ _ _) (by decide) (by decide) ?_)
  rw [up_u]
  refine gR_of ((up_n hat).trans (up_s _ _ _)) rfl (sI_of (up_s _ _ _) (by decide) (by decide) ?_)
  rw [up_u]
  refine gR_of ((up_n hat).trans (up_s _ _ _)) rfl (sI_of (up_s _ _ _) (by decide) (by decide) ?_)
  rw [up_u]
  have old : ∀ {b : Nat} {o1 o2 : Ob}, S b ≠ oJ → b ≠ a → va_up (va_up S4 a o1) t o2 b = S b := fun hb hba => by
    have hbt := ob_ne (rfl : S _ = S _) hSt hb
    have hbd := ob_ne (rfl : S _ = S _) hSd hb
    rw [up_n hbt, up_n hba, e4, up_n hbd, up_n hba, e2, up_n hbt, up_n hba]
  have nt : ∀ {b : Nat}, S b ≠ oJ → b ≠ t := fun hb e => hb (by rw [e]; exact hSt)
  have nd : ∀ {b : Nat}, S b ≠ oJ → b ≠ d := fun hb e => hb (by rw [e]; exact hSd)
  have ha0 : S a ≠ oJ := by rw [h]; exact l_ne_oJ (by decide)
  have base : ∀ o2, o2 = upd (upd (upd (upd (upd (upd (fun _ => (0 : Int32)) 0 (nI 1 <<< (nI 0 &&& 31))) 1 (nI 1 <<< (nI 1 &&& 31))) 2 (nI 1 <<< (nI 2 &&& 31))) 3 (nI 1 <<< (nI 3 &&& 31))) 4 (nI 1 <<< (nI 4 &&& 31))) 5 (nI 1 <<< (nI 5 &&& 31)) → ∀ S5, S5 = va_up (va_up S4 a (.inl (1, [.long (92573999051280 : Int64), .long (205163983024656 : Int64), .long (lN 0), .ref t, .ref d, .int (nI 0), .int (nI 0)]))) t (aI 6 o2) → PL 0 S5 (va_up (va_up tg t (a, 1)) d (a, 2)) a t d ∧ Kp S tg S5 (va_up (va_up tg t (a, 1)) d (a, 2)) (fun b => b = a) := by
    intro o2 eo S5 e5
    have s5a : S5 a = .inl (1, [.long (92573999051280 : Int64), .long (205163983024656 : Int64), .long (lN 0), .ref t, .ref d, .int (nI 0), .int (nI 0)]) := by rw [e5, up_n hat, up_s]
    refine ⟨⟨?_, ⟨o2, by rw [e5, up_s], fun k hk => by rw [eo]; exact ties0 k hk⟩, ?_, ?_, ?_, fun _ => none, fun _ => 0, fun _ => 0, ?_, fun k hk => absurd hk (Nat.not_lt_zero _)⟩, fun b hb => ⟨?_, ?_, fun hba => ?_⟩⟩
    · rw [s5a, sh_en, home_en, co_en]; rfl
    · rw [va_up_ne _ _ had, va_up_ne _ _ hat]; exact ht
    · rw [va_up_ne _ _ htd, va_up_self]
    · rw [va_up_self]
    · rw [e5, up_n (Ne.symm htd), up_n (Ne.symm had)]; exact s4d
    · rw [va_up_ne _ _ (nd hb), va_up_ne _ _ (nt hb)]
    · by_cases z : b = a
      · rw [z, s5a]; exact l_ne_oJ (by decide)
      · rw [e5, old hb z]; exact hb
    · rw [e5, old hb hba]
  obtain ⟨p0, k0⟩ := base _ rfl _ rfl
  have fin : ∀ {Sa Sb : PS} {ta tb : Nat → Nat × Nat}, Kp S tg Sa ta (fun b => b = a) → Kp Sa ta Sb tb (fun b => b = d) → Kp S tg Sb tb (fun b => b = a) := fun x y b hb => by
    obtain ⟨a1, a2, a3⟩ := x b hb
    obtain ⟨c1, c2, c3⟩ := y b a2
    exact ⟨c1.trans a1, c2, fun hba => (c3 (nd hb)).trans (a3 hba)⟩
  refine PL.next (by decide) p0 (fun S6 t6 p1 k1 => ?_)
  refine PL.next (by decide) p1 (fun S7 t7 p2 k2 => ?_)
  refine PL.next (by decide) p2 (fun S8 t8 p3 k3 => ?_)
  refine PL.next (by decide) p3 (fun S9 t9 p4 k4 => ?_)
  refine PL.next (by decide) p4 (fun S10 t10 p5 k5 => ?_)
  refine PL.next (by decide) p5 (fun S11 t11 p6 k6 => ?_)
  exact hP _ _ p6.done (fin (fin (fin (fin (fin (fin k0 k1) k2) k3) k4) k5) k6)
