/-! ===== texts ===== -/
def prO (c : Nat) : Option Nat := if 97 ≤ c ∧ c ≤ 102 then some (c - 97) else if 65 ≤ c ∧ c ≤ 70 then some (c - 65 + 6) else none
def dg (c : Nat) : Nat := if 50 ≤ c ∧ c ≤ 57 then c - 48 else 0
def pz : List Nat → Nat → Option Nat → List Nat → Option Nat × List Nat
  | [], _, _, l => (none, l)
  | c :: cs, i, last, l => match prO c with
    | some p => if l.length + 1 ≤ 24 then pz cs (i + 1) (some p) (l ++ [p]) else (some i, l)
    | none => match last with
      | none => (some i, l)
      | some q => if 2 ≤ dg c ∧ l.length + (dg c - 1) ≤ 24 then pz cs (i + 1) none (l ++ List.replicate (dg c - 1) q) else (some i, l)
def pzP (pad : List Nat) : Option Nat × List Nat := pz pad 0 none []
def flt (pad : List Nat) : Int32 := if pad.length = 0 then nI 0 else match (pzP pad).1 with
  | some i => nI i
  | none => -6
theorem pz_p {c : Nat} {cs : List Nat} {i : Nat} {la : Option Nat} {l : List Nat} {p : Nat} (h : prO c = some p) : pz (c :: cs) i la l = if l.length + 1 ≤ 24 then pz cs (i + 1) (some p) (l ++ [p]) else (some i, l) := by
  rw [pz.eq_def]; simp only [h]
theorem pz_n {c : Nat} {cs : List Nat} {i : Nat} {l : List Nat} (h : prO c = none) : pz (c :: cs) i none l = (some i, l) := by
  rw [pz.eq_def]; simp only [h]
theorem pz_d {c : Nat} {cs : List Nat} {i : Nat} {l : List Nat} {q : Nat} (h : prO c = none) : pz (c :: cs) i (some q) l = if 2 ≤ dg c ∧ l.length + (dg c - 1) ≤ 24 then pz cs (i + 1) none (l ++ List.replicate (dg c - 1) q) else (some i, l) := by
  rw [pz.eq_def]; simp only [h]
theorem prO_lt {c p : Nat} (h : prO c = some p) : p < 12 := by
  unfold prO at h
  split at h
  · cases h; omega
  · split at h
    · cases h; omega
    · cases h
theorem dg_le (c : Nat) : dg c ≤ 9 := by unfold dg; split <;> omega
theorem wp_pressOf {c : Nat} {P : Int32 → Prop} (hc : c < 1000) (h1 : ∀ p, prO c = some p → P (nI p)) (h0 : prO c = none → P (-1)) : wp_X2_pressOf (nI c) P := by
  unfold wp_X2_pressOf
  rw [nI_ltI (by omega) (by decide), nI_ltI (by omega) (by decide), nI_ltI (by decide) (by omega), nI_ltI (by decide) (by omega)]
  have low : (c < 65 → P (-1)) ∧ (¬ c < 65 → (70 < c → P (-1)) ∧ (¬ 70 < c → P (nI c - nI 65 + nI 6))) ∨ ¬ (c < 97 ∨ 102 < c) := by
    by_cases z : c < 97 ∨ 102 < c
    · left
      have e1 : ¬ (97 ≤ c ∧ c ≤ 102) := by omega
      refine ⟨fun q => h0 ?_, fun q => ⟨fun q2 => h0 ?_, fun q2 => ?_⟩⟩
      · unfold prO; rw [if_neg e1, if_neg (by omega)]
      · unfold prO; rw [if_neg e1, if_neg (by omega)]
      · rw [pk_sub (by omega), nI_add]
        exact h1 _ (by unfold prO; rw [if_neg e1, if_pos (by omega)])
    · exact Or.inr z
  refine ⟨fun q => low.resolve_right (fun z => z (Or.inl q)), fun q => ⟨fun q2 => low.resolve_right (fun z => z (Or.inr q2)), fun q2 => ?_⟩⟩
  rw [pk_sub (by omega)]
  exact h1 _ (by unfold prO; rw [if_pos (by omega)])
theorem wp_timesOf {c : Nat} {P : Int32 → Prop} (hc : c < 1000) (h : P (nI (dg c))) : wp_X2_timesOf (nI c) P := by
  unfold wp_X2_timesOf
  rw [nI_ltI (by omega) (by decide), nI_ltI (by decide) (by omega)]
  unfold dg at h
  refine ⟨fun q => ?_, fun q => ⟨fun q2 => ?_, fun q2 => ?_⟩⟩
  · rw [if_neg (by omega)] at h; exact h
  · rw [if_neg (by omega)] at h; exact h
  · rw [if_pos (by omega)] at h
    rw [pk_sub (by omega)]; exact h
def lst (q : Option Nat) : Int32 := match q with
  | none => -1
  | some q => nI q
theorem okP_app {l l2 : List Nat} (h : okP l) (h2 : ∀ k, k < l2.length → l2.getD k 0 < 12) (hl : l.length + l2.length ≤ 24) : okP (l ++ l2) := by
  refine ⟨by rw [List.length_append]; exact hl, fun k hk => ?_⟩
  rcases Nat.lt_or_ge k l.length with z | z
  · rw [getD_app_l z]; exact h.2 k z
  · rw [List.length_append] at hk
    have : (l ++ l2).getD k 0 = l2.getD (k - l.length) 0 := by simp [List.getD, List.getElem?_append_right z]
    rw [this]; exact h2 _ (by omega)
theorem rep_getD {q n k : Nat} (hk : k < n) : (List.replicate n q).getD k 0 = q := by simp [List.getD, hk]
section TEXT
variable {S : PS} {ad : Nat → Nat} {pad : List Nat} {fr fp : Nat} {P : Int32 → PS → Prop}
theorem wp_lay81 {S' : PS} {k n : Nat} {last : Int32} {q : Option Nat} {l : List Nat} {K : Int32 × Int32 × PS → Prop} {i29 : Int32} (hd : DrAt S' fr fp l) (hl : okP l) (hi : (n = 0 ∧ i29 = -1) ∨ i29 = nI n) (hn : n < 10) (hq : ∀ p, q = some p → p < 12) (hno : (q = none ∨ n = 0 ∨ 24 < l.length + n) → P (nI k) S') (hok : ∀ p, q = some p → 1 ≤ n → l.length + n ≤ 24 → ∀ S'', DrAt S'' fr fp (l ++ List.replicate n p) → (∀ b, b ≠ fr → b ≠ fp → S'' b = S' b) → K (nI (k + 1), last, S'')) : wpk_X2_layOut_81 fr (nI k) S' last P K (lst q) i29 := by
  unfold wpk_X2_layOut_81
  cases q with
  | none => exact br_t (by decide) (hno (Or.inl rfl))
  | some p =>
    have hp := hq p rfl
    have hl24 := hl.1
    refine br_f (nI_pos (by omega)) ?_
    rcases Nat.eq_zero_or_pos n with z | z
    · refine br_t ?_ (hno (Or.inr (Or.inl z)))
      rcases hi with ⟨-, e⟩ | e
      · rw [e]; decide
      · rw [e, z]; decide
    · have e : i29 = nI n := hi.resolve_left (fun c => by omega)
      subst e
      refine br_f (by rw [nI_ltI (by omega) (by decide)]; omega) (gI_of hd.1 rfl ?_)
      rw [nI_add, nI_leI (by omega) (by decide)]
      refine br_c (fun c => ?_) (fun c => hno (Or.inr (Or.inr (by omega))))
      refine wpL_for n (fun j S'' => DrAt S'' fr fp (l ++ List.replicate j p) ∧ ∀ b, b ≠ fr → b ≠ fp → S'' b = S' b) ⟨by rw [List.replicate_zero, List.append_nil]; exact hd, fun _ _ _ => rfl⟩ ?_ ?_
      · intro S'' hS K2
        show wpb_X2_layOut_109 _ _ _ _ _ _ _ (nI n) S''
        unfold wpb_X2_layOut_109
        refine br_t (Int32.le_refl _) ?_
        intro i e
        rw [e, nI_add]
        exact hok p rfl z c S'' hS.1 hS.2
      · intro j S'' hj hS K2 hK2
        show wpb_X2_layOut_109 _ _ _ _ _ _ _ (nI j) S''
        unfold wpb_X2_layOut_109
        refine br_f (nI_ge hj (by omega)) (rc_of hS.1.1 (wp_add hS.1 (by rw [List.length_append, List.length_replicate]; omega) (fun S3 d3 f3 => ?_)))
        intro i e
        rw [e, nI_add]
        refine hK2 _ ⟨?_, fun b h1 h2 => by rw [f3 b h1 h2, hS.2 b h1 h2]⟩
        rw [List.replicate_succ', ← List.append_assoc]
        exact d3
theorem wp_layOut (hp : PadO S ad pad) (hf : ShD S fr fp) (h4 : ad 4 ≠ fr) (h5 : ad 5 ≠ fp) (hP : ∀ S', DrAt S' fr fp (pzP pad).2 → okP (pzP pad).2 → (∀ b, b ≠ fr → b ≠ fp → S' b = S b) → P (flt pad) S') : wp_X2_layOut S (ad 4) fr P := by
  obtain ⟨p1, p2, ⟨c, p3, p4⟩, p5⟩ := hp
  obtain ⟨⟨n0, f1⟩, F, f2⟩ := hf
  have h4p : ad 4 ≠ fp := ob_ne p1 f2 lr_ne
  have h5f : ad 5 ≠ fr := Ne.symm (ob_ne f1 p3 lr_ne)
  have hfp : fp ≠ fr := Ne.symm (ob_ne f1 f2 lr_ne)
  unfold wp_X2_layOut
  refine pF_of f1 (Nat.le_of_ble_eq_true rfl) _ rfl ?_
  have old : ∀ {S' : PS}, (∀ b, b ≠ fr → b ≠ fp → S' b = S b) → S' (ad 4) = .inl (2, [.ref (ad 5), .int (nI pad.length)]) ∧ S' (ad 5) = aC 40 c := fun h => ⟨(h _ h4 h4p).trans p1, (h _ h5f h5).trans p3⟩
  refine wpL_for pad.length (fun k q => ∃ la l, q.1 = lst la ∧ (∀ p, la = some p → p < 12) ∧ DrAt q.2 fr fp l ∧ okP l ∧ (∀ b, b ≠ fr → b ≠ fp → q.2 b = S b) ∧ pz (pad.drop k) k la l = pzP pad) ⟨none, [], rfl, fun p e => (by cases e), ⟨up_s _ _ _, F, (up_n hfp).trans f2, fun k hk => absurd hk (Nat.not_lt_zero _)⟩, ⟨by decide, fun k hk => absurd hk (Nat.not_lt_zero _)⟩, fun b h1 _ => up_n h1, rfl⟩ ?_ ?_
  · intro q hq K
    obtain ⟨la, l, e1, e2, e3, e4, e5, e6⟩ := hq
    obtain ⟨i5, S6⟩ := q
    obtain ⟨o1, o2⟩ := old e5
    show wpb_X2_layOut_9 _ _ _ _ (nI pad.length) i5 S6
    unfold wpb_X2_layOut_9
    rw [List.drop_length] at e6
    have e6 : (none, l) = pzP pad := e6
    refine gI_of o1 rfl (br_t (Int32.le_refl _) (gI_of o1 rfl ?_))
    have hfin := hP S6 (by rw [← e6]; exact e3) (by rw [← e6]; exact e4) e5
    unfold flt at hfin
    rw [← e6] at hfin
    by_cases z : pad.length = 0
    · rw [if_pos z] at hfin
      exact br_t (by rw [z]; rfl) hfin
    · rw [if_neg z] at hfin
      exact br_f (nI_ne0 (by omega) (by omega)) hfin
  · intro k q hk hq K hK
    obtain ⟨la, l, e1, e2, e3, e4, e5, e6⟩ := hq
    obtain ⟨i5, S6⟩ := q
    obtain ⟨o1, o2⟩ := old e5
    have e1 : i5 = lst la := e1
    have e3 : DrAt S6 fr fp l := e3
    have e5 : ∀ b, b ≠ fr → b ≠ fp → S6 b = S b := e5
    show wpb_X2_layOut_9 _ _ _ _ (nI k) i5 S6
    unfold wpb_X2_layOut_9
    refine gI_of o1 rfl (br_f (nI_ge hk (by omega)) (br_f (nI_ge (show k < 40 by omega) (by decide)) (gR_of o1 rfl (lC_of o2 (by omega) (by decide) ?_))))
    rw [p4 k hk]
    have hc := (p5 k hk).2
    rw [drop_cons hk] at e6
    have fail : ∀ {X : Option Nat × List Nat}, X = pzP pad → X = (some k, l) → P (nI k) S6 := fun h1 h2 => by
      have e6 : (some k, l) = pzP pad := h2.symm.trans h1
      have hfin := hP S6 (by rw [← e6]; exact e3) (by rw [← e6]; exact e4) e5
      unfold flt at hfin
      rw [← e6, if_neg (by omega)] at hfin
      exact hfin
    generalize hcc : pad.getD k 0 = cc at *
    refine wp_pressOf (by omega) (fun p hp => br_f (nI_pos (by have := prO_lt hp; omega)) ?_) (fun hp => br_t (by decide) ?_)
    · have hp12 := prO_lt hp
      have e7 : pz (cc :: pad.drop (k + 1)) k la l = if l.length + 1 ≤ 24 then pz (pad.drop (k + 1)) (k + 1) (some p) (l ++ [p]) else (some k, l) := pz_p hp
      rw [e7] at e6
      refine wp_lay81 (q := some p) (n := 1) e3 e4 (Or.inr rfl) (by decide) (fun p' e => by cases e; exact hp12) (fun c => ?_) (fun p' ep h1 h24 S'' d'' f'' => ?_)
      · refine fail e6 (if_neg ?_)
        rcases c with c | c | c
        · cases c
        · omega
        · omega
      · cases ep
        rw [if_pos h24] at e6
        refine hK _ ⟨some p, l ++ [p], rfl, fun p' e => (by cases e; exact hp12), d'', okP_app e4 (fun j hj => by
          have hj : j < 1 := hj
          rw [show j = 0 by omega]; exact hp12) h24, fun b h1 h2 => (f'' b h1 h2).trans (e5 b h1 h2), e6⟩
    · refine gR_of o1 rfl (lC_of o2 (by omega) (by decide) ?_)
      rw [p4 k hk, hcc]
      refine wp_timesOf (by omega) ?_
      intro i54 e54
      have hdg := dg_le cc
      have hi : (dg cc - 1 = 0 ∧ i54 = -1) ∨ i54 = nI (dg cc - 1) := by
        rcases Nat.eq_zero_or_pos (dg cc) with z | z
        · left; rw [e54, z]; exact ⟨rfl, by decide⟩
        · right; rw [e54, pk_sub z]
      rw [e1]
      refine wp_lay81 (q := la) (n := dg cc - 1) e3 e4 hi (by omega) e2 (fun c => ?_) (fun p' ep h1 h24 S'' d'' f'' => ?_)
      · cases la with
        | none => exact fail e6 (pz_n hp)
        | some q =>
          refine fail e6 ?_
          rw [pz_d hp, if_neg]
          rcases c with c | c | c
          · cases c
          · omega
          · omega
      · subst ep
        have e7 : pz (cc :: pad.drop (k + 1)) k (some p') l = pz (pad.drop (k + 1)) (k + 1) none (l ++ List.replicate (dg cc - 1) p') := by
          rw [pz_d hp, if_pos (by omega)]
        rw [e7] at e6
        refine hK _ ⟨none, l ++ List.replicate (dg cc - 1) p', ?_, fun p e => (by cases e), d'', okP_app e4 (fun j hj => ?_) (by rw [List.length_replicate]; exact h24), fun b h1 h2 => (f'' b h1 h2).trans (e5 b h1 h2), e6⟩
        · rfl
        · rw [List.length_replicate] at hj
          rw [rep_getD hj]; exact e2 p' rfl
end TEXT
