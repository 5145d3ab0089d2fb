/-! ===== one call of the law's: what it answers, what it does ===== -/
noncomputable def cF (kd a : Nat) (b e : Int32) (v : LM) : Int32 × LM :=
  if kd = 0 then (nI (shF v a), setSh v a b.toNatClampNeg)
  else if kd = 1 then (nI (fb_ct (ra (setTi v a b.toNatClampNeg) a) 12), setTi v a b.toNatClampNeg)
  else if kd = 2 then (if (wrw b e).length ≤ 24 then (nI (wrw b e).length, setDr v a (wrw b e)) else (-3, v))
  else if kd = 3 then (if (drF v b.toNatClampNeg).length + (drF v e.toNatClampNeg).length ≤ 24 then (nI ((drF v b.toNatClampNeg).length + (drF v e.toNatClampNeg).length), setDr v a (drF v b.toNatClampNeg ++ drF v e.toNatClampNeg)) else (-4, v))
  else if kd = 4 then (nI (drF v b.toNatClampNeg).length, setDr v a (trn (drF v b.toNatClampNeg)))
  else if kd = 5 then (if (drF v b.toNatClampNeg).length * e.toNatClampNeg ≤ 24 then (nI ((drF v b.toNatClampNeg).length * e.toNatClampNeg), setDr v a (rpt (drF v b.toNatClampNeg) e.toNatClampNeg)) else (-4, v))
  else if kd = 6 then (nI (hom (wvn v a b.toNatClampNeg)), wvn v a b.toNatClampNeg)
  else (nI (coF v a), setCo v a b.toNatClampNeg)
def okC (kd a : Nat) (b e : Int32) : Prop :=
  (kd = 0 ∧ a < 12 ∧ ∃ s, s < 6 ∧ b = nI s) ∨ (kd = 1 ∧ a < 6 ∧ ∃ s, s < 64 ∧ b = nI s) ∨ (kd = 2 ∧ a < 6) ∨ (kd = 3 ∧ a < 6 ∧ ∃ y z, y < 6 ∧ z < 6 ∧ b = nI y ∧ e = nI z) ∨ (kd = 4 ∧ a < 6 ∧ ∃ y, y < 6 ∧ b = nI y) ∨ (kd = 5 ∧ a < 6 ∧ ∃ y z, y < 6 ∧ z ≤ 24 ∧ b = nI y ∧ e = nI z) ∨ (kd = 6 ∧ a < 6 ∧ ∃ t, 1 ≤ t ∧ t ≤ 1000 ∧ b = nI t) ∨ (kd = 7 ∧ a < 12 ∧ ∃ c, c < 4 ∧ b = nI c)
theorem cF0 {a s : Nat} {e : Int32} {v : LM} (hs : s < 1000000) : cF 0 a (nI s) e v = (nI (shF v a), setSh v a s) := by
  unfold cF; rw [if_pos rfl, clp hs]
theorem cF1 {a s : Nat} {e : Int32} {v : LM} (hs : s < 1000000) : cF 1 a (nI s) e v = (nI (fb_ct (ra (setTi v a s) a) 12), setTi v a s) := by
  unfold cF; rw [if_neg (by decide), if_pos rfl, clp hs]
theorem cF2 {a : Nat} {b e : Int32} {v : LM} : cF 2 a b e v = if (wrw b e).length ≤ 24 then (nI (wrw b e).length, setDr v a (wrw b e)) else (-3, v) := by
  unfold cF; rw [if_neg (by decide), if_neg (by decide), if_pos rfl]
theorem cF3 {a y z : Nat} {v : LM} (hy : y < 1000000) (hz : z < 1000000) : cF 3 a (nI y) (nI z) v = if (drF v y).length + (drF v z).length ≤ 24 then (nI ((drF v y).length + (drF v z).length), setDr v a (drF v y ++ drF v z)) else (-4, v) := by
  unfold cF; rw [if_neg (by decide), if_neg (by decide), if_neg (by decide), if_pos rfl, clp hy, clp hz]
theorem cF4 {a y : Nat} {e : Int32} {v : LM} (hy : y < 1000000) : cF 4 a (nI y) e v = (nI (drF v y).length, setDr v a (trn (drF v y))) := by
  unfold cF; rw [if_neg (by decide), if_neg (by decide), if_neg (by decide), if_neg (by decide), if_pos rfl, clp hy]
theorem cF5 {a y z : Nat} {v : LM} (hy : y < 1000000) (hz : z < 1000000) : cF 5 a (nI y) (nI z) v = if (drF v y).length * z ≤ 24 then (nI ((drF v y).length * z), setDr v a (rpt (drF v y) z)) else (-4, v) := by
  unfold cF; rw [if_neg (by decide), if_neg (by decide), if_neg (by decide), if_neg (by decide), if_neg (by decide), if_pos rfl, clp hy, clp hz]
theorem cF6 {a t : Nat} {e : Int32} {v : LM} (ht : t < 1000000) : cF 6 a (nI t) e v = (nI (hom (wvn v a t)), wvn v a t) := by
  unfold cF; rw [if_neg (by decide), if_neg (by decide), if_neg (by decide), if_neg (by decide), if_neg (by decide), if_neg (by decide), if_pos rfl, clp ht]
theorem cF7 {a c : Nat} {e : Int32} {v : LM} (hc : c < 1000000) : cF 7 a (nI c) e v = (nI (coF v a), setCo v a c) := by
  unfold cF; rw [if_neg (by decide), if_neg (by decide), if_neg (by decide), if_neg (by decide), if_neg (by decide), if_neg (by decide), if_neg (by decide), clp hc]
theorem cF_neg {kd a : Nat} {b e : Int32} {v : LM} (hv : okL v) (hc : okC kd a b e) (h : ¬ 0 ≤ (cF kd a b e v).1) : (cF kd a b e v).2 = v ∧ ((cF kd a b e v).1 = -3 ∨ (cF kd a b e v).1 = -4) := by
  have nn : ∀ {n : Nat}, n < 1000000 → (0 : Int32) ≤ nI n := fun hn => nneg hn
  rcases hc with ⟨rfl, ha, s, hs, rfl⟩ | ⟨rfl, ha, s, hs, rfl⟩ | ⟨rfl, ha⟩ | ⟨rfl, ha, y, z, hy, hz, rfl, rfl⟩ | ⟨rfl, ha, y, hy, rfl⟩ | ⟨rfl, ha, y, z, hy, hz, rfl, rfl⟩ | ⟨rfl, ha, t, ht1, ht, rfl⟩ | ⟨rfl, ha, c, hc, rfl⟩
  · rw [cF0 (by omega)] at h
    exact absurd (nn (by have := hv.1 a ha; omega)) h
  · rw [cF1 (by omega)] at h
    exact absurd (nn (by have := fb_ct_le (ra (setTi v a s) a) 12; omega)) h
  · rw [cF2] at h ⊢
    by_cases c : (wrw b e).length ≤ 24
    · rw [if_pos c] at h
      exact absurd (nn (by omega)) h
    · rw [if_neg c]; exact ⟨rfl, Or.inl rfl⟩
  · rw [cF3 (by omega) (by omega)] at h ⊢
    by_cases c : (drF v y).length + (drF v z).length ≤ 24
    · rw [if_pos c] at h
      exact absurd (nn (by omega)) h
    · rw [if_neg c]; exact ⟨rfl, Or.inr rfl⟩
  · rw [cF4 (by omega)] at h
    exact absurd (nn (by have := (hv.2.2.2.2 y hy).1; omega)) h
  · rw [cF5 (by omega) (by omega)] at h ⊢
    by_cases c : (drF v y).length * z ≤ 24
    · rw [if_pos c] at h
      exact absurd (nn (by omega)) h
    · rw [if_neg c]; exact ⟨rfl, Or.inr rfl⟩
  · rw [cF6 (by omega)] at h
    exact absurd (nn (by unfold hom; have := fb_ct_le (fun p => thF (wvn v a t) p == p) 12; omega)) h
  · rw [cF7 (by omega)] at h
    exact absurd (nn (by have := hv.2.2.2.1 a ha; omega)) h
section LE
variable {S S' : PS} {tg tg' : Nat → Nat × Nat} {x : Nat} {ad : Nat → Nat} {f g : Nat → Option Nat} {v : LM} {hist : List LM} {sl : Nat → Option LM} {pad : List Nat} {P : Int32 → PS → Prop} {ar : Nat}
theorem wq_call {kd a : Nat} {b e : Int32} {R0 : Nat → Int32} (h : TkF S tg x ad f g v hist sl pad) (hc : okC kd a b e) (hr : AF S ar 24 R0) (har : 40 ≤ (tg ar).2)
    (hP : ∀ S' tg' f' hist' pad' R, TkF S' tg' x ad f' g (cF kd a b e v).2 hist' sl pad' → (0 ≤ (cF kd a b e v).1 → hist' = pushH hist v) → RK ar S tg S' tg' → AF S' ar 24 R → (kd = 2 → (wrw b e).length ≤ 24 → ∀ k, k < (wrw b e).length → R k = nI ((wrw b e).getD k 0)) → P (cF kd a b e v).1 S') : wp_L_call S x (nI kd) (nI a) b e ar P := by
  have hx := h.2.1
  have ck : ∀ {S' : PS} {tg' : Nat → Nat × Nat}, CK 40 S tg S' tg' → RK ar S tg S' tg' ∧ AF S' ar 24 R0 := fun c => ⟨RK.ck c, hr.fr (c ar hr.live har).2⟩
  unfold wp_L_call
  have okv := h.2.2.2.1.1
  rcases hc with ⟨rfl, ha, s, hs, rfl⟩ | ⟨rfl, ha, s, hs, rfl⟩ | ⟨rfl, ha⟩ | ⟨rfl, ha, y, z, hy, hz, rfl, rfl⟩ | ⟨rfl, ha, y, hy, rfl⟩ | ⟨rfl, ha, y, z, hy, hz, rfl, rfl⟩ | ⟨rfl, ha, t, ht1, ht, rfl⟩ | ⟨rfl, ha, c, hc, rfl⟩
  · refine ⟨fun c => absurd c (by decide), fun _ => ?_, fun c => absurd c (by decide), fun c => absurd c (by decide), fun c => absurd c (by decide), fun c => absurd c (by decide), fun c => absurd c (by decide), fun c => absurd c (by decide)⟩
    rw [cF0 (by omega)] at hP
    refine rc_of hx (tk_put h ha hs (fun S' tg' f' h' c' => ?_))
    exact hP S' tg' f' _ _ R0 h' (fun _ => rfl) (ck c').1 (ck c').2 (fun c => absurd c (by decide))
  · refine ⟨fun c => absurd c (by decide), fun c => absurd c (by decide), fun _ => ?_, fun c => absurd c (by decide), fun c => absurd c (by decide), fun c => absurd c (by decide), fun c => absurd c (by decide), fun c => absurd c (by decide)⟩
    rw [cF1 (by omega)] at hP
    refine rc_of hx (tk_tie h ha hs (fun S' tg' f' h' c' => ?_))
    exact hP S' tg' f' _ _ R0 h' (fun _ => rfl) (ck c').1 (ck c').2 (fun c => absurd c (by decide))
  · refine ⟨fun c => absurd c (by decide), fun c => absurd c (by decide), fun c => absurd c (by decide), fun _ => ?_, fun c => absurd c (by decide), fun c => absurd c (by decide), fun c => absurd c (by decide), fun c => absurd c (by decide)⟩
    rw [cF2] at hP
    refine wq_writes h ha hr har (fun hl S' tg' f' R h' k' r' hR => ?_) (fun hl S' pad' R h' k' r' => ?_)
    · rw [if_pos hl] at hP
      exact hP S' tg' f' _ _ R h' (fun _ => rfl) k' r' (fun _ _ => hR)
    · rw [if_neg (by omega)] at hP
      exact hP S' tg f _ _ R h' (fun c => absurd c (by show ¬ (0 : Int32) ≤ -3; decide)) k' r' (fun _ c => by omega)
  · refine ⟨fun c => absurd c (by decide), fun c => absurd c (by decide), fun c => absurd c (by decide), fun c => absurd c (by decide), fun _ => ?_, fun c => absurd c (by decide), fun c => absurd c (by decide), fun c => absurd c (by decide)⟩
    rw [cF3 (by omega) (by omega)] at hP
    by_cases hl : (drF v y).length + (drF v z).length ≤ 24
    · rw [if_pos hl] at hP
      refine rc_of hx (tk_compose h ha hy hz hl (fun S' tg' f' h' c' => ?_))
      exact hP S' tg' f' _ _ R0 h' (fun _ => rfl) (ck c').1 (ck c').2 (fun c => absurd c (by decide))
    · rw [if_neg hl] at hP
      refine rc_of hx (tk_compose_many h ha hy hz (by omega) ?_)
      exact hP S tg f _ _ R0 h (fun c => absurd c (by show ¬ (0 : Int32) ≤ -4; decide)) RK.rf hr (fun c => absurd c (by decide))
  · refine ⟨fun c => absurd c (by decide), fun c => absurd c (by decide), fun c => absurd c (by decide), fun c => absurd c (by decide), fun c => absurd c (by decide), fun _ => ?_, fun c => absurd c (by decide), fun c => absurd c (by decide)⟩
    rw [cF4 (by omega)] at hP
    refine rc_of hx (tk_turn h ha hy (fun S' tg' f' h' c' => ?_))
    exact hP S' tg' f' _ _ R0 h' (fun _ => rfl) (ck c').1 (ck c').2 (fun c => absurd c (by decide))
  · refine ⟨fun c => absurd c (by decide), fun c => absurd c (by decide), fun c => absurd c (by decide), fun c => absurd c (by decide), fun c => absurd c (by decide), fun c => absurd c (by decide), fun _ => ?_, fun c => absurd c (by decide)⟩
    rw [cF5 (by omega) (by omega)] at hP
    by_cases hl : (drF v y).length * z ≤ 24
    · rw [if_pos hl] at hP
      refine rc_of hx (tk_repeat h ha hy hz hl (fun S' tg' f' h' c' => ?_))
      exact hP S' tg' f' _ _ R0 h' (fun _ => rfl) (ck c').1 (ck c').2 (fun c => absurd c (by decide))
    · rw [if_neg hl] at hP
      refine rc_of hx (tk_repeat_many h ha hy hz (by omega) ?_)
      exact hP S tg f _ _ R0 h (fun c => absurd c (by show ¬ (0 : Int32) ≤ -4; decide)) RK.rf hr (fun c => absurd c (by decide))
  · refine ⟨fun c => absurd c (by decide), fun c => absurd c (by decide), fun c => absurd c (by decide), fun c => absurd c (by decide), fun c => absurd c (by decide), fun c => absurd c (by decide), fun c => absurd c (by decide), fun _ => ?_⟩
    rw [cF6 (by omega)] at hP
    refine rc_of hx (tk_weave h ha ht1 ht (fun S' tg' f' h' c' => ?_))
    exact hP S' tg' f' _ _ R0 h' (fun _ => rfl) (ck c').1 (ck c').2 (fun c => absurd c (by decide))
  · refine ⟨fun _ => ?_, fun c => absurd c (by decide), fun c => absurd c (by decide), fun c => absurd c (by decide), fun c => absurd c (by decide), fun c => absurd c (by decide), fun c => absurd c (by decide), fun c => absurd c (by decide)⟩
    rw [cF7 (by omega)] at hP
    refine rc_of hx (tk_dye h ha hc (fun S' tg' f' h' c' => ?_))
    exact hP S' tg' f' _ _ R0 h' (fun _ => rfl) (ck c').1 (ck c').2 (fun c => absurd c (by decide))
end LE
/-! ===== what the law itself holds of the loom ===== -/
def LWo (S : PS) (tg : Nat → Nat × Nat) (x : Nat) (la : Nat → Nat) (v : LM) : Prop := (∀ j, j < 7 → tg (la j) = (x, 40 + j)) ∧ AN S (la 0) 12 (shF v) ∧ AN S (la 1) 6 (tiF v) ∧ AN S (la 2) 12 (thF v) ∧ AN S (la 3) 12 (coF v) ∧ AF S (la 4) 8 (nF v) ∧ AN S (la 5) 18 (dF v) ∧ ∃ R, AF S (la 6) 24 R
theorem LWo.ne {S : PS} {tg : Nat → Nat × Nat} {x : Nat} {la : Nat → Nat} {v : LM} (h : LWo S tg x la v) {i j : Nat} (hi : i < 7) (hj : j < 7) (hn : i ≠ j) : la i ≠ la j := tne (h.1 i hi) (h.1 j hj) (fun e => hn (by have := congrArg Prod.snd e; have : 40 + i = 40 + j := this; omega))
theorem LWo.live {S : PS} {tg : Nat → Nat × Nat} {x : Nat} {la : Nat → Nat} {v : LM} (h : LWo S tg x la v) {i : Nat} (hi : i < 7) : S (la i) ≠ oJ := by
  obtain ⟨t, h0, h1, h2, h3, h4, h5, R, h6⟩ := h
  rcases (by omega : i = 0 ∨ i = 1 ∨ i = 2 ∨ i = 3 ∨ i = 4 ∨ i = 5 ∨ i = 6) with rfl | rfl | rfl | rfl | rfl | rfl | rfl
  · exact h0.live
  · exact h1.live
  · exact h2.live
  · exact h3.live
  · exact h4.live
  · exact h5.live
  · exact h6.live
/-- nothing of the law's changes -/
theorem LWo.keep {S S' : PS} {tg tg' : Nat → Nat × Nat} {x : Nat} {la : Nat → Nat} {v : LM} (h : LWo S tg x la v) (hS : ∀ b, S b ≠ oJ → 40 ≤ (tg b).2 → tg' b = tg b ∧ S' b = S b) : LWo S' tg' x la v := by
  have e : ∀ i, i < 7 → tg' (la i) = tg (la i) ∧ S' (la i) = S (la i) := fun i hi => hS _ (h.live hi) (by rw [h.1 i hi]; show 40 ≤ 40 + i; omega)
  obtain ⟨t, h0, h1, h2, h3, h4, h5, R, h6⟩ := h
  exact ⟨fun j hj => by rw [(e j hj).1]; exact t j hj, h0.fr (e 0 (by decide)).2, h1.fr (e 1 (by decide)).2, h2.fr (e 2 (by decide)).2, h3.fr (e 3 (by decide)).2, h4.fr (e 4 (by decide)).2, h5.fr (e 5 (by decide)).2, R, h6.fr (e 6 (by decide)).2⟩
theorem LWo.keep6 {S S' : PS} {tg tg' : Nat → Nat × Nat} {x : Nat} {la : Nat → Nat} {v : LM} {R : Nat → Int32} (h : LWo S tg x la v) (hS : RK (la 6) S tg S' tg') (hR : AF S' (la 6) 24 R) : LWo S' tg' x la v := by
  have e : ∀ i, i < 7 → tg' (la i) = tg (la i) ∧ (i ≠ 6 → S' (la i) = S (la i)) := fun i hi => by
    obtain ⟨a1, a2, a3⟩ := hS _ (h.live hi) (by rw [h.1 i hi]; show 40 ≤ 40 + i; omega)
    exact ⟨a1, fun hn => a3 (h.ne hi (by decide) hn)⟩
  obtain ⟨t, h0, h1, h2, h3, h4, h5, -, -⟩ := h
  exact ⟨fun j hj => by rw [(e j hj).1]; exact t j hj, h0.fr ((e 0 (by decide)).2 (by decide)), h1.fr ((e 1 (by decide)).2 (by decide)), h2.fr ((e 2 (by decide)).2 (by decide)), h3.fr ((e 3 (by decide)).2 (by decide)), h4.fr ((e 4 (by decide)).2 (by decide)), h5.fr ((e 5 (by decide)).2 (by decide)), R, hR⟩
/-- what the law does leaves the class's own cells as they were -/
def LK4 (S : PS) (tg : Nat → Nat × Nat) (S' : PS) : Prop := ∀ b, S b ≠ oJ → (tg b).2 < 40 → S' b = S b
theorem LK4.tk {S S' : PS} {tg : Nat → Nat × Nat} {x : Nat} {ad : Nat → Nat} {f g : Nat → Option Nat} {v : LM} {hist : List LM} {sl : Nat → Option LM} {pad : List Nat} (h : TkF S tg x ad f g v hist sl pad) (k : LK4 S tg S') : TkF S' tg x ad f g v hist sl pad := h.keep (fun b h1 h2 => ⟨k b h1 h2, rfl⟩)
