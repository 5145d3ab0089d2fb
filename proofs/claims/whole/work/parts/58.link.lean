/-! ===== class and reference answer alike ===== -/
def INV (S : PS) (x m : Nat) : Prop := ∃ (tg : Nat → Nat × Nat) (ad : Nat → Nat) (f g : Nat → Option Nat) (v : LM) (hist : List LM) (sl : Nat → Option LM) (pad : List Nat) (bd : Nat → Nat) (A : Nat → Nat → Int32) (I : Nat → Int32), TkF S tg x ad f g v hist sl pad ∧ MdX S tg m bd A I ∧ RA A I v hist sl pad
theorem nb (y : Int32) {n : Nat} (hn : n < 1000000) : bad y n ∨ ∃ j, j < n ∧ y = nI j := by
  by_cases c : y < 0
  · exact Or.inl (Or.inl c)
  · obtain ⟨j, hj, e⟩ := nI_of c
    rcases Nat.lt_or_ge j n with z | z
    · exact Or.inr ⟨j, z, e⟩
    · exact Or.inl (Or.inr (by rw [e]; exact nI_le z hj))
theorem nT (y : Int32) {n : Nat} (hn : n < 2 ^ 31) : (y < 0 ∨ ¬ y ≤ nI n) ∨ ∃ j, j ≤ n ∧ y = nI j := by
  by_cases c : y < 0
  · exact Or.inl (Or.inl c)
  · obtain ⟨j, hj, e⟩ := nI_of c
    rcases Nat.lt_or_ge n j with z | z
    · exact Or.inl (Or.inr (by rw [e]; exact nI_ge z hj))
    · exact Or.inr ⟨j, z, e⟩
theorem nW (y : Int32) : (y < nI 1 ∨ ¬ y ≤ nI 1000) ∨ ∃ j, 1 ≤ j ∧ j ≤ 1000 ∧ y = nI j := by
  rcases nT y (n := 1000) (by decide) with (c | c) | ⟨j, hj, e⟩
  · refine Or.inl (Or.inl ?_)
    rw [fa_lt] at c ⊢
    have e0 : (0 : Int32).toInt = 0 := by decide
    have e1 : (nI 1).toInt = 1 := by decide
    rw [e0] at c
    rw [e1]
    omega
  · exact Or.inl (Or.inr c)
  · rcases Nat.eq_zero_or_pos j with z | z
    · exact Or.inl (Or.inl (by rw [e, z]; decide))
    · exact Or.inr ⟨j, z, hj, e⟩
theorem bad_c {y : Int32} {n : Nat} (hn : n + 1 < 1000000) (h : bad y (n + 1)) : y < 0 ∨ ¬ y ≤ nI n := by
  rcases h with c | c
  · exact Or.inl c
  · exact Or.inr (fun d => nI_ge (show n < n + 1 by omega) (by omega) (Int32.le_trans c d))
theorem bad_i {y : Int32} {n : Nat} (hn : n + 1 < 1000000) (h : bad y (n + 1)) : y.toInt < 0 ∨ (n : Int) < y.toInt := by
  rcases h with c | c
  · rw [fa_lt] at c
    exact Or.inl c
  · by_cases d : y < 0
    · rw [fa_lt] at d
      exact Or.inl d
    · obtain ⟨j, hj, e⟩ := nI_of d
      rw [e, nI_leI (by omega) hj] at c
      rw [e, nI_toInt hj]
      exact Or.inr (by omega)
theorem MdX.ck {S S' : PS} {tg tg' : Nat → Nat × Nat} {m : Nat} {bd : Nat → Nat} {A : Nat → Nat → Int32} {I : Nat → Int32} (h : MdX S tg m bd A I) (c : CK 40 S tg S' tg') : MdX S' tg' m bd A I := by
  obtain ⟨h1, h2, h3, h4⟩ := h
  have em := c m (by rw [h3]; exact l_ne_oJ (by decide)) (by rw [h1]; exact Nat.le_refl 40)
  have eb : ∀ i, i < 10 → tg' (bd i) = tg (bd i) ∧ S' (bd i) = S (bd i) := fun i hi => c (bd i) (by rw [h4 i hi]; exact r_ne_oJ) (by rw [h2 i hi]; show 40 ≤ 41 + i; omega)
  exact ⟨by rw [em.1]; exact h1, fun i hi => by rw [(eb i hi).1]; exact h2 i hi, by rw [em.2]; exact h3, fun i hi => by rw [(eb i hi).2]; exact h4 i hi⟩
theorem uh_case {w th : Nat → Nat} (hw : PM w) : (∃ t, t < tua (fun p => p) w ∧ UH w th t ∧ ∀ j, j < t → ¬ UH w th j) ∨ ∀ j, ¬ UH w th j := by
  by_cases c : ∃ t, UH w th t
  · obtain ⟨t, h1, h2⟩ := pk_least (fun t => UH w th t) c
    obtain ⟨g1, g2, g3, -⟩ := tua_spec (fun p => p) hw
    refine Or.inl ⟨t, ?_, h1, h2⟩
    rcases Nat.lt_or_ge t (tua (fun p => p) w) with z | z
    · exact z
    · have hm := Nat.mod_lt t g1
      refine absurd (fun p hp => ?_) (h2 (t % tua (fun p => p) w) (by omega))
      rw [← itr_rem (g3 p hp) t]
      exact h1 p hp
  · exact Or.inr (fun j h => c ⟨j, h⟩)
section LINK
variable {S S1 S2 : PS} {x m : Nat} {y z u : Int32} {tg tg1 : Nat → Nat × Nat} {ad : Nat → Nat} {f g : Nat → Option Nat} {v : LM} {hist : List LM} {sl : Nat → Option LM} {pad : List Nat} {bd : Nat → Nat} {A : Nat → Nat → Int32} {I : Nat → Int32}
theorem lk (hm : MdX S tg m bd A I) (c : CK 40 S tg S1 tg1) : MdS S1 S1 tg1 m bd A I := MdS.rfl' (hm.ck c)
theorem inv_of (ht : TkF S1 tg1 x ad f g v hist sl pad) (hm : MdS S1 S2 tg1 m bd A I) (hr : RA A I v hist sl pad) : INV S2 x m := ⟨tg1, ad, f, g, v, hist, sl, pad, bd, A, I, ht.keep (fun b _ hb => ⟨hm.2 b hb, rfl⟩), hm.1, hr⟩
theorem TkF.okv (h : TkF S tg x ad f g v hist sl pad) : okL v := h.2.2.2.1.1
theorem TkF.pdc (h : TkF S tg x ad f g v hist sl pad) : ∀ k, k < pad.length → pad.getD k 0 < 1000 := fun k hk => by
  have := (h.2.2.2.2.2.2.2.1.2.2.2 k hk).2
  omega
theorem eq_put (h : INV S x m) : wp_X7_put S x y z (fun r S1 => rc S1 m 6 (wp_X8_put S1 m y z (fun r2 S2 => r = r2 ∧ INV S2 x m))) := by
  have h0 := h
  obtain ⟨tg, ad, f, g, v, hist, sl, pad, bd, A, I, ht, hm, hr⟩ := h
  rcases nb y (n := 12) (by decide) with hb | ⟨p, hp, rfl⟩
  · exact tk_put_no (Or.inl hb) (rc_of hm.2.2.1 (md_put_no (Or.inl hb) ⟨rfl, h0⟩))
  rcases nb z (n := 6) (by decide) with hb | ⟨q, hq, rfl⟩
  · exact tk_put_no (Or.inr hb) (rc_of hm.2.2.1 (md_put_no (Or.inr hb) ⟨rfl, h0⟩))
  · exact tk_put ht hp hq (fun S1 tg1 f1 h1 c1 => rc_of (lk hm c1).ob (md_put (lk hm c1) hr hp hq (fun S2 A2 I2 h2 r2 => ⟨rfl, inv_of h1 h2 r2⟩)))
theorem eq_tie (h : INV S x m) : wp_X7_tie S x y z (fun r S1 => rc S1 m 6 (wp_X8_tie S1 m y z (fun r2 S2 => r = r2 ∧ INV S2 x m))) := by
  have h0 := h
  obtain ⟨tg, ad, f, g, v, hist, sl, pad, bd, A, I, ht, hm, hr⟩ := h
  rcases nb y (n := 6) (by decide) with hb | ⟨p, hp, rfl⟩
  · exact tk_tie_no1 hb (rc_of hm.2.2.1 (md_tie_no1 hb ⟨rfl, h0⟩))
  rcases nb z (n := 64) (by decide) with hb | ⟨q, hq, rfl⟩
  · exact tk_tie_no2 hp hb (rc_of hm.2.2.1 (md_tie_no2 hp hb ⟨rfl, h0⟩))
  · exact tk_tie ht hp hq (fun S1 tg1 f1 h1 c1 => rc_of (lk hm c1).ob (md_tie (lk hm c1) hr ht.okv hp hq (fun S2 A2 I2 h2 r2 => ⟨rfl, inv_of h1 h2 r2⟩)))
theorem eq_read (h : INV S x m) : wp_X7_read S x y (fun r S1 => rc S1 m 6 (wp_X8_read S1 m y (fun r2 S2 => r = r2 ∧ INV S2 x m))) := by
  have h0 := h
  obtain ⟨tg, ad, f, g, v, hist, sl, pad, bd, A, I, ht, hm, hr⟩ := h
  rcases nb y (n := 6) (by decide) with hb | ⟨p, hp, rfl⟩
  · exact tk_read_no ht hb (rc_of hm.2.2.1 (md_read_no hb ⟨rfl, h0⟩))
  by_cases hf : flt pad = -6
  · exact tk_read ht hp hf (fun S1 tg1 f1 h1 c1 => rc_of (lk hm c1).ob (md_read (lk hm c1) hr ht.pdc hp hf (fun S2 A2 I2 h2 r2 => ⟨rfl, inv_of h1 h2 r2⟩)))
  · exact tk_read_bad ht hp hf (fun S1 h1 c1 => rc_of (lk hm c1).ob (md_read_bad (lk hm c1) hr ht.pdc hp hf (fun S2 A2 I2 h2 r2 => ⟨rfl, inv_of h1 h2 r2⟩)))
theorem eq_compose (h : INV S x m) : wp_X7_compose S x y z u (fun r S1 => rc S1 m 6 (wp_X8_compose S1 m y z u (fun r2 S2 => r = r2 ∧ INV S2 x m))) := by
  have h0 := h
  obtain ⟨tg, ad, f, g, v, hist, sl, pad, bd, A, I, ht, hm, hr⟩ := h
  rcases nb y (n := 6) (by decide) with hb | ⟨a, ha, rfl⟩
  · exact tk_compose_no ht (Or.inl hb) (rc_of hm.2.2.1 (md_compose_no (Or.inl hb) ⟨rfl, h0⟩))
  rcases nb z (n := 6) (by decide) with hb | ⟨b, hb, rfl⟩
  · exact tk_compose_no ht (Or.inr (Or.inl hb)) (rc_of hm.2.2.1 (md_compose_no (Or.inr (Or.inl hb)) ⟨rfl, h0⟩))
  rcases nb u (n := 6) (by decide) with hb2 | ⟨c, hc, rfl⟩
  · exact tk_compose_no ht (Or.inr (Or.inr hb2)) (rc_of hm.2.2.1 (md_compose_no (Or.inr (Or.inr hb2)) ⟨rfl, h0⟩))
  rcases Nat.lt_or_ge 24 ((drF v b).length + (drF v c).length) with hl | hl
  · exact tk_compose_many ht ha hb hc hl (rc_of hm.2.2.1 (md_compose_many (MdS.rfl' hm) hr.1 ht.okv ha hb hc hl ⟨rfl, h0⟩))
  · exact tk_compose ht ha hb hc hl (fun S1 tg1 f1 h1 c1 => rc_of (lk hm c1).ob (md_compose (lk hm c1) hr ha hb hc hl (fun S2 A2 I2 h2 r2 => ⟨rfl, inv_of h1 h2 r2⟩)))
theorem eq_turnRound (h : INV S x m) : wp_X7_turnRound S x y z (fun r S1 => rc S1 m 6 (wp_X8_turnRound S1 m y z (fun r2 S2 => r = r2 ∧ INV S2 x m))) := by
  have h0 := h
  obtain ⟨tg, ad, f, g, v, hist, sl, pad, bd, A, I, ht, hm, hr⟩ := h
  rcases nb y (n := 6) (by decide) with hb | ⟨a, ha, rfl⟩
  · exact tk_turn_no ht (Or.inl hb) (rc_of hm.2.2.1 (md_turn_no (Or.inl hb) ⟨rfl, h0⟩))
  rcases nb z (n := 6) (by decide) with hb | ⟨b, hb, rfl⟩
  · exact tk_turn_no ht (Or.inr hb) (rc_of hm.2.2.1 (md_turn_no (Or.inr hb) ⟨rfl, h0⟩))
  · exact tk_turn ht ha hb (fun S1 tg1 f1 h1 c1 => rc_of (lk hm c1).ob (md_turn (lk hm c1) hr ht.okv ha hb (fun S2 A2 I2 h2 r2 => ⟨rfl, inv_of h1 h2 r2⟩)))
theorem eq_repeat (h : INV S x m) : wp_X7_repeat S x y z u (fun r S1 => rc S1 m 6 (wp_X8_repeat S1 m y z u (fun r2 S2 => r = r2 ∧ INV S2 x m))) := by
  have h0 := h
  obtain ⟨tg, ad, f, g, v, hist, sl, pad, bd, A, I, ht, hm, hr⟩ := h
  rcases nb y (n := 6) (by decide) with hb | ⟨a, ha, rfl⟩
  · exact tk_repeat_no1 ht (Or.inl hb) (rc_of hm.2.2.1 (md_repeat_no1 (Or.inl hb) ⟨rfl, h0⟩))
  rcases nb z (n := 6) (by decide) with hb | ⟨b, hb, rfl⟩
  · exact tk_repeat_no1 ht (Or.inr hb) (rc_of hm.2.2.1 (md_repeat_no1 (Or.inr hb) ⟨rfl, h0⟩))
  rcases nb u (n := 25) (by decide) with hb2 | ⟨t, ht25, rfl⟩
  · exact tk_repeat_no2 ht ha hb (bad_c (by decide) hb2) (rc_of hm.2.2.1 (md_repeat_no2 ha hb hb2 ⟨rfl, h0⟩))
  have ht24 : t ≤ 24 := by omega
  rcases Nat.lt_or_ge 24 ((drF v b).length * t) with hl | hl
  · exact tk_repeat_many ht ha hb ht24 hl (rc_of hm.2.2.1 (md_repeat_many (MdS.rfl' hm) hr.1 ht.okv ha hb ht24 hl ⟨rfl, h0⟩))
  · exact tk_repeat ht ha hb ht24 hl (fun S1 tg1 f1 h1 c1 => rc_of (lk hm c1).ob (md_repeat (lk hm c1) hr ha hb ht24 hl (fun S2 A2 I2 h2 r2 => ⟨rfl, inv_of h1 h2 r2⟩)))
theorem eq_weave (h : INV S x m) : wp_X7_weave S x y z (fun r S1 => rc S1 m 6 (wp_X8_weave S1 m y z (fun r2 S2 => r = r2 ∧ INV S2 x m))) := by
  have h0 := h
  obtain ⟨tg, ad, f, g, v, hist, sl, pad, bd, A, I, ht, hm, hr⟩ := h
  rcases nb y (n := 6) (by decide) with hb | ⟨a, ha, rfl⟩
  · exact tk_weave_no1 ht hb (rc_of hm.2.2.1 (md_weave_no1 hb ⟨rfl, h0⟩))
  rcases nW z with hb | ⟨t, t1, t2, rfl⟩
  · exact tk_weave_no2 ht ha hb (rc_of hm.2.2.1 (md_weave_no2 ha hb ⟨rfl, h0⟩))
  · exact tk_weave ht ha t1 t2 (fun S1 tg1 f1 h1 c1 => rc_of (lk hm c1).ob (md_weave (lk hm c1) hr ht.okv ha t1 t2 (fun S2 A2 I2 h2 r2 => ⟨rfl, inv_of h1 h2 r2⟩)))
theorem eq_dye (h : INV S x m) : wp_X7_dye S x y z (fun r S1 => rc S1 m 6 (wp_X8_dye S1 m y z (fun r2 S2 => r = r2 ∧ INV S2 x m))) := by
  have h0 := h
  obtain ⟨tg, ad, f, g, v, hist, sl, pad, bd, A, I, ht, hm, hr⟩ := h
  rcases nb y (n := 12) (by decide) with hb | ⟨p, hp, rfl⟩
  · exact tk_dye_no1 hb (rc_of hm.2.2.1 (md_dye_no1 hb ⟨rfl, h0⟩))
  rcases nb z (n := 4) (by decide) with hb | ⟨q, hq, rfl⟩
  · exact tk_dye_no2 hp hb (rc_of hm.2.2.1 (md_dye_no2 hp hb ⟨rfl, h0⟩))
  · exact tk_dye ht hp hq (fun S1 tg1 f1 h1 c1 => rc_of (lk hm c1).ob (md_dye (lk hm c1) hr hp hq (fun S2 A2 I2 h2 r2 => ⟨rfl, inv_of h1 h2 r2⟩)))
theorem eq_place (h : INV S x m) : wp_X7_place S x y z (fun r => wp_X8_place S m y z (fun r2 => r = r2)) := by
  obtain ⟨tg, ad, f, g, v, hist, sl, pad, bd, A, I, ht, hm, hr⟩ := h
  rcases nb y (n := 12) (by decide) with hb | ⟨p, hp, rfl⟩
  · exact tk_place_no hb (md_place_no hb rfl)
  refine tk_place ht hp (fun c => ?_) (fun c => ?_) (fun c => ?_) (fun c => ?_) (fun c => ?_) <;> refine md_place (MdS.rfl' hm) hr.1 ht.okv hp (fun c2 => ?_) (fun c2 => ?_) (fun c2 => ?_) (fun c2 => ?_) (fun c2 => ?_) <;> first | (exfalso; omega) | exact rfl
theorem eq_treadle (h : INV S x m) : wp_X7_treadle S x y z (fun r => wp_X8_treadle S m y z (fun r2 => r = r2)) := by
  obtain ⟨tg, ad, f, g, v, hist, sl, pad, bd, A, I, ht, hm, hr⟩ := h
  rcases nb y (n := 6) (by decide) with hb | ⟨p, hp, rfl⟩
  · exact tk_treadle_no hb (md_treadle_no hb rfl)
  have e0 : (nI 0).toInt = 0 := by decide
  have e1 : (nI 1).toInt = 1 := by decide
  refine tk_treadle ht hp (fun c => ?_) (fun c => ?_) (fun c => ?_) <;> refine md_treadle (MdS.rfl' hm) hr.1 ht.okv hp (fun c2 => ?_) (fun c2 => ?_) (fun c2 => ?_)
  · exact rfl
  · exfalso; rw [c2, e0] at c; omega
  · exfalso; rw [c2, e1] at c; omega
  · exfalso; have := bad_i (n := 1) (by decide) c2; omega
  · exact rfl
  · exfalso; rw [c2, e1] at c; omega
  · exfalso; have := bad_i (n := 1) (by decide) c2; omega
  · exfalso; rw [c2, e0] at c; omega
  · exact rfl
theorem eq_draft (h : INV S x m) : wp_X7_draft S x y z (fun r => wp_X8_draft S m y z (fun r2 S2 => r = r2 ∧ INV S2 x m)) := by
  have h0 := h
  obtain ⟨tg, ad, f, g, v, hist, sl, pad, bd, A, I, ht, hm, hr⟩ := h
  rcases nb y (n := 6) (by decide) with hb | ⟨p, hp, rfl⟩
  · exact tk_draft_no ht hb (md_draft_no hb ⟨rfl, h0⟩)
  refine tk_draft ht hp (fun c => ?_) (fun c => ?_) (fun c => ?_) (fun c => ?_) (fun c => ?_) (fun c => ?_) (fun c => ?_) (fun c => ?_) <;> refine md_draft (MdS.rfl' hm) hr ht.okv hp (fun S2 A2 I2 h2 r2 => ?_) <;> have hi := inv_of ht h2 r2 <;> refine ⟨fun c2 => ?_, fun c2 => ?_, fun c2 => ?_, fun c2 => ?_, fun c2 => ?_, fun c2 => ?_, fun c2 => ?_, fun c2 => ?_⟩ <;> first | (exfalso; omega) | exact ⟨rfl, hi⟩
theorem eq_press (h : INV S x m) : wp_X7_press S x y z (fun r => wp_X8_press S m y z (fun r2 => r = r2)) := by
  obtain ⟨tg, ad, f, g, v, hist, sl, pad, bd, A, I, ht, hm, hr⟩ := h
  rcases nb y (n := 6) (by decide) with hb | ⟨p, hp, rfl⟩
  · exact tk_press_no1 ht hb (md_press_no1 hb rfl)
  have h24 := (ht.okv.2.2.2.2 p hp).1
  rcases nb z (n := (drF v p).length) (by omega) with hb | ⟨k, hk, rfl⟩
  · exact tk_press_no2 ht hp hb (md_press_no2 (MdS.rfl' hm) hr.1 ht.okv hp hb rfl)
  · exact tk_press ht hp hk (md_press (MdS.rfl' hm) hr.1 ht.okv hp hk rfl)
theorem eq_comesTo (h : INV S x m) : wp_X7_comesTo S x y z u (fun r => wp_X8_comesTo S m y z u (fun r2 S2 => r = r2 ∧ INV S2 x m)) := by
  have h0 := h
  obtain ⟨tg, ad, f, g, v, hist, sl, pad, bd, A, I, ht, hm, hr⟩ := h
  rcases nb y (n := 6) (by decide) with hb | ⟨d, hd, rfl⟩
  · exact tk_comesTo_no1 (Or.inl hb) (md_comesTo_no1 (Or.inl hb) ⟨rfl, h0⟩)
  rcases nb z (n := 12) (by decide) with hb | ⟨p, hp, rfl⟩
  · exact tk_comesTo_no1 (Or.inr hb) (md_comesTo_no1 (Or.inr hb) ⟨rfl, h0⟩)
  rcases nT u (n := 1000000) (by decide) with hb | ⟨t, htt, rfl⟩
  · exact tk_comesTo_no2 hd hp hb (md_comesTo_no2 hd hp hb ⟨rfl, h0⟩)
  · exact tk_comesTo ht hd hp htt (md_comesTo (MdS.rfl' hm) hr ht.okv hd hp htt (fun S2 A2 I2 h2 r2 => ⟨rfl, inv_of ht h2 r2⟩))
theorem eq_count (h : INV S x m) : wp_X7_count S x y (fun r => wp_X8_count S m y (fun r2 => r = r2)) := by
  obtain ⟨tg, ad, f, g, v, hist, sl, pad, bd, A, I, ht, hm, hr⟩ := h
  refine tk_count ht (fun c => ?_) (fun c => ?_) (fun c => ?_) (fun c => ?_) (fun c => ?_) (fun c => ?_) (fun c => ?_) (fun c => ?_) <;> refine md_count (MdS.rfl' hm) hr ht.okv (fun c2 => ?_) (fun c2 => ?_) (fun c2 => ?_) (fun c2 => ?_) (fun c2 => ?_) (fun c2 => ?_) (fun c2 => ?_) (fun c2 => ?_) <;> first | (exfalso; omega) | exact rfl
theorem eq_kernel (h : INV S x m) : wp_X7_kernel S x y (fun r => wp_X8_kernel S m y (fun r2 S2 => r = r2 ∧ INV S2 x m)) := by
  have h0 := h
  obtain ⟨tg, ad, f, g, v, hist, sl, pad, bd, A, I, ht, hm, hr⟩ := h
  rcases nb y (n := 64) (by decide) with hb | ⟨s, hs, rfl⟩
  · exact tk_kernel_no hb (md_kernel_no hb ⟨rfl, h0⟩)
  · exact tk_kernel ht hs (md_kernel (MdS.rfl' hm) hr ht.okv hs (fun S2 A2 I2 h2 r2 => ⟨rfl, inv_of ht h2 r2⟩))
theorem eq_orbit (h : INV S x m) : wp_X7_orbit S x y z (fun r S1 => rc S1 m 6 (wp_X8_orbit S1 m y z (fun r2 S2 => r = r2 ∧ INV S2 x m))) := by
  have h0 := h
  obtain ⟨tg, ad, f, g, v, hist, sl, pad, bd, A, I, ht, hm, hr⟩ := h
  rcases nb z (n := 12) (by decide) with hb | ⟨p, hp, rfl⟩
  · exact tk_orbit_no1 hb (rc_of hm.2.2.1 (md_orbit_no1 hb ⟨rfl, h0⟩))
  rcases nb y (n := 64) (by decide) with hb | ⟨s, hs, rfl⟩
  · exact tk_orbit_no2 hp hb (rc_of hm.2.2.1 (md_orbit_no2 hp hb ⟨rfl, h0⟩))
  · exact tk_orbit ht hp hs (fun S1 h1 c1 => rc_of (lk hm c1).ob (md_orbit (lk hm c1) hr ht.okv hp hs (fun S2 A2 I2 h2 r2 => ⟨rfl, inv_of h1 h2 r2⟩)))
theorem nun0 (a b : Nat → Nat) : nun a b 0 = eqW a b := by
  unfold nun eqW unl
  simp
theorem nun1 (a b : Nat → Nat) : nun a b 1 = eqW (fun p => b (a p)) (fun p => a (b p)) := by
  unfold nun eqW unl
  simp
theorem nun2 (a b : Nat → Nat) : nun a b 2 = eqW (fun p => b (a p)) (fun p => p) := by
  unfold nun eqW unl
  simp
theorem eq_pair (h : INV S x m) : wp_X7_pair S x y z u (fun r => wp_X8_pair S m y z u (fun r2 S2 => r = r2 ∧ INV S2 x m)) := by
  have h0 := h
  obtain ⟨tg, ad, f, g, v, hist, sl, pad, bd, A, I, ht, hm, hr⟩ := h
  rcases nb y (n := 6) (by decide) with hb | ⟨d, hd, rfl⟩
  · exact tk_pair_no1 (Or.inl hb) (md_pair_no1 (Or.inl hb) ⟨rfl, h0⟩)
  rcases nb z (n := 6) (by decide) with hb | ⟨e, he, rfl⟩
  · exact tk_pair_no1 (Or.inr hb) (md_pair_no1 (Or.inr hb) ⟨rfl, h0⟩)
  have hM := MdS.rfl' hm
  rcases nb u (n := 4) (by decide) with hb | ⟨j, hj, rfl⟩
  · have hi := bad_i (n := 3) (by decide) hb
    refine tk_pair ht hd he (fun c => ?_) (fun c => ?_) (fun c => ?_) (fun c => ?_) (fun c => ?_)
    · exact md_pair hM hr ht.okv hd he (fun _ => ⟨rfl, h0⟩) (fun S2 A2 I2 how hh e2 _ _ => absurd (e2 ▸ hb) (no_bad hh (by decide)))
    all_goals (exfalso; omega)
  · have ej := nI_toInt (n := j) (by omega)
    have go : ∀ r : Int32, r = (if j = 3 then nI (bs (unl (wy v d) (wy v e) 0) 12) else nI (b2 (nun (wy v d) (wy v e) j))) → wp_X8_pair S m (nI d) (nI e) (nI j) (fun r2 S2 => r = r2 ∧ INV S2 x m) := fun r er =>
      md_pair hM hr ht.okv hd he (fun b => absurd b (no_bad hj (by decide))) (fun S2 A2 I2 how hh e2 h2 r2 => by
        have e3 : j = how := (nI_eq (by omega) (by omega)).mp e2
        subst e3
        exact ⟨er, inv_of ht h2 r2⟩)
    refine tk_pair ht hd he (fun c => ?_) (fun c => go _ ?_) (fun c => go _ ?_) (fun c => go _ ?_) (fun c => go _ ?_)
    · exfalso; omega
    · have : j = 0 := by omega
      subst this
      rw [nun0]; rfl
    · have : j = 1 := by omega
      subst this
      rw [nun1]; rfl
    · have : j = 2 := by omega
      subst this
      rw [nun2]; rfl
    · have : j = 3 := by omega
      subst this
      rfl
theorem eq_ways (h : INV S x m) : wp_X7_ways S x y (fun r S1 => rc S1 m 6 (wp_X8_ways S1 m y (fun r2 S2 => r = r2 ∧ INV S2 x m))) := by
  have h0 := h
  obtain ⟨tg, ad, f, g, v, hist, sl, pad, bd, A, I, ht, hm, hr⟩ := h
  rcases nb y (n := 64) (by decide) with hb | ⟨s, hs, rfl⟩
  · exact tk_ways_no hb (rc_of hm.2.2.1 (md_ways_no hb ⟨rfl, h0⟩))
  · exact tk_ways ht hs (fun S1 h1 c1 => rc_of (lk hm c1).ob (md_ways (lk hm c1) hr ht.okv hs (fun S2 A2 I2 h2 r2 => ⟨rfl, inv_of h1 h2 r2⟩)))
theorem eq_untilHome (h : INV S x m) : wp_X7_untilHome S x y (fun r => wp_X8_untilHome S m y (fun r2 S2 => r = r2 ∧ INV S2 x m)) := by
  have h0 := h
  obtain ⟨tg, ad, f, g, v, hist, sl, pad, bd, A, I, ht, hm, hr⟩ := h
  rcases nb y (n := 6) (by decide) with hb | ⟨d, hd, rfl⟩
  · exact tk_untilHome_no hb (md_untilHome_no hb ⟨rfl, h0⟩)
  obtain ⟨g1, g2, -, -⟩ := tua_spec (fun p => p) (pmWy v d)
  rcases uh_case (th := thF v) (pmWy v d) with ⟨t, t1, t2, t3⟩ | hn
  · exact tk_untilHome ht hd (by omega) t2 t3 (md_untilHome (MdS.rfl' hm) hr ht.okv hd (Nat.le_of_lt t1) (fun _ => t2) t3 (fun S2 A2 I2 h2 r2 => ⟨(if_pos t1).symm, inv_of ht h2 r2⟩))
  · exact tk_untilHome_none ht hd (fun j _ => hn j) (md_untilHome (t := tua (fun p => p) (wy v d)) (MdS.rfl' hm) hr ht.okv hd (Nat.le_refl _) (fun c => absurd c (Nat.lt_irrefl _)) (fun j _ => hn j) (fun S2 A2 I2 h2 r2 => ⟨(if_neg (Nat.lt_irrefl _)).symm, inv_of ht h2 r2⟩))
theorem eq_bestDraft (h : INV S x m) : wp_X7_bestDraft S x y (fun r => wp_X8_bestDraft S m y (fun r2 S2 => r = r2 ∧ INV S2 x m)) := by
  have h0 := h
  obtain ⟨tg, ad, f, g, v, hist, sl, pad, bd, A, I, ht, hm, hr⟩ := h
  rcases nb y (n := 2) (by decide) with hb | ⟨j, hj, rfl⟩
  · refine tk_best_no (fun e => ?_) (fun e => ?_) (md_best_no hb ⟨rfl, h0⟩)
    · rw [e] at hb
      exact no_bad (j := 0) (n := 2) (by decide) (by decide) hb
    · rw [e] at hb
      exact no_bad (j := 1) (n := 2) (by decide) (by decide) hb
  rcases (by omega : j = 0 ∨ j = 1) with rfl | rfl
  · exact tk_best ht (Or.inl rfl) (fun _ => md_best_aux (bst v) rfl (fun _ => rfl) hj (MdS.rfl' hm) hr ht.okv (fun S2 A2 I2 h2 r2 => ⟨rfl, inv_of ht h2 r2⟩)) (fun c => absurd rfl c)
  · exact tk_best ht (Or.inr rfl) (fun c => absurd c n1z) (fun _ => md_best_aux (bst v) rfl (fun _ => rfl) hj (MdS.rfl' hm) hr ht.okv (fun S2 A2 I2 h2 r2 => ⟨rfl, inv_of ht h2 r2⟩))
theorem eq_write {w : Int64} (h : INV S x m) : wp_X7_write S x w (fun r S1 => rc S1 m 6 (wp_X8_write S1 m w (fun r2 S2 => r = r2 ∧ INV S2 x m))) := by
  have h0 := h
  obtain ⟨tg, ad, f, g, v, hist, sl, pad, bd, A, I, ht, hm, hr⟩ := h
  obtain ⟨n, hn, rfl⟩ := wb_of w
  by_cases hs : signs n = 0
  · exact tk_write_no hn hs (rc_of hm.2.2.1 (md_write_no hn hs ⟨rfl, h0⟩))
  rcases Nat.lt_or_ge 40 (pad.length + signs n) with hl | hl
  · exact tk_write_many ht hn hs hl (rc_of hm.2.2.1 (md_write_many (MdS.rfl' hm) hr hn hs hl ⟨rfl, h0⟩))
  · exact tk_write ht hn hs hl (fun S1 h1 c1 => rc_of (lk hm c1).ob (md_write (lk hm c1) hr hn hs hl (fun S2 A2 I2 h2 r2 => ⟨rfl, inv_of h1 h2 r2⟩)))
theorem eq_wipe (h : INV S x m) : wp_X7_wipe S x (fun r S1 => rc S1 m 6 (wp_X8_wipe S1 m (fun r2 S2 => r = r2 ∧ INV S2 x m))) := by
  obtain ⟨tg, ad, f, g, v, hist, sl, pad, bd, A, I, ht, hm, hr⟩ := h
  exact tk_wipe ht (fun S1 h1 c1 => rc_of (lk hm c1).ob (md_wipe (lk hm c1) hr (fun S2 A2 I2 h2 r2 => ⟨rfl, inv_of h1 h2 r2⟩)))
theorem eq_fault (h : INV S x m) : wp_X7_fault S x (fun r S1 => rc S1 m 6 (wp_X8_fault S1 m (fun r2 S2 => r = r2 ∧ INV S2 x m))) := by
  obtain ⟨tg, ad, f, g, v, hist, sl, pad, bd, A, I, ht, hm, hr⟩ := h
  exact tk_fault ht (fun S1 h1 c1 => rc_of (lk hm c1).ob (md_fault (lk hm c1) hr ht.pdc (fun S2 A2 I2 h2 r2 => ⟨rfl, inv_of h1 h2 r2⟩)))
theorem eq_undo (h : INV S x m) : wp_X7_undo S x (fun r S1 => rc S1 m 6 (wp_X8_undo S1 m (fun r2 S2 => r = r2 ∧ INV S2 x m))) := by
  have h0 := h
  obtain ⟨tg, ad, f, g, v, hist, sl, pad, bd, A, I, ht, hm, hr⟩ := h
  rcases Nat.eq_zero_or_pos hist.length with c | c
  · exact tk_undo_no ht c (rc_of hm.2.2.1 (md_undo_no (MdS.rfl' hm) hr c ⟨rfl, h0⟩))
  · have hw : hist[hist.length - 1]? = some (hist[hist.length - 1]'(by omega)) := List.getElem?_eq_getElem (by omega)
    exact tk_undo ht hw (fun S1 h1 c1 => rc_of (lk hm c1).ob (md_undo (lk hm c1) hr hw (fun S2 A2 I2 h2 r2 => ⟨rfl, inv_of h1 h2 r2⟩)))
theorem eq_save (h : INV S x m) : wp_X7_save S x y (fun r S1 => rc S1 m 6 (wp_X8_save S1 m y (fun r2 S2 => r = r2 ∧ INV S2 x m))) := by
  have h0 := h
  obtain ⟨tg, ad, f, g, v, hist, sl, pad, bd, A, I, ht, hm, hr⟩ := h
  rcases nb y (n := 2) (by decide) with hb | ⟨j, hj, rfl⟩
  · exact tk_save_no hb (rc_of hm.2.2.1 (md_save_no hb ⟨rfl, h0⟩))
  · exact tk_save ht hj (fun S1 tg1 g1 h1 c1 => rc_of (lk hm c1).ob (md_save (lk hm c1) hr ht.okv hj (fun S2 A2 I2 h2 r2 => ⟨rfl, inv_of h1 h2 r2⟩)))
theorem eq_restore (h : INV S x m) : wp_X7_restore S x y (fun r S1 => rc S1 m 6 (wp_X8_restore S1 m y (fun r2 S2 => r = r2 ∧ INV S2 x m))) := by
  have h0 := h
  obtain ⟨tg, ad, f, g, v, hist, sl, pad, bd, A, I, ht, hm, hr⟩ := h
  rcases nb y (n := 2) (by decide) with hb | ⟨j, hj, rfl⟩
  · exact tk_restore_no hb (rc_of hm.2.2.1 (md_restore_no hb ⟨rfl, h0⟩))
  cases hs : sl j with
  | none => exact tk_restore_none ht hj hs (rc_of hm.2.2.1 (md_restore_none (MdS.rfl' hm) hr hj hs ⟨rfl, h0⟩))
  | some w =>
    obtain ⟨a, -, hw⟩ := (ht.2.2.2.2.2.1 j hj).2 w hs
    exact tk_restore ht hj hs (fun S1 tg1 f1 h1 c1 => rc_of (lk hm c1).ob (md_restore (lk hm c1) hr hw.1 hj hs (fun S2 A2 I2 h2 r2 => ⟨rfl, inv_of h1 h2 r2⟩)))
theorem INV.cx (h : INV S x m) : ∃ fs, S x = .inl (5, fs) := by
  obtain ⟨tg, ad, f, g, v, hist, sl, pad, bd, A, I, ht, hm, hr⟩ := h
  exact ⟨_, ht.2.1⟩
theorem INV.cm (h : INV S x m) : ∃ fs, S m = .inl (6, fs) := by
  obtain ⟨tg, ad, f, g, v, hist, sl, pad, bd, A, I, ht, hm, hr⟩ := h
  exact ⟨_, hm.2.2.1⟩
/-- a new class and a new reference -/
theorem inv_new {P : PS → Prop} (ht : TkF S tg x ad (fun _ => none) (fun _ => none) v0 [] (fun _ => none) []) (hq : S m = oJ) (hP : ∀ S', INV S' x m → P S') : wp_X8_init (va_up S m (.inl (6, [.null, .null, .int 0, .null, .null, .null, .int 0, .int 0, .null, .int 0, .null, .null, .null, .null, .int 0]))) m P := by
  have ht2 : TkF (va_up S m (.inl (6, [.null, .null, .int 0, .null, .null, .null, .int 0, .int 0, .null, .int 0, .null, .null, .null, .null, .int 0]))) (va_up tg m (m, 40)) x ad (fun _ => none) (fun _ => none) v0 [] (fun _ => none) [] := ht.keep (fun b hb _ => by
    have hbm : b ≠ m := fun e => hb (by rw [e, hq])
    exact ⟨up_n hbm, va_up_ne _ _ hbm⟩)
  exact md_new (up_s _ _ _) (va_up_self _ _ _) (fun S' tg' bd A I hX hR fr => hP S' ⟨tg', ad, _, _, v0, [], _, [], bd, A, I, ht2.keep fr, hX, hR⟩)
end LINK
