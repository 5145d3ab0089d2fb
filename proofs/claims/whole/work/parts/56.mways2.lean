theorem adw_pm {L : List (Nat → Nat)} {w : Nat → Nat} (hL : ∀ u, u ∈ L → PM u) (hw : PM w) : ∀ u, u ∈ adw L w → PM u := fun u hu => by
  unfold adw at hu
  split at hu
  · rcases List.mem_append.mp hu with c | c
    · exact hL u c
    · rw [List.mem_singleton.mp c]; exact hw
  · exact hL u hu
theorem mkp_succ (v : LM) (D k : Nat) : mkp v D (k + 1) = if D.testBit k = true then mkp v D k ++ [wy v k] else mkp v D k := rfl
theorem mkp_len (v : LM) (D k : Nat) : ∀ n, (mkp v D k).length ≤ (mkp v D (k + n)).length
  | 0 => Nat.le_refl _
  | n + 1 => by
    have h := mkp_len v D k n
    show _ ≤ (mkp v D (k + n + 1)).length
    rw [mkp_succ]
    split
    · rw [List.length_append]; omega
    · exact h
theorem mkp_pre {v : LM} {D k i : Nat} (hi : i < (mkp v D k).length) : ∀ n, fnth (mkp v D (k + n)) i = fnth (mkp v D k) i
  | 0 => rfl
  | n + 1 => by
    have h := mkp_pre hi n
    have hl := mkp_len v D k n
    show fnth (mkp v D (k + n + 1)) i = _
    rw [mkp_succ]
    split
    · rw [fnth_l (by omega)]; exact h
    · exact h
theorem mkp_on {v : LM} {D d : Nat} (hb : D.testBit d = true) (hd : d < 6) : (mkp v D (d + 1)).length = (mkp v D d).length + 1 ∧ fnth (mkp v D 6) (mkp v D d).length = wy v d := by
  have e : mkp v D (d + 1) = mkp v D d ++ [wy v d] := by rw [mkp_succ, if_pos hb]
  have el : (mkp v D (d + 1)).length = (mkp v D d).length + 1 := by rw [e, List.length_append]; rfl
  refine ⟨el, ?_⟩
  have h := mkp_pre (v := v) (D := D) (k := d + 1) (i := (mkp v D d).length) (by omega) (6 - (d + 1))
  rw [show d + 1 + (6 - (d + 1)) = 6 by omega] at h
  rw [h, e, fnth_r]
theorem mkp_off {v : LM} {D d : Nat} (hb : D.testBit d = false) : (mkp v D (d + 1)).length = (mkp v D d).length := by
  rw [mkp_succ, if_neg (by rw [hb]; decide)]
def FW (A : Nat → Nat → Int32) (I : Nat → Int32) (A1 : Nat → Nat → Int32) (I1 : Nat → Int32) (L : List (Nat → Nat)) : Prop := (∀ i, i < 7 → A1 i = A i) ∧ (∀ k, k ≠ 4 → I1 k = I k) ∧ I1 4 = nI L.length ∧ L.length ≤ 301 ∧ (∀ u, u ∈ L → PM u) ∧ ∀ k p, k < L.length → k < 300 → p < 12 → A1 9 (12 * k + p) = nI (fnth L k p)
section MW2
variable {S0 S S' : PS} {tg : Nat → Nat × Nat} {m : Nat} {bd : Nat → Nat} {A A1 A' : Nat → Nat → Int32} {I I1 I' : Nat → Int32} {v : LM} {hist : List LM} {sl : Nat → Option LM} {pad : List Nat} {L : List (Nat → Nat)} {w : Nat → Nat}
theorem wp_addW2 {P : PS → Prop} (h : MdS S0 S tg m bd A1 I1) (hf : FW A I A1 I1 L) (hL : L.length ≤ 300) (hn : ∀ p, p < 12 → A1 7 p = nI (w p)) (hw : PM w) (hP : ∀ S' A2 I2, MdS S0 S' tg m bd A2 I2 → FW A I A2 I2 (adw L w) → P S') : wp_X8_addWay S m P := by
  obtain ⟨f1, f2, f3, f4, f5, f6⟩ := hf
  refine wp_addW (w := w) h hL f3 (fun k p hk hp => f6 k p hk (by omega) hp) (fun k p hk hp => (f5 _ (fnth_mem hk)).1 p hp) hn hw.1 (fun S' F h' hF => hP S' _ _ h' ⟨fun i hi => ?_, fun k hk => ?_, va_up_self _ _ _, (adw_len L w).2 f4, adw_pm f5 hw, hF⟩)
  · rw [va_up_ne _ _ (by omega)]; exact f1 i hi
  · rw [va_up_ne _ _ hk]; exact f2 k hk
theorem wp_ways147 {P : Int32 → PS → Prop} (h : MdS S0 S tg m bd A1 I1) (h4 : I1 4 = nI L.length) (hL : L.length ≤ 301) (h0 : L.length ≤ 300 → P (nI L.length) S) (h1 : 300 < L.length → P (-6) S) : wpk_X8_ways_147 m P S := by
  unfold wpk_X8_ways_147
  refine gI_of h.ob (show (mdF bd I1)[14]? = some (.int (I1 4)) from rfl) ?_
  rw [h4, nI_leI (by omega) (by decide)]
  refine br_c (fun c => gI_of h.ob (show (mdF bd I1)[14]? = some (.int (I1 4)) from rfl) ?_) (fun c => h1 (by omega))
  rw [h4]
  exact h0 c
theorem md_ways_no {y : Int32} {P : Int32 → PS → Prop} (hb : bad y 64) (hP : P (-2) S) : wp_X8_ways S m y P := wp_isS (fun j hj e => absurd (e ▸ hb) (no_bad hj (by decide))) (fun _ => br_t rfl hP)
theorem md_ways {D : Nat} {P : Int32 → PS → Prop} (h : MdS S0 S tg m bd A I) (hr : RA A I v hist sl pad) (hv : okL v) (hD : D < 64) (hP : ∀ S' A' I', MdS S0 S' tg m bd A' I' → RA A' I' v hist sl pad → P (wyc (mkp v D 6)) S') : wp_X8_ways S m (nI D) P := by
  refine wp_isS (fun _ _ _ => br_f n1z (rc_of h.ob (wp_layAll h hr.1 hv (fun S1 F h1 c1 => ?_)))) (fun b => absurd b (no_bad hD (by decide)))
  refine pF_of h1.ob (Nat.le_of_ble_eq_true rfl) _ rfl ?_
  have h2 : MdS S0 (va_up S1 m (.inl (6, (mdF bd I).set 14 (.int (nI 0))))) tg m bd (va_up A 6 F) (va_up I 4 (nI 0)) := h1.setI rfl
  have hcm : ∀ d p, d < 6 → p < 12 → va_up A 6 F 6 (12 * d + p) = nI (wy v d p) := c1
  have hscr : ∀ S' A2 I2 L, MdS S0 S' tg m bd A2 I2 → FW (va_up A 6 F) I A2 I2 L → P (wyc (mkp v D 6)) S' := fun S' A2 I2 L h' f' => hP S' A2 I2 h' (hr.scr (fun i hi => (f'.1 i (by omega)).trans (va_up_ne _ _ (by omega))) (f'.2.1 0 (by decide)) (f'.2.1 1 (by decide)))
  generalize va_up A 6 F = A1 at *
  have eA : va_up A1 7 (A1 7) = A1 := funext fun j => (if z : j = 7 then by rw [z, va_up_self] else va_up_ne _ _ z)
  generalize hws : mkp v D 6 = ws at *
  refine wpL_for 12 (fun k S3 => ∃ G, MdS S0 S3 tg m bd (va_up A1 7 G) (va_up I 4 (nI 0)) ∧ ∀ p, p < k → G p = nI p) ⟨A1 7, by rw [eA]; exact h2, fun p hp => absurd hp (Nat.not_lt_zero _)⟩ ?_ ?_
  · rintro S3 ⟨G, h3, g3⟩ K
    show wpb_X8_ways_21 _ _ _ _ (nI 12) S3
    unfold wpb_X8_ways_21
    have fw0 : FW A1 I (va_up A1 7 G) (va_up I 4 (nI 0)) [] := ⟨fun i hi => va_up_ne _ _ (by omega), fun k hk => va_up_ne _ _ hk, va_up_self _ _ _, Nat.zero_le _, fun u c => absurd c List.not_mem_nil, fun k p hk => absurd hk (Nat.not_lt_zero _)⟩
    refine br_t (nle_re 12) (rc_of h3.ob (wp_addW2 (w := fun p => p) h3 fw0 (Nat.zero_le _) (fun p hp => g3 p hp) PM.id (fun S4 A4 I4 h4 fw4 => ?_)))
    have ea : adw [] (fun p => p) = [fun p => p] := by unfold adw; rw [if_pos ⟨Nat.zero_le _, rfl⟩]; rfl
    rw [ea] at fw4
    refine wpL_for 300 (fun k S5 => ∃ A2 I2 L, MdS S0 S5 tg m bd A2 I2 ∧ FW A1 I A2 I2 L ∧ (L.length ≤ 300 → bfw ws (300 - k) k L = wyc ws) ∧ (300 < L.length → wyc ws = -6)) ⟨A4, I4, _, h4, fw4, fun _ => rfl, fun c => absurd c (show ¬ 300 < 1 by decide)⟩ ?_ ?_
    · rintro S5 ⟨A2, I2, L, h5, fw5, b1, b2'⟩ K5
      show wpb_X8_ways_46 _ _ _ _ (nI 300) S5
      unfold wpb_X8_ways_46
      have hres := hscr S5 A2 I2 L h5 fw5
      have h4i := fw5.2.2.1
      have hlen := fw5.2.2.2.1
      have fin : wpk_X8_ways_147 m P S5 := wp_ways147 h5 h4i hlen (fun c => by
        have e : nI L.length = wyc ws := b1 c
        rw [e]; exact hres) (fun c => by rw [← b2' c]; exact hres)
      refine gI_of h5.ob (show (mdF bd I2)[14]? = some (.int (I2 4)) from rfl) (br_c (fun _ => fin) (fun c => gI_of h5.ob (show (mdF bd I2)[14]? = some (.int (I2 4)) from rfl) (br_c (fun _ => fin) (fun c2 => ?_))))
      rw [h4i, nI_leI (by omega) (by decide)] at c
      rw [h4i, nI_ltI (by decide) (by omega)] at c2
      omega
    · rintro k S5 hk ⟨A2, I2, L, h5, fw5, b1, b2'⟩ K5 hK5
      show wpb_X8_ways_46 _ _ _ _ (nI k) S5
      unfold wpb_X8_ways_46
      have hres := hscr S5 A2 I2 L h5 fw5
      have h4i := fw5.2.2.1
      have hlen := fw5.2.2.2.1
      have e300 : 300 - k = (300 - (k + 1)) + 1 := by omega
      rw [e300] at b1
      unfold bfw at b1
      refine gI_of h5.ob (show (mdF bd I2)[14]? = some (.int (I2 4)) from rfl) ?_
      rw [h4i, nI_leI (by omega) (by omega)]
      refine br_c (fun c => ?_) (fun c => gI_of h5.ob (show (mdF bd I2)[14]? = some (.int (I2 4)) from rfl) ?_)
      · have b1 := b1 (by omega)
        rw [if_neg (by omega)] at b1
        exact wp_ways147 h5 h4i hlen (fun _ => by rw [b1]; exact hres) (fun c => by rw [← b2' c]; exact hres)
      · rw [h4i, nI_ltI (by decide) (by omega)]
        refine br_c (fun c2 => wp_ways147 h5 h4i hlen (fun c3 => by omega) (fun c => by rw [← b2' c]; exact hres)) (fun c2 => ?_)
        have b1 := b1 (by omega)
        rw [if_pos (by omega)] at b1
        have hpu : PM (fnth L k) := fw5.2.2.2.2.1 _ (fnth_mem (by omega))
        have nxt : ∀ A3 I3 d S6, d ≤ 6 → MdS S0 S6 tg m bd A3 I3 → FW A1 I A3 I3 (rnd ws L (fnth L k) (mkp v D d).length) → (d = 6 ∨ 300 < (rnd ws L (fnth L k) (mkp v D d).length).length) → wpk_X8_ways_141 (nI k) K5 S6 := fun A3 I3 d S6 hd h6 fw6 hor => by
          unfold wpk_X8_ways_141
          intro i36 e36
          rw [e36, nI_add]
          have hle : (mkp v D d).length ≤ ws.length := by
            have := mkp_len v D d (6 - d)
            rw [show d + (6 - d) = 6 by omega, hws] at this
            exact this
          have hmono := rnd_mono ws L (fnth L k) (mkp v D d).length (ws.length - (mkp v D d).length)
          rw [show (mkp v D d).length + (ws.length - (mkp v D d).length) = ws.length by omega] at hmono
          refine hK5 _ ⟨A3, I3, _, h6, fw6, fun c => ?_, fun c => ?_⟩
          · have d6 : d = 6 := by omega
            rw [d6, hws] at c ⊢
            rw [if_pos c] at b1
            exact b1
          · rw [if_neg (by omega)] at b1
            exact b1.symm
        refine wpL_for 6 (fun d S6 => ∃ A3 I3, MdS S0 S6 tg m bd A3 I3 ∧ FW A1 I A3 I3 (rnd ws L (fnth L k) (mkp v D d).length)) ⟨A2, I2, h5, fw5⟩ ?_ ?_
        · rintro S6 ⟨A3, I3, h6, fw6⟩ K6
          show wpb_X8_ways_66 _ _ _ _ _ (nI 6) S6
          unfold wpb_X8_ways_66
          exact br_t (nle_re 6) (nxt A3 I3 6 S6 (Nat.le_refl _) h6 fw6 (Or.inl rfl))
        · rintro d S6 hd ⟨A3, I3, h6, fw6⟩ K6 hK6
          show wpb_X8_ways_66 _ _ _ _ _ (nI d) S6
          unfold wpb_X8_ways_66
          have h4j := fw6.2.2.1
          have hlen6 := fw6.2.2.2.1
          have hkl : k < (rnd ws L (fnth L k) (mkp v D d).length).length := Nat.lt_of_lt_of_le (show k < L.length by omega) (rnd_len ws L (fnth L k) _).1
          refine br_f (nle_ge hd (by decide)) (gI_of h6.ob (show (mdF bd I3)[14]? = some (.int (I3 4)) from rfl) ?_)
          rw [h4j, nI_ltI (by decide) (by omega)]
          refine br_c (fun c3 => nxt A3 I3 d S6 (by omega) h6 fw6 (Or.inr c3)) (fun c3 => ?_)
          rw [sr_bit (by omega) (by omega)]
          cases eb : D.testBit d with
          | false =>
            refine br_f n01 (fun i43 e43 => ?_)
            rw [e43, nI_add]
            refine hK6 _ ⟨A3, I3, h6, ?_⟩
            rw [mkp_off eb]; exact fw6
          | true =>
            obtain ⟨m1, m2⟩ := mkp_on (v := v) eb hd
            rw [hws] at m2
            have eA3 : va_up A3 7 (A3 7) = A3 := funext fun j => (if z : j = 7 then by rw [z, va_up_self] else va_up_ne _ _ z)
            refine br_t rfl ?_
            refine wpL_for 12 (fun p S7 => ∃ G, MdS S0 S7 tg m bd (va_up A3 7 G) I3 ∧ ∀ q, q < p → G q = nI (wy v d (fnth L k q))) ⟨A3 7, by rw [eA3]; exact h6, fun q hq => absurd hq (Nat.not_lt_zero _)⟩ ?_ ?_
            · rintro S7 ⟨G, h7, g7⟩ K7
              show wpb_X8_ways_94 _ _ _ _ _ (nI 12) S7
              unfold wpb_X8_ways_94
              have fw7 : FW A1 I (va_up A3 7 G) I3 (rnd ws L (fnth L k) (mkp v D d).length) := ⟨fun i hi => by rw [va_up_ne _ _ (by omega)]; exact fw6.1 i hi, fw6.2.1, h4j, hlen6, fw6.2.2.2.2.1, fun a p ha ha3 hp => by rw [va_up_ne _ _ (by decide)]; exact fw6.2.2.2.2.2 a p ha ha3 hp⟩
              refine br_t (nle_re 12) (rc_of h7.ob (wp_addW2 (w := fun q => wy v d (fnth L k q)) h7 fw7 (by omega) (fun p hp => g7 p hp) (PM.cmp hpu (pmWy v d)) (fun S8 A8 I8 h8 fw8 i50 e50 => ?_)))
              rw [e50, nI_add]
              refine hK6 _ ⟨A8, I8, h8, ?_⟩
              rw [m1]
              have er : rnd ws L (fnth L k) ((mkp v D d).length + 1) = adw (rnd ws L (fnth L k) (mkp v D d).length) (fun q => wy v d (fnth L k q)) := by
                show adw _ (fun p => fnth ws (mkp v D d).length (fnth L k p)) = _
                rw [m2]
              rw [er]; exact fw8
            · rintro p S7 hp ⟨G, h7, g7⟩ K7 hK7
              show wpb_X8_ways_94 _ _ _ _ _ (nI p) S7
              unfold wpb_X8_ways_94
              have hup := hpu.1 p hp
              refine br_f (nle_ge hp (by decide)) (gR_of h7.ob rfl (gR_of h7.ob rfl ?_))
              rw [pk_mul, nI_add]
              refine lI_of (h7.ar (i := 9) (by decide)) (show 12 * k + p < 3600 by omega) (by decide) ?_
              have e9 : va_up A3 7 G 9 (12 * k + p) = nI (fnth L k p) := by
                rw [va_up_ne _ _ (by decide), fw6.2.2.2.2.2 k p hkl hk hp, rnd_nth (show k < L.length by omega)]
              rw [e9]
              have e6 : va_up A3 7 G 6 (12 * d + fnth L k p) = nI (wy v d (fnth L k p)) := by
                rw [va_up_ne _ _ (by decide), fw6.1 6 (by decide)]
                exact hcm d _ hd hup
              refine rc_of h7.ob (wp_cb h7 hd hup e6 (sI_of (h7.ar (i := 7) (by decide)) (show p < 12 from hp) (by decide) (fun i68 e68 => ?_)))
              rw [e68, nI_add]
              have hs := h7.setA (i := 7) (F := upd G p (nI (wy v d (fnth L k p)))) (by decide)
              rw [va2] at hs
              refine hK7 _ ⟨_, hs, fun q hq => ?_⟩
              by_cases y : q = p
              · rw [y, pk_us]
              · rw [pk_un y]; exact g7 q (by omega)
  · rintro k S3 hk ⟨G, h3, g3⟩ K hK
    show wpb_X8_ways_21 _ _ _ _ (nI k) S3
    unfold wpb_X8_ways_21
    refine br_f (nle_ge hk (by decide)) (gR_of h3.ob rfl (sI_of (h3.ar (i := 7) (by decide)) (show k < 12 from hk) (by decide) (fun i79 e79 => ?_)))
    rw [e79, nI_add]
    have hs := h3.setA (i := 7) (F := upd G k (nI k)) (by decide)
    rw [va2] at hs
    refine hK _ ⟨_, hs, fun q hq => ?_⟩
    by_cases y : q = k
    · rw [y, pk_us]
    · rw [pk_un y]; exact g3 q (by omega)
end MW2
