/-! ===== the reference: drafts made anew ===== -/
section ME
variable {S0 S S' : PS} {tg : Nat → Nat × Nat} {m : Nat} {bd : Nat → Nat} {A A' : Nat → Nat → Int32} {I I' : Nat → Int32} {v : LM} {hist : List LM} {sl : Nat → Option LM} {pad : List Nat} {P : Int32 → PS → Prop} {Q : Int32 → Prop} {R : PS → Prop} {l : List Nat}
/-- the row that was laid aside -/
def RowM (A : Nat → Nat → Int32) (I : Nat → Int32) (l : List Nat) : Prop := I 3 = nI l.length ∧ l.length ≤ 24 ∧ ∀ k, k < l.length → A 5 k = nI (l.getD k 0)
theorem stn_setDr {d k : Nat} {F : Nat → Int32} (hd : d < 6) (hF : ∀ q, q < 194 → F q = if q = 42 + d then nI l.length else if 48 + 24 * d ≤ q ∧ q < 48 + 24 * d + 24 then nI (l.getD (q - (48 + 24 * d)) 0) else stn v q) (hk : k < 194) : F k = stn (setDr v d l) k := by
  rw [hF k hk]
  unfold stn
  by_cases q : k < 12
  · rw [if_neg (show ¬ k = 42 + d by omega), if_neg (show ¬ (48 + 24 * d ≤ k ∧ k < 48 + 24 * d + 24) by omega), if_pos q, if_pos q]; rfl
  · rw [if_neg q, if_neg q]
    by_cases q2 : k < 18
    · rw [if_neg (show ¬ k = 42 + d by omega), if_neg (show ¬ (48 + 24 * d ≤ k ∧ k < 48 + 24 * d + 24) by omega), if_pos q2, if_pos q2]; rfl
    · rw [if_neg q2, if_neg q2]
      by_cases q3 : k < 30
      · rw [if_neg (show ¬ k = 42 + d by omega), if_neg (show ¬ (48 + 24 * d ≤ k ∧ k < 48 + 24 * d + 24) by omega), if_pos q3, if_pos q3]; rfl
      · rw [if_neg q3, if_neg q3]
        by_cases q4 : k < 42
        · rw [if_neg (show ¬ k = 42 + d by omega), if_neg (show ¬ (48 + 24 * d ≤ k ∧ k < 48 + 24 * d + 24) by omega), if_pos q4, if_pos q4]; rfl
        · rw [if_neg q4, if_neg q4]
          by_cases q5 : k < 48
          · rw [if_neg (show ¬ (48 + 24 * d ≤ k ∧ k < 48 + 24 * d + 24) by omega), if_pos q5, if_pos q5]
            show _ = nI (if k - 42 = d then l else drF v (k - 42)).length
            by_cases z : k = 42 + d
            · rw [if_pos z, if_pos (by omega)]
            · rw [if_neg z, if_neg (by omega)]
          · rw [if_neg q5, if_neg q5, if_neg (show ¬ k = 42 + d by omega)]
            by_cases q6 : k < 192
            · rw [if_pos q6, if_pos q6]
              show _ = nI ((if (k - 48) / 24 = d then l else drF v ((k - 48) / 24)).getD ((k - 48) % 24) 0)
              by_cases z : 48 + 24 * d ≤ k ∧ k < 48 + 24 * d + 24
              · rw [if_pos z, if_pos (by omega), show k - (48 + 24 * d) = (k - 48) % 24 by omega]
              · rw [if_neg z, if_neg (by omega)]
            · rw [if_neg q6, if_neg q6, if_neg (show ¬ (48 + 24 * d ≤ k ∧ k < 48 + 24 * d + 24) by omega)]; rfl
theorem getD_out {k : Nat} (h : l.length ≤ k) : l.getD k 0 = 0 := by simp [List.getD, List.getElem?_eq_none h]
theorem wp_make {d : Nat} (h : MdS S0 S tg m bd A I) (hr : RA A I v hist sl pad) (hd : d < 6) (hl : RowM A I l) (hP : ∀ S' A' I', MdS S0 S' tg m bd A' I' → RA A' I' (setDr v d l) (pushH hist v) sl pad → P (nI l.length) S') : wp_X8_make S m (nI d) P := by
  unfold wp_X8_make
  refine rc_of h.ob (wp_recordX h hr (fun S1 A1 I1 h1 hr1 eA eI => ?_))
  obtain ⟨l1, l2, l3⟩ := hl
  have i3 : I1 3 = nI l.length := (eI 3 (by decide)).trans l1
  have a5 : ∀ k, k < l.length → A1 5 k = nI (l.getD k 0) := fun k hk => by rw [eA 5 (by decide)]; exact l3 k hk
  refine gR_of h1.ob rfl (gI_of h1.ob rfl ?_)
  rw [nI_add]
  show sI S1 (bd 0) (nI (42 + d)) (I1 3) _
  rw [i3]
  refine md_set h1 (show 42 + d < 194 by omega) (fun S2 h2 => ?_)
  refine wpL_for 24 (fun k S3 => ∃ F, MdS S0 S3 tg m bd (va_up A1 0 F) I1 ∧ ∀ q, q < 194 → F q = if q = 42 + d then nI l.length else if 48 + 24 * d ≤ q ∧ q < 48 + 24 * d + k then nI (l.getD (q - (48 + 24 * d)) 0) else stn v q) ⟨_, h2, fun q hq => ?_⟩ ?_ ?_
  · by_cases z : q = 42 + d
    · rw [z, pk_us, if_pos rfl]
    · rw [pk_un z, if_neg z, if_neg (by omega)]; exact hr1.1 q hq
  · intro S3 hS K
    obtain ⟨F, h3, c3⟩ := hS
    show wpb_X8_make_19 _ _ _ _ (nI 24) S3
    unfold wpb_X8_make_19
    refine br_t (nle_re 24) (gI_of h3.ob rfl ?_)
    show P (I1 3) S3
    rw [i3]
    exact hP _ _ _ h3 (hr1.set fun k hk => stn_setDr hd c3 hk)
  · intro k S3 hk hS K hK
    obtain ⟨F, h3, c3⟩ := hS
    show wpb_X8_make_19 _ _ _ _ (nI k) S3
    unfold wpb_X8_make_19
    have fin : ∀ {x : Int32} {S4 : PS}, x = nI (l.getD k 0) → MdS S0 S4 tg m bd (va_up A1 0 (upd F (48 + 24 * d + k) x)) I1 → K (nI (k + 1), S4) := fun ex h4 => by
      refine hK _ ⟨_, h4, fun q hq => ?_⟩
      by_cases z : q = 48 + 24 * d + k
      · rw [z, pk_us, if_neg (by omega), if_pos (by omega), ex, show 48 + 24 * d + k - (48 + 24 * d) = k by omega]
      · rw [pk_un z, c3 q hq]
        by_cases z2 : q = 42 + d
        · rw [if_pos z2, if_pos z2]
        · rw [if_neg z2, if_neg z2]
          by_cases z3 : 48 + 24 * d ≤ q ∧ q < 48 + 24 * d + k
          · rw [if_pos z3, if_pos (by omega)]
          · rw [if_neg z3, if_neg (by omega)]
    refine br_f (nle_ge hk (by decide)) (gR_of h3.ob rfl (gI_of h3.ob rfl ?_))
    show (I1 3 ≤ nI k → _) ∧ (¬ I1 3 ≤ nI k → _)
    rw [i3, pk_mul, nI_add, nI_add]
    rcases Nat.lt_or_ge k l.length with z | z
    · refine br_f (nI_ge z (by omega)) (gR_of h3.ob rfl (lI_of (h3.ar (i := 5) (by decide)) (show k < 24 from hk) (by decide) (md_set h3 (show 48 + 24 * d + k < 194 by omega) (fun S4 h4 i43 e43 => ?_))))
      rw [va2] at h4
      rw [e43, nI_add]
      exact fin (a5 k z) h4
    · refine br_t (nI_le z (by omega)) (md_set h3 (show 48 + 24 * d + k < 194 by omega) (fun S4 h4 i31 e31 => ?_))
      rw [va2] at h4
      rw [e31, nI_add]
      exact fin (by rw [getD_out z]) h4
theorem RowM.add {x : Nat} (h : MdS S0 S tg m bd A I) (hl : RowM A I l) (hn : l.length < 24) (hR : ∀ S' A' I', MdS S0 S' tg m bd A' I' → RowM A' I' (l ++ [x]) → (∀ i, i ≠ 5 → A' i = A i) → (∀ k, k ≠ 3 → I' k = I k) → R S') : gI S m 6 9 (fun i42 => sI S (bd 5) i42 (nI x) (fun S47 => gI S47 m 6 9 (fun i49 => pF S47 m 6 9 (.int (i49 + nI 1)) (fun S53 => R S53)))) := by
  obtain ⟨l1, l2, l3⟩ := hl
  refine gI_of h.ob rfl ?_
  show sI S (bd 5) (I 3) _ _
  rw [l1]
  refine sI_of (h.ar (i := 5) (by decide)) (show l.length < 24 from hn) (by decide) ?_
  have h1 := h.setA (i := 5) (F := upd (A 5) l.length (nI x)) (by decide)
  refine gI_of h1.ob rfl (pF_of h1.ob (Nat.le_of_ble_eq_true rfl) _ rfl ?_)
  refine hR _ _ (va_up I 3 (I 3 + nI 1)) (h1.setI rfl) ⟨?_, ?_, fun k hk => ?_⟩ (fun i hi => va_up_ne _ _ hi) (fun k hk => va_up_ne _ _ hk)
  · rw [va_up_self, l1, nI_add, List.length_append]; rfl
  · rw [List.length_append]; exact hn
  · rw [List.length_append] at hk
    have hk : k < l.length + 1 := hk
    show upd (A 5) l.length (nI x) k = _
    by_cases z : k = l.length
    · rw [z, pk_us, getD_app_r]
    · rw [pk_un z, l3 k (by omega), getD_app_l (by omega)]
theorem wp_addRow {d : Nat} (h : MdS S0 S tg m bd A I) (hA : ∀ k, k < 194 → A 0 k = stn v k) (hd : d < 6) (hl : RowM A I l) (hn : l.length + (drF v d).length ≤ 24) (hR : ∀ S' A' I', MdS S0 S' tg m bd A' I' → RowM A' I' (l ++ drF v d) → (∀ i, i ≠ 5 → A' i = A i) → (∀ k, k ≠ 3 → I' k = I k) → R S') : wp_X8_addRow S m (nI d) R := by
  unfold wp_X8_addRow
  refine wpL_for (drF v d).length (fun k S1 => ∃ A1 I1, MdS S0 S1 tg m bd A1 I1 ∧ RowM A1 I1 (l ++ (drF v d).take k) ∧ (∀ i, i ≠ 5 → A1 i = A i) ∧ ∀ k, k ≠ 3 → I1 k = I k) ⟨A, I, h, by rw [List.take_zero, List.append_nil]; exact hl, fun _ _ => rfl, fun _ _ => rfl⟩ ?_ ?_
  · intro S1 hS K
    obtain ⟨A1, I1, h1, l1, e1, e2⟩ := hS
    show wpb_X8_addRow_2 _ _ _ _ (nI (drF v d).length) S1
    unfold wpb_X8_addRow_2
    have hA1 : ∀ k, k < 194 → A1 0 k = stn v k := fun k hk => by rw [e1 0 (by decide)]; exact hA k hk
    rw [List.take_length] at l1
    exact rc_of h1.ob (wp_len h1 hA1 hd (br_t (Int32.le_refl _) (hR S1 A1 I1 h1 l1 e1 e2)))
  · intro k S1 hk hS K hK
    obtain ⟨A1, I1, h1, l1, e1, e2⟩ := hS
    show wpb_X8_addRow_2 _ _ _ _ (nI k) S1
    unfold wpb_X8_addRow_2
    have hA1 : ∀ k, k < 194 → A1 0 k = stn v k := fun k hk => by rw [e1 0 (by decide)]; exact hA k hk
    refine rc_of h1.ob (wp_len h1 hA1 hd (br_f (nI_ge hk (by omega)) (gR_of h1.ob rfl ?_)))
    have hlen : (l ++ (drF v d).take k).length = l.length + k := by rw [List.length_append, List.length_take]; omega
    have key := RowM.add (x := (drF v d).getD k 0) (R := fun S53 => ∀ i26 : Int32, i26 = nI k + nI 1 → K (i26, S53)) h1 l1 (by omega) (fun S2 A2 I2 h2 l2 f1 f2 i26 e26 => by
      rw [e26, nI_add]
      refine hK _ ⟨A2, I2, h2, ?_, fun i hi => (f1 i hi).trans (e1 i hi), fun k hk => (f2 k hk).trans (e2 k hk)⟩
      rw [take_snoc hk, ← List.append_assoc]; exact l2)
    obtain ⟨fs, x, g1, g2, g3⟩ := key
    exact ⟨fs, x, g1, g2, rc_of h1.ob (wp_prO h1 hA1 hd (by omega) g3)⟩
end ME
