/-! ===== the reference: its object, and what it keeps of the abstract state ===== -/
def szs (i : Nat) : Nat := [194, 1164, 388, 2, 40, 24, 72, 12, 12, 3600].getD i 0
def mdF (bd : Nat → Nat) (I : Nat → Int32) : List Value := [.ref (bd 0), .ref (bd 1), .int (I 0), .ref (bd 2), .ref (bd 3), .ref (bd 4), .int (I 1), .int (I 2), .ref (bd 5), .int (I 3), .ref (bd 6), .ref (bd 7), .ref (bd 8), .ref (bd 9), .int (I 4)]
def MdX (S : PS) (tg : Nat → Nat × Nat) (m : Nat) (bd : Nat → Nat) (A : Nat → Nat → Int32) (I : Nat → Int32) : Prop := tg m = (m, 40) ∧ (∀ i, i < 10 → tg (bd i) = (m, 41 + i)) ∧ S m = .inl (6, mdF bd I) ∧ ∀ i, i < 10 → S (bd i) = aI (szs i) (A i)
/-- nothing of the class's changes -/
def MF (S : PS) (tg : Nat → Nat × Nat) (S' : PS) : Prop := ∀ b, (tg b).2 < 40 → S' b = S b
theorem MF.rf {S : PS} {tg : Nat → Nat × Nat} : MF S tg S := fun _ _ => rfl
theorem MF.tr {S S1 S2 : PS} {tg : Nat → Nat × Nat} (h1 : MF S tg S1) (h2 : MF S1 tg S2) : MF S tg S2 := fun b hb => (h2 b hb).trans (h1 b hb)
def MdS (S0 S : PS) (tg : Nat → Nat × Nat) (m : Nat) (bd : Nat → Nat) (A : Nat → Nat → Int32) (I : Nat → Int32) : Prop := MdX S tg m bd A I ∧ MF S0 tg S
section MD
variable {S0 S S' : PS} {tg : Nat → Nat × Nat} {m : Nat} {bd : Nat → Nat} {A : Nat → Nat → Int32} {I : Nat → Int32}
theorem MdS.ob (h : MdS S0 S tg m bd A I) : S m = .inl (6, mdF bd I) := h.1.2.2.1
theorem MdS.ar (h : MdS S0 S tg m bd A I) {i : Nat} (hi : i < 10) : S (bd i) = aI (szs i) (A i) := h.1.2.2.2 i hi
theorem MdS.mne (h : MdS S0 S tg m bd A I) {i : Nat} (hi : i < 10) : m ≠ bd i := tne h.1.1 (h.1.2.1 i hi) (pne (by omega))
theorem MdS.setA {i : Nat} {F : Nat → Int32} (h : MdS S0 S tg m bd A I) (hi : i < 10) : MdS S0 (va_up S (bd i) (aI (szs i) F)) tg m bd (va_up A i F) I := by
  have hm := h.mne hi
  obtain ⟨⟨h1, h2, h3, h4⟩, h5⟩ := h
  refine ⟨⟨h1, h2, (up_n hm).trans h3, fun j hj => ?_⟩, fun b hb => ?_⟩
  · by_cases z : j = i
    · rw [z, up_s, va_up_self]
    · rw [va_up_ne _ _ z, up_n (tne (h2 j hj) (h2 i hi) (pne (by omega)))]
      exact h4 j hj
  · rw [up_n (fun z => by rw [z, h2 i hi] at hb; exact absurd hb (Nat.not_lt_of_le (by show 40 ≤ 41 + i; omega)))]
    exact h5 b hb
theorem MdS.setI {k : Nat} {x : Int32} {fs : List Value} (h : MdS S0 S tg m bd A I) (hf : fs = mdF bd (va_up I k x)) : MdS S0 (va_up S m (.inl (6, fs))) tg m bd A (va_up I k x) := by
  have hm := fun {i} => h.mne (i := i)
  obtain ⟨⟨h1, h2, h3, h4⟩, h5⟩ := h
  refine ⟨⟨h1, h2, by rw [up_s, hf], fun j hj => (up_n (Ne.symm (hm hj))).trans (h4 j hj)⟩, fun b hb => ?_⟩
  rw [up_n (fun z => by rw [z, h1] at hb; exact absurd hb (Nat.lt_irrefl 40))]
  exact h5 b hb
theorem MdS.rfl' (h : MdX S tg m bd A I) : MdS S S tg m bd A I := ⟨h, MF.rf⟩
end MD
/-- what the row of numbers tells of a loom -/
def stn (v : LM) (k : Nat) : Int32 := if k < 12 then nI (shF v k) else if k < 18 then nI (tiF v (k - 12)) else if k < 30 then nI (thF v (k - 18)) else if k < 42 then nI (coF v (k - 30)) else if k < 48 then nI (drF v (k - 42)).length else if k < 192 then nI ((drF v ((k - 48) / 24)).getD ((k - 48) % 24) 0) else if k < 193 then pdF v else pkF v
def RA (A : Nat → Nat → Int32) (I : Nat → Int32) (v : LM) (hist : List LM) (sl : Nat → Option LM) (pad : List Nat) : Prop := (∀ k, k < 194 → A 0 k = stn v k) ∧ (I 0 = nI hist.length ∧ hist.length ≤ 6) ∧ (∀ j, j < hist.length → ∀ k, k < 194 → A 1 (194 * j + k) = stn (hist.getD j v0) k) ∧ (∀ j, j < 2 → (sl j = none → A 3 j = nI 0) ∧ ∀ w, sl j = some w → A 3 j = nI 1 ∧ ∀ k, k < 194 → A 2 (194 * j + k) = stn w k) ∧ (I 1 = nI pad.length ∧ pad.length ≤ 40) ∧ ∀ k, k < pad.length → A 4 k = nI (pad.getD k 0)
section RD
variable {S0 S S' : PS} {tg : Nat → Nat × Nat} {m : Nat} {bd : Nat → Nat} {A A' : Nat → Nat → Int32} {I I' : Nat → Int32} {v : LM} {hist : List LM} {sl : Nat → Option LM} {pad : List Nat} {P : PS → Prop}
theorem RA.scr (h : RA A I v hist sl pad) (hA : ∀ i, i < 5 → A' i = A i) (h0 : I' 0 = I 0) (h1 : I' 1 = I 1) : RA A' I' v hist sl pad := by
  unfold RA at h ⊢
  rw [hA 0 (by decide), hA 1 (by decide), hA 2 (by decide), hA 3 (by decide), hA 4 (by decide), h0, h1]
  exact h
theorem stn_sh {k : Nat} (h : k < 12) : stn v (0 + k) = nI (shF v k) := by unfold stn; rw [Nat.zero_add, if_pos h]
theorem stn_ti {k : Nat} (h : k < 6) : stn v (12 + k) = nI (tiF v k) := by unfold stn; rw [if_neg (by omega), if_pos (by omega)]; congr 2; omega
theorem stn_th {k : Nat} (h : k < 12) : stn v (18 + k) = nI (thF v k) := by unfold stn; rw [if_neg (by omega), if_neg (by omega), if_pos (by omega)]; congr 2; omega
theorem stn_co {k : Nat} (h : k < 12) : stn v (30 + k) = nI (coF v k) := by unfold stn; rw [if_neg (by omega), if_neg (by omega), if_neg (by omega), if_pos (by omega)]; congr 2; omega
theorem stn_le {k : Nat} (h : k < 6) : stn v (42 + k) = nI (drF v k).length := by unfold stn; rw [if_neg (by omega), if_neg (by omega), if_neg (by omega), if_neg (by omega), if_pos (by omega)]; congr 3; omega
theorem stn_pr {d k : Nat} (h : d < 6) (hk : k < 24) : stn v (48 + 24 * d + k) = nI ((drF v d).getD k 0) := by
  unfold stn
  rw [if_neg (by omega), if_neg (by omega), if_neg (by omega), if_neg (by omega), if_neg (by omega), if_pos (by omega)]
  rw [show (48 + 24 * d + k - 48) / 24 = d by omega, show (48 + 24 * d + k - 48) % 24 = k by omega]
theorem stn_pd : stn v 192 = pdF v := by unfold stn; rw [if_neg (by decide), if_neg (by decide), if_neg (by decide), if_neg (by decide), if_neg (by decide), if_neg (by decide), if_pos (by decide)]
theorem stn_pk : stn v 193 = pkF v := by unfold stn; rw [if_neg (by decide), if_neg (by decide), if_neg (by decide), if_neg (by decide), if_neg (by decide), if_neg (by decide), if_neg (by decide)]
/-- a copy of 194 numbers goes to the end of the history -/
theorem wp_rec50 (h : MdS S0 S tg m bd A I) (hr : RA A I v hist sl pad) (hn : hist.length < 6) (hP : ∀ S' A' I', MdS S0 S' tg m bd A' I' → RA A' I' v (hist ++ [v]) sl pad → (∀ i, i ≠ 1 → A' i = A i) → (∀ k, k ≠ 0 → I' k = I k) → P S') : wpk_X8_record_50 m P S := by
  obtain ⟨r1, ⟨r2, r3⟩, r4, r5, r6, r7⟩ := hr
  unfold wpk_X8_record_50
  refine wpL_for 194 (fun k S1 => ∃ H, MdS S0 S1 tg m bd (va_up A 1 H) I ∧ (∀ q, q < 194 * hist.length → H q = A 1 q) ∧ ∀ q, q < k → H (194 * hist.length + q) = stn v q) ?_ ?_ ?_
  · refine ⟨A 1, ?_, fun _ _ => rfl, fun q hq => absurd hq (Nat.not_lt_zero _)⟩
    have e : va_up A 1 (A 1) = A := funext fun j => (if z : j = 1 then by rw [z, va_up_self] else va_up_ne _ _ z)
    rw [e]; exact h
  · intro S1 hS K
    obtain ⟨H, h1, h2, h3⟩ := hS
    show wpb_X8_record_52 _ _ _ (nI 194) S1
    unfold wpb_X8_record_52
    refine br_t (nle_re 194) (gI_of h1.ob rfl (pF_of h1.ob (Nat.le_of_ble_eq_true rfl) _ rfl ?_))
    refine hP _ (va_up A 1 H) (va_up I 0 (I 0 + nI 1)) (h1.setI rfl) ⟨r1, ⟨?_, by rw [List.length_append]; exact hn⟩, fun j hj k hk => ?_, r5, r6, r7⟩ (fun i hi => va_up_ne _ _ hi) (fun k hk => va_up_ne _ _ hk)
    · rw [va_up_self, r2, nI_add, List.length_append]; rfl
    · show H (194 * j + k) = _
      rw [List.length_append] at hj
      have hj : j < hist.length + 1 := hj
      by_cases z : j = hist.length
      · rw [z, h3 k hk]
        simp [List.getD]
      · rw [h2 _ (by omega), r4 j (by omega) k hk]
        have hjl : j < hist.length := by omega
        simp [List.getD, List.getElem?_append_left hjl]
  · intro k S1 hk hS K hK
    obtain ⟨H, h1, h2, h3⟩ := hS
    show wpb_X8_record_52 _ _ _ (nI k) S1
    unfold wpb_X8_record_52
    refine br_f (nle_ge hk (by decide)) (gR_of h1.ob rfl (gI_of h1.ob rfl (gR_of h1.ob rfl (lI_of (h1.ar (i := 0) (by decide)) (show k < 194 from hk) (by decide) ?_))))
    rw [r2, pk_mul, nI_add]
    refine sI_of (h1.ar (i := 1) (by decide)) (show hist.length * 194 + k < 1164 by omega) (by decide) (fun i31 e31 => ?_)
    rw [e31, nI_add]
    have e194 : hist.length * 194 = 194 * hist.length := Nat.mul_comm _ _
    refine hK _ ⟨upd H (194 * hist.length + k) (stn v k), ?_, fun q hq => ?_, fun q hq => ?_⟩
    · have := h1.setA (i := 1) (F := upd H (194 * hist.length + k) (stn v k)) (by decide)
      have e : va_up (va_up A 1 H) 1 (upd H (194 * hist.length + k) (stn v k)) = va_up A 1 (upd H (194 * hist.length + k) (stn v k)) := funext fun j => (if z : j = 1 then by rw [z, va_up_self, va_up_self] else by rw [va_up_ne _ _ z, va_up_ne _ _ z, va_up_ne _ _ z])
      rw [e] at this
      rw [e194]
      show MdS S0 (va_up S1 (bd 1) (aI (szs 1) (upd H (194 * hist.length + k) (A 0 k)))) tg m bd _ I
      rw [r1 k hk]
      exact this
    · rw [pk_un (by omega)]; exact h2 q hq
    · by_cases z : q = k
      · rw [z, pk_us]
      · rw [pk_un (by omega)]; exact h3 q (by omega)
theorem wp_recordX (h : MdS S0 S tg m bd A I) (hr : RA A I v hist sl pad) (hP : ∀ S' A' I', MdS S0 S' tg m bd A' I' → RA A' I' v (pushH hist v) sl pad → (∀ i, i ≠ 1 → A' i = A i) → (∀ k, k ≠ 0 → I' k = I k) → P S') : wp_X8_record S m P := by
  have hrr := hr
  obtain ⟨r1, ⟨r2, r3⟩, r4, r5, r6, r7⟩ := hr
  unfold wp_X8_record
  unfold pushH at hP
  refine gI_of h.ob rfl ?_
  rcases Nat.lt_or_ge hist.length 6 with z | z
  · rw [if_pos z] at hP
    refine br_f (fun c => ?_) (wp_rec50 h hrr z hP)
    rw [r2] at c
    have := (nI_eq (by omega) (by decide)).mp c
    omega
  · rw [if_neg (by omega)] at hP
    have e6 : hist.length = 6 := by omega
    refine br_t (by rw [r2, e6]) ?_
    refine wpL_for 970 (fun k S1 => ∃ H, MdS S0 S1 tg m bd (va_up A 1 H) I ∧ (∀ q, q < k → H q = A 1 (q + 194)) ∧ ∀ q, k ≤ q → H q = A 1 q) ?_ ?_ ?_
    · refine ⟨A 1, ?_, fun q hq => absurd hq (Nat.not_lt_zero _), fun _ _ => rfl⟩
      have e : va_up A 1 (A 1) = A := funext fun j => (if z : j = 1 then by rw [z, va_up_self] else va_up_ne _ _ z)
      rw [e]; exact h
    · intro S1 hS K
      obtain ⟨H, h1, h2, h3⟩ := hS
      show wpb_X8_record_11 _ _ _ (nI 970) S1
      unfold wpb_X8_record_11
      refine br_t (nle_re 970) (gI_of h1.ob rfl (pF_of h1.ob (Nat.le_of_ble_eq_true rfl) _ rfl ?_))
      refine wp_rec50 (hist := hist.tail) (h1.setI (k := 0) (x := I 0 - nI 1) rfl) ⟨r1, ⟨?_, by rw [List.length_tail]; omega⟩, fun j hj k hk => ?_, r5, r6, r7⟩ (by rw [List.length_tail]; omega) (fun S' A' I' m1 m2 e1 e2 => hP S' A' I' m1 m2 (fun i hi => (e1 i hi).trans (va_up_ne _ _ hi)) (fun k hk => (e2 k hk).trans (va_up_ne _ _ hk)))
      · rw [va_up_self, r2, List.length_tail, pk_sub (by omega)]
      · rw [List.length_tail] at hj
        show H (194 * j + k) = _
        rw [h2 _ (by omega), show 194 * j + k + 194 = 194 * (j + 1) + k by omega, r4 (j + 1) (by omega) k hk]
        have e : hist.tail.getD j v0 = hist.getD (j + 1) v0 := by
          simp [List.getD, List.getElem?_tail]
        rw [e]
    · intro k S1 hk hS K hK
      obtain ⟨H, h1, h2, h3⟩ := hS
      show wpb_X8_record_11 _ _ _ (nI k) S1
      unfold wpb_X8_record_11
      refine br_f (nle_ge hk (by decide)) (gR_of h1.ob rfl (gR_of h1.ob rfl ?_))
      rw [nI_add]
      refine lI_of (h1.ar (i := 1) (by decide)) (show k + 194 < 1164 by omega) (by decide) (sI_of (h1.ar (i := 1) (by decide)) (show k < 1164 by omega) (by decide) (fun i57 e57 => ?_))
      rw [e57, nI_add]
      refine hK _ ⟨upd H k (H (k + 194)), ?_, fun q hq => ?_, fun q hq => ?_⟩
      · have := h1.setA (i := 1) (F := upd H k (H (k + 194))) (by decide)
        have e : va_up (va_up A 1 H) 1 (upd H k (H (k + 194))) = va_up A 1 (upd H k (H (k + 194))) := funext fun j => (if z : j = 1 then by rw [z, va_up_self, va_up_self] else by rw [va_up_ne _ _ z, va_up_ne _ _ z, va_up_ne _ _ z])
        rw [e] at this
        exact this
      · by_cases z : q = k
        · rw [z, pk_us, h3 _ (by omega)]
        · rw [pk_un (by omega)]; exact h2 q (by omega)
      · rw [pk_un (by omega)]; exact h3 q (by omega)
theorem wp_record (h : MdS S0 S tg m bd A I) (hr : RA A I v hist sl pad) (hP : ∀ S' A' I', MdS S0 S' tg m bd A' I' → RA A' I' v (pushH hist v) sl pad → P S') : wp_X8_record S m P := wp_recordX h hr (fun S' A' I' h1 h2 _ _ => hP S' A' I' h1 h2)
end RD
