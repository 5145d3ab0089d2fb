/-! ===== the reference: ways ===== -/
theorem inL_ix {L : List (Nat → Nat)} {w : Nat → Nat} : inL L w = true ↔ ∃ j, j < L.length ∧ ∀ p, p < 12 → fnth L j p = w p := by
  rw [inL_iff]
  constructor
  · rintro ⟨u, h1, h2⟩
    obtain ⟨j, hj, e⟩ := mem_fnth h1
    exact ⟨j, hj, fun p hp => by rw [e]; exact h2 p hp⟩
  · rintro ⟨j, hj, h2⟩
    exact ⟨_, fnth_mem hj, h2⟩
section MWY
variable {S0 S S' : PS} {tg : Nat → Nat × Nat} {m : Nat} {bd : Nat → Nat} {A A' : Nat → Nat → Int32} {I I' : Nat → Int32} {v : LM} {hist : List LM} {sl : Nat → Option LM} {pad : List Nat} {P : PS → Prop} {L : List (Nat → Nat)} {w : Nat → Nat}
theorem wp_addW130 {b : Bool} {n : Nat} (h : MdS S0 S tg m bd A I) (hI : I 4 = nI n) (hP : ∀ S', MdS S0 S' tg m bd A (va_up I 4 (nI (n + b2 b))) → P S') : wpk_X8_addWay_130 m (nI (b2 b)) P S := by
  unfold wpk_X8_addWay_130
  refine gI_of h.ob (show (mdF bd I)[14]? = some (.int (I 4)) from rfl) ?_
  rw [hI]
  cases b with
  | false => exact br_t rfl (pF_of h.ob (Nat.le_of_ble_eq_true rfl) _ rfl (hP _ (by rw [nI_add]; exact h.setI rfl)))
  | true => exact br_f n1z (pF_of h.ob (Nat.le_of_ble_eq_true rfl) _ rfl (hP _ (by rw [nI_add]; exact h.setI rfl)))
theorem wp_addW (h : MdS S0 S tg m bd A I) (hL : L.length ≤ 300) (hI : I 4 = nI L.length) (hF : ∀ k p, k < L.length → p < 12 → A 9 (12 * k + p) = nI (fnth L k p)) (hlt : ∀ k p, k < L.length → p < 12 → fnth L k p < 12) (hn : ∀ p, p < 12 → A 7 p = nI (w p)) (hw : ∀ p, p < 12 → w p < 12) (hP : ∀ S' F, MdS S0 S' tg m bd (va_up A 9 F) (va_up I 4 (nI (adw L w).length)) → (∀ k p, k < (adw L w).length → k < 300 → p < 12 → F (12 * k + p) = nI (fnth (adw L w) k p)) → P S') : wp_X8_addWay S m P := by
  unfold wp_X8_addWay
  have eA : va_up A 9 (A 9) = A := funext fun j => (if z : j = 9 then by rw [z, va_up_self] else va_up_ne _ _ z)
  refine wpL_for L.length (fun k x => ∃ b : Bool, x = nI (b2 b) ∧ (b = true ↔ ∀ j, j < k → ¬ ∀ p, p < 12 → fnth L j p = w p)) ⟨true, rfl, fun _ j hj => absurd hj (Nat.not_lt_zero _), fun _ => rfl⟩ ?_ ?_
  · rintro x ⟨b, ex, hb⟩ K
    show wpb_X8_addWay_4 _ _ _ _ (nI L.length) x
    unfold wpb_X8_addWay_4
    refine gI_of h.ob (show (mdF bd I)[14]? = some (.int (I 4)) from rfl) ?_
    rw [hI, ex]
    refine br_t (Int32.le_refl _) ?_
    cases b with
    | false =>
      have hin : inL L w = true := by
        refine inL_ix.mpr (Classical.byContradiction fun c => ?_)
        have := hb.mpr (fun j hj q => c ⟨j, hj, q⟩)
        cases this
      have e : adw L w = L := by unfold adw; rw [if_neg (fun d => by rw [hin] at d; cases d.2)]
      rw [e] at hP
      refine br_t rfl (wp_addW130 (b := false) h hI (fun S' h' => hP S' (A 9) ?_ (fun k p hk _ hp => hF k p hk hp)))
      rw [eA]; exact h'
    | true =>
      have hin : inL L w = false := by
        cases g : inL L w with
        | false => rfl
        | true =>
          obtain ⟨j, hj, q⟩ := inL_ix.mp g
          exact absurd q (hb.mp rfl j hj)
      have e : adw L w = L ++ [w] := by unfold adw; rw [if_pos ⟨hL, hin⟩]
      have el : (adw L w).length = L.length + 1 := by rw [e, List.length_append]; rfl
      have nth1 : ∀ k, k < L.length → fnth (adw L w) k = fnth L k := fun k hk => adw_nth hk
      have nth2 : fnth (adw L w) L.length = w := by rw [e, fnth_r]
      rw [el] at hP
      refine br_f n1z (gI_of h.ob (show (mdF bd I)[14]? = some (.int (I 4)) from rfl) ?_)
      rw [hI]
      rcases Nat.lt_or_ge L.length 300 with z | z
      · refine br_f (nI_ge z (by decide)) ?_
        refine wpL_for 12 (fun k S1 => ∃ F, MdS S0 S1 tg m bd (va_up A 9 F) I ∧ (∀ q, q < 12 * L.length → F q = A 9 q) ∧ ∀ p, p < k → F (12 * L.length + p) = nI (w p)) ⟨A 9, by rw [eA]; exact h, fun _ _ => rfl, fun p hp => absurd hp (Nat.not_lt_zero _)⟩ ?_ ?_
        · rintro S1 ⟨F, h1, f1, f2⟩ K2
          show wpb_X8_addWay_98 _ _ _ _ (nI 12) S1
          unfold wpb_X8_addWay_98
          refine br_t (nle_re 12) (wp_addW130 (b := true) h1 hI (fun S' h' => hP S' F h' (fun k p hk _ hp => ?_)))
          by_cases y : k = L.length
          · rw [y, nth2]; exact f2 p hp
          · rw [nth1 k (by omega), f1 _ (by omega)]
            exact hF k p (by omega) hp
        · rintro k S1 hk ⟨F, h1, f1, f2⟩ K2 hK2
          show wpb_X8_addWay_98 _ _ _ _ (nI k) S1
          unfold wpb_X8_addWay_98
          refine br_f (nle_ge hk (by decide)) (gR_of h1.ob rfl (gI_of h1.ob (show (mdF bd I)[14]? = some (.int (I 4)) from rfl) (gR_of h1.ob rfl (lI_of (h1.ar (i := 7) (by decide)) (show k < 12 from hk) (by decide) ?_))))
          have e7 : va_up A 9 F 7 k = nI (w k) := hn k hk
          rw [e7, hI, pk_mul, nI_add]
          refine sI_of (h1.ar (i := 9) (by decide)) (show 12 * L.length + k < 3600 by omega) (by decide) (fun i43 e43 => ?_)
          rw [e43, nI_add]
          have hs := h1.setA (i := 9) (F := upd F (12 * L.length + k) (nI (w k))) (by decide)
          rw [va2] at hs
          refine hK2 _ ⟨_, hs, fun q hq => ?_, fun p hp => ?_⟩
          · rw [pk_un (by omega)]; exact f1 q hq
          · by_cases y : p = k
            · rw [y, pk_us]
            · rw [pk_un (by omega)]; exact f2 p (by omega)
      · refine br_t (nI_le z (by omega)) (wp_addW130 (b := true) h hI (fun S' h' => hP S' (A 9) (by rw [eA]; exact h') (fun k p hk hk3 hp => ?_)))
        rw [nth1 k (by omega)]
        exact hF k p (by omega) hp
  · rintro k x hk ⟨b, ex, hb⟩ K hK
    show wpb_X8_addWay_4 _ _ _ _ (nI k) x
    unfold wpb_X8_addWay_4
    refine gI_of h.ob (show (mdF bd I)[14]? = some (.int (I 4)) from rfl) ?_
    rw [hI, ex]
    refine br_f (nI_ge hk (by omega)) ?_
    have nxt : ∀ {b' : Bool}, (b' = true ↔ b = true ∧ ¬ ∀ p, p < 12 → fnth L k p = w p) → ∀ i : Int32, i = nI k + nI 1 → K (i, nI (b2 b')) := fun hb' i ei => by
      rw [ei, nI_add]
      refine hK _ ⟨_, rfl, hb'.trans ⟨fun c j hj => ?_, fun c => ⟨hb.mpr fun j hj => c j (by omega), c k (by omega)⟩⟩⟩
      by_cases z : j = k
      · rw [z]; exact c.2
      · exact hb.mp c.1 j (by omega)
    refine wpL_for 12 (fun q y => ∃ c : Bool, y = nI (b2 c) ∧ (c = true ↔ ∀ p, p < q → fnth L k p = w p)) ⟨true, rfl, fun _ p hp => absurd hp (Nat.not_lt_zero _), fun _ => rfl⟩ ?_ ?_
    · rintro y ⟨c, ey, hc⟩ K2
      show wpb_X8_addWay_17 _ _ _ _ _ _ (nI 12) y
      unfold wpb_X8_addWay_17
      rw [ey]
      refine br_t (nle_re 12) ?_
      cases b with
      | false => exact br_t rfl (nxt (b' := false) ⟨fun z => (by cases z), fun z => z.1⟩)
      | true =>
        cases c with
        | false => exact br_f n1z (br_t rfl (nxt (b' := true) ⟨fun _ => ⟨rfl, fun q => by have := hc.mpr q; cases this⟩, fun _ => rfl⟩))
        | true => exact br_f n1z (br_f n1z (nxt (b' := false) ⟨fun z => (by cases z), fun z => absurd (hc.mp rfl) z.2⟩))
    · rintro q y hq ⟨c, ey, hc⟩ K2 hK2
      show wpb_X8_addWay_17 _ _ _ _ _ _ (nI q) y
      unfold wpb_X8_addWay_17
      rw [ey]
      refine br_f (nle_ge hq (by decide)) ?_
      have nx2 : ∀ {c' : Bool}, (c' = true ↔ c = true ∧ fnth L k q = w q) → ∀ i : Int32, i = nI q + nI 1 → K2 (i, nI (b2 c')) := fun hc' i ei => by
        rw [ei, nI_add]
        refine hK2 _ ⟨_, rfl, hc'.trans ⟨fun z p hp => ?_, fun z => ⟨hc.mpr fun p hp => z p (by omega), z q (by omega)⟩⟩⟩
        by_cases y : p = q
        · rw [y]; exact z.2
        · exact hc.mp z.1 p (by omega)
      cases c with
      | false => exact br_t rfl (nx2 (c' := false) ⟨fun z => (by cases z), fun z => z.1⟩)
      | true =>
        refine br_f n1z (gR_of h.ob rfl ?_)
        rw [pk_mul, nI_add]
        refine lI_of (h.ar (i := 9) (by decide)) (show 12 * k + q < 3600 by omega) (by decide) (gR_of h.ob rfl (lI_of (h.ar (i := 7) (by decide)) (show q < 12 from hq) (by decide) ?_))
        rw [hF k q hk hq, hn q hq]
        have g1 := hlt k q hk hq
        have g2 := hw q hq
        refine br_c (fun z => ?_) (fun z => ?_)
        · have z := (nI_eq (by omega) (by omega)).mp z
          exact nx2 (c' := true) ⟨fun _ => ⟨rfl, z⟩, fun _ => rfl⟩
        · exact nx2 (c' := false) ⟨fun y => (by cases y), fun y => absurd (congrArg nI y.2) z⟩
end MWY
