/-! ===== the search: ways ===== -/
def inL (L : List (Nat → Nat)) (w : Nat → Nat) : Bool := L.any (fun u => eqW u w)
def adw (L : List (Nat → Nat)) (w : Nat → Nat) : List (Nat → Nat) := if L.length ≤ 300 ∧ inL L w = false then L ++ [w] else L
def rnd (ws L : List (Nat → Nat)) (u : Nat → Nat) : Nat → List (Nat → Nat)
  | 0 => L
  | k + 1 => adw (rnd ws L u k) (fun p => fnth ws k (u p))
def bfw (ws : List (Nat → Nat)) : Nat → Nat → List (Nat → Nat) → Int32
  | 0, _, L => nI L.length
  | n + 1, k, L => if k < L.length then (if (rnd ws L (fnth L k) ws.length).length ≤ 300 then bfw ws n (k + 1) (rnd ws L (fnth L k) ws.length) else -6) else nI L.length
def wyc (ws : List (Nat → Nat)) : Int32 := bfw ws 300 0 [fun p => p]
theorem inL_iff {L : List (Nat → Nat)} {w : Nat → Nat} : inL L w = true ↔ ∃ u, u ∈ L ∧ ∀ p, p < 12 → u p = w p := by
  unfold inL
  rw [List.any_eq_true]
  exact ⟨fun ⟨u, h1, h2⟩ => ⟨u, h1, eqW_iff.mp h2⟩, fun ⟨u, h1, h2⟩ => ⟨u, h1, eqW_iff.mpr h2⟩⟩
theorem adw_len (L : List (Nat → Nat)) (w : Nat → Nat) : L.length ≤ (adw L w).length ∧ (L.length ≤ 301 → (adw L w).length ≤ 301) := by
  unfold adw
  split
  · rename_i h
    rw [List.length_append]
    show L.length ≤ L.length + 1 ∧ (L.length ≤ 301 → L.length + 1 ≤ 301)
    omega
  · exact ⟨Nat.le_refl _, id⟩
theorem adw_nth {L : List (Nat → Nat)} {w : Nat → Nat} {k : Nat} (hk : k < L.length) : fnth (adw L w) k = fnth L k := by
  unfold adw
  split
  · exact fnth_l hk
  · rfl
theorem rnd_len (ws L : List (Nat → Nat)) (u : Nat → Nat) : ∀ k, L.length ≤ (rnd ws L u k).length ∧ (L.length ≤ 301 → (rnd ws L u k).length ≤ 301)
  | 0 => ⟨Nat.le_refl _, id⟩
  | k + 1 => by
    have h1 := rnd_len ws L u k
    have h2 := adw_len (rnd ws L u k) (fun p => fnth ws k (u p))
    exact ⟨Nat.le_trans h1.1 h2.1, fun h => h2.2 (h1.2 h)⟩
theorem rnd_nth {ws L : List (Nat → Nat)} {u : Nat → Nat} {i : Nat} (hi : i < L.length) : ∀ k, fnth (rnd ws L u k) i = fnth L i
  | 0 => rfl
  | k + 1 => by
    have h1 := (rnd_len ws L u k).1
    show fnth (adw (rnd ws L u k) _) i = _
    rw [adw_nth (by omega), rnd_nth hi k]
theorem rnd_mono (ws L : List (Nat → Nat)) (u : Nat → Nat) (j : Nat) : ∀ k, (rnd ws L u j).length ≤ (rnd ws L u (j + k)).length
  | 0 => Nat.le_refl _
  | k + 1 => Nat.le_trans (rnd_mono ws L u j k) (adw_len _ _).1
def hsh (x : Int64) : Nat := (x * (-7046029254386353131 : Int64)).toBitVec.toNat / 2 ^ 54
theorem hsh_lt (x : Int64) : hsh x < 1024 := by
  unfold hsh
  have := (x * (-7046029254386353131 : Int64)).toBitVec.isLt
  rw [Nat.div_lt_iff_lt_mul (by decide)]
  exact Nat.lt_of_lt_of_le this (by decide)
theorem hsh_of (x : Int64) : (uShrL (x * (-7046029254386353131 : Int64)) (nI 54)).toInt32 = nI (hsh x) := by
  obtain ⟨n, hn, e⟩ := wb_of (x * (-7046029254386353131 : Int64))
  have e2 : hsh x = n / 2 ^ 54 := by
    unfold hsh
    rw [e, show (lN n).toBitVec.toNat = n from wb_tn hn]
  rw [e2, e]
  have := wb_shr (k := 54) hn (by decide)
  rw [show uShrL (lN n) (nI 54) = lN (n / 2 ^ 54) from this, lN_i]
theorem en_nz {w : Nat → Nat} (hw : PM w) : en w ≠ lN 0 := by
  rw [co_en]
  intro h
  have h := (en_eq hw.lt16 (fun _ _ => by decide)).mp h
  exact absurd (hw.2 0 1 (by decide) (by decide) ((h 0 (by decide)).trans (h 1 (by decide)).symm)) (by decide)
def cnz (T : Nat → Int64) (n : Nat) : Nat := fb_ct (fun i => decide (T i ≠ lN 0)) n
theorem cnz_all {T : Nat → Int64} {n : Nat} (h : ∀ i, i < n → T i ≠ lN 0) : cnz T n = n := fb_ct_all.mpr fun i hi => decide_eq_true (h i hi)
theorem cnz_zero {T : Nat → Int64} {n : Nat} (h : ∀ i, i < n → T i = lN 0) : cnz T n = 0 := fb_ct_zero.mpr fun i hi => decide_eq_false (fun c => c (h i hi))
theorem cnz_add {T : Nat → Int64} {n i : Nat} {x : Int64} (hi : i < n) (h : T i = lN 0) (hx : x ≠ lN 0) : cnz (vp_updL T i x) n = cnz T n + 1 := by
  unfold cnz
  have e1 : fb_ct (fun j => decide (vp_updL T i x j ≠ lN 0)) n = fb_ct (fun j => if j = i then true else decide (T j ≠ lN 0)) n := fb_ct_cong fun j _ => by
    by_cases z : j = i
    · rw [if_pos z, z, pk_uLs]; exact decide_eq_true hx
    · rw [if_neg z, pk_uLn z]
  have e2 := fb_ct_upd (fun j => decide (T j ≠ lN 0)) true hi
  rw [← e1] at e2
  have e3 : (decide (T i ≠ lN 0)) = false := decide_eq_false (fun c => c h)
  rw [e3, if_neg (by decide), if_pos rfl] at e2
  omega
def HT (T : Nat → Int64) (L : List (Nat → Nat)) : Prop := (∀ w, w ∈ L → PM w) ∧ (∀ w, w ∈ L → ∃ t, t < 1024 ∧ T ((hsh (en w) + t) % 1024) = en w ∧ ∀ s, s < t → T ((hsh (en w) + s) % 1024) ≠ lN 0) ∧ (∀ i, i < 1024 → T i ≠ lN 0 → ∃ w, w ∈ L ∧ T i = en w) ∧ cnz T 1024 ≤ L.length
def SeaW (S : PS) (ad : Nat → Nat) (ws L : List (Nat → Nat)) : Prop := S (ad 6) = .inl (4, [.ref (ad 7), .int (nI ws.length), .ref (ad 8), .int (nI L.length), .ref (ad 9)]) ∧ (∃ h, S (ad 7) = aJ 6 h ∧ ∀ k, k < ws.length → h k = en (fnth ws k)) ∧ (∃ h, S (ad 8) = aJ 301 h ∧ ∀ k, k < L.length → h k = en (fnth L k)) ∧ ∃ T, S (ad 9) = aJ 1024 T ∧ HT T L
theorem ht_hit {T : Nat → Int64} {L : List (Nat → Nat)} {w : Nat → Nat} {i : Nat} (h : HT T L) (hw : PM w) (hi : i < 1024) (e : T i = en w) : inL L w = true := by
  obtain ⟨h1, h2, h3, h4⟩ := h
  obtain ⟨u, hu, eu⟩ := h3 i hi (by rw [e]; exact en_nz hw)
  rw [e] at eu
  exact inL_iff.mpr ⟨u, hu, fun p hp => ((en_eq hw.lt16 (h1 u hu).lt16).mp eu p hp).symm⟩
theorem ht_free {T : Nat → Int64} {L : List (Nat → Nat)} {w : Nat → Nat} {t : Nat} (h : HT T L) (e : T ((hsh (en w) + t) % 1024) = lN 0) (hb : ∀ s, s < t → T ((hsh (en w) + s) % 1024) ≠ lN 0 ∧ T ((hsh (en w) + s) % 1024) ≠ en w) (hw : PM w) : inL L w = false := by
  obtain ⟨h1, h2, h3, h4⟩ := h
  cases g : inL L w with
  | false => rfl
  | true =>
    obtain ⟨u, hu, eu⟩ := inL_iff.mp g
    have ee : en u = en w := en_ext eu
    obtain ⟨t', ht, e1, e2⟩ := h2 u hu
    rw [ee] at e1 e2
    rcases Nat.lt_trichotomy t' t with z | z | z
    · exact absurd e1 (hb t' z).2
    · rw [z, e] at e1; exact absurd e1.symm (en_nz hw)
    · exact absurd e (e2 t z)
theorem ht_add {T : Nat → Int64} {L : List (Nat → Nat)} {w : Nat → Nat} {t : Nat} (h : HT T L) (ht : t < 1024) (e : T ((hsh (en w) + t) % 1024) = lN 0) (hb : ∀ s, s < t → T ((hsh (en w) + s) % 1024) ≠ lN 0) (hw : PM w) : HT (vp_updL T ((hsh (en w) + t) % 1024) (en w)) (L ++ [w]) := by
  obtain ⟨h1, h2, h3, h4⟩ := h
  have hi : (hsh (en w) + t) % 1024 < 1024 := Nat.mod_lt _ (by decide)
  generalize hI : (hsh (en w) + t) % 1024 = i at *
  have keep : ∀ j, T j ≠ lN 0 → vp_updL T i (en w) j = T j := fun j hj => pk_uLn (fun z => hj (by rw [z, e]))
  refine ⟨fun u hu => ?_, fun u hu => ?_, fun j hj hn => ?_, ?_⟩
  · rcases List.mem_append.mp hu with c | c
    · exact h1 u c
    · rw [List.mem_singleton.mp c]; exact hw
  · rcases List.mem_append.mp hu with c | c
    · obtain ⟨t', a1, a2, a3⟩ := h2 u c
      exact ⟨t', a1, by rw [keep _ (by rw [a2]; exact en_nz (h1 u c))]; exact a2, fun s hs => by rw [keep _ (a3 s hs)]; exact a3 s hs⟩
    · rw [List.mem_singleton.mp c]
      exact ⟨t, ht, by rw [hI, pk_uLs], fun s hs => by rw [keep _ (hb s hs)]; exact hb s hs⟩
  · by_cases z : j = i
    · exact ⟨w, List.mem_append.mpr (Or.inr (List.mem_singleton.mpr rfl)), by rw [z, pk_uLs]⟩
    · rw [pk_uLn z] at hn ⊢
      obtain ⟨u, c1, c2⟩ := h3 j hj hn
      exact ⟨u, List.mem_append.mpr (Or.inl c1), c2⟩
  · rw [cnz_add hi e (en_nz hw), List.length_append]
    exact Nat.succ_le_succ h4
theorem spot_mask (n : Nat) : nI n &&& nI 1023 = nI (n % 1024) := fa_mask n 10
theorem ht_full {T : Nat → Int64} {L : List (Nat → Nat)} {w : Nat → Nat} (h : HT T L) (hL : L.length ≤ 300) (hi : ∀ s, s < 1024 → T ((hsh (en w) + s) % 1024) ≠ lN 0) : False := by
  have hh10 := hsh_lt (en w)
  have hall : cnz T 1024 = 1024 := cnz_all fun i hi2 => by
    rcases Nat.lt_or_ge i (hsh (en w)) with c | c
    · have := hi (i + 1024 - hsh (en w)) (by omega)
      rw [show (hsh (en w) + (i + 1024 - hsh (en w))) % 1024 = i by omega] at this
      exact this
    · have := hi (i - hsh (en w)) (by omega)
      rw [show (hsh (en w) + (i - hsh (en w))) % 1024 = i by omega] at this
      exact this
  have h4 := h.2.2.2
  rw [hall] at h4
  omega
section WY
variable {S S' : PS} {tg tg' : Nat → Nat × Nat} {x : Nat} {ad : Nat → Nat} {f g : Nat → Option Nat} {v : LM} {hist : List LM} {sl : Nat → Option LM} {pad pad' : List Nat} {P : Int32 → PS → Prop} {ws L : List (Nat → Nat)}
theorem wp_note {w : Nat → Nat} {Q : PS → Prop} (h : SeaW S ad ws L) (n89 : ad 8 ≠ ad 9) (n78 : ad 7 ≠ ad 8) (n79 : ad 7 ≠ ad 9) (hw : PM w) (hL : L.length ≤ 301) (hQ : ∀ S', SeaW S' ad ws (adw L w) → (∀ b, b ≠ ad 6 → b ≠ ad 8 → b ≠ ad 9 → S' b = S b) → Q S') : wp_X5_note S (ad 6) (en w) Q := by
  have hh := h
  obtain ⟨h1, ⟨H7, h2, h2'⟩, ⟨H8, h3, h3'⟩, T, h4, hT⟩ := h
  have n67 : ad 6 ≠ ad 7 := ob_ne h1 h2 lr_ne
  have n68 : ad 6 ≠ ad 8 := ob_ne h1 h3 lr_ne
  have n69 : ad 6 ≠ ad 9 := ob_ne h1 h4 lr_ne
  unfold wp_X5_note
  refine gI_of h1 rfl ?_
  rcases Nat.lt_or_ge 300 L.length with z | z
  · have e : adw L w = L := by unfold adw; rw [if_neg (fun c => by have := c.1; omega)]
    rw [e] at hQ
    refine wp_below_f (by decide) (Or.inr (nI_le z (by omega))) (br_t rfl (hQ S hh (fun _ _ _ _ => rfl)))
  · refine wp_below_t (by decide) (show L.length < 301 by omega) (br_f n1z (fun i6 e6 => ?_))
    rw [hsh_of] at e6
    have hh10 := hsh_lt (en w)
    rw [e6]
    refine wpL_for 1024 (fun t i8 => i8 = nI (hsh (en w) + t) ∧ ∀ s, s < t → T ((hsh (en w) + s) % 1024) ≠ lN 0 ∧ T ((hsh (en w) + s) % 1024) ≠ en w) ⟨congrArg nI (Nat.add_zero _).symm, fun s hs => absurd hs (Nat.not_lt_zero _)⟩ ?_ ?_
    · intro i8 hi K
      exact (ht_full hT z (fun s hs => (hi.2 s hs).1)).elim
    · intro t i8 ht hi K hK
      obtain ⟨e8, hi⟩ := hi
      show wpb_X5_note_27 _ _ _ _ _ (nI t) i8
      unfold wpb_X5_note_27
      have em : i8 &&& nI 1023 = nI ((hsh (en w) + t) % 1024) := by rw [e8]; exact spot_mask _
      have hm : (hsh (en w) + t) % 1024 < 1024 := Nat.mod_lt _ (by decide)
      rw [em]
      refine br_f (nle_ge ht (by decide)) (gR_of h1 rfl (lJ_of h4 hm (by decide) ⟨fun c => ?_, fun c => ⟨fun c2 => ?_, fun c2 i19 e19 i20 e20 => ?_⟩⟩))
      · have hin := ht_hit hT hw hm (lg0.mp c)
        have e : adw L w = L := by unfold adw; rw [if_neg (fun d => by rw [hin] at d; cases d.2)]
        rw [e] at hQ
        exact hQ S hh (fun _ _ _ _ => rfl)
      · have hz := lg0.mp c2
        have hin := ht_free hT hz hi hw
        have e : adw L w = L ++ [w] := by unfold adw; rw [if_pos ⟨z, hin⟩]
        rw [e] at hQ
        refine gR_of h1 rfl (sJ_of h4 hm (by decide) (gR_of ((up_n n69).trans h1) rfl (gI_of ((up_n n69).trans h1) rfl (sJ_of ((up_n n89).trans h3) (show L.length < 301 by omega) (by decide) ?_))))
        refine gI_of ((up_n n68).trans ((up_n n69).trans h1)) rfl (pF_of ((up_n n68).trans ((up_n n69).trans h1)) (Nat.le_of_ble_eq_true rfl) _ rfl ?_)
        refine hQ _ ⟨?_, ⟨H7, ?_, h2'⟩, ⟨vp_updL H8 L.length (en w), ?_, fun k hk => ?_⟩, vp_updL T ((hsh (en w) + t) % 1024) (en w), ?_, ht_add hT ht hz (fun s hs => (hi s hs).1) hw⟩ (fun b b6 b8 b9 => ?_)
        · rw [up_s, nI_add, List.length_append]; rfl
        · rw [up_n (Ne.symm n67), up_n n78, up_n n79]; exact h2
        · rw [up_n (Ne.symm n68), up_s]
        · rw [List.length_append] at hk
          have hk : k < L.length + 1 := hk
          by_cases q : k = L.length
          · rw [q, pk_uLs, fnth_r]
          · rw [pk_uLn q, h3' k (by omega), fnth_l (by omega)]
        · rw [up_n (Ne.symm n69), up_n (Ne.symm n89), up_s]
        · rw [up_n b6, up_n b8, up_n b9]
      · rw [e19, e20, e8, nI_add, nI_add]
        refine hK _ ⟨congrArg nI (Nat.add_assoc _ _ _), fun s hs => ?_⟩
        rcases Nat.lt_or_ge s t with q | q
        · exact hi s q
        · have : s = t := by omega
          subst this
          exact ⟨fun d => c2 (lg0.mpr d), fun d => c (lg0.mpr d)⟩
theorem wp_allWays {Q : Int32 → PS → Prop} (h : MkO S ad ws) (h8 : ∃ h, S (ad 8) = aJ 301 h) (h9 : ∃ h, S (ad 9) = aJ 1024 h) (n89 : ad 8 ≠ ad 9) (n78 : ad 7 ≠ ad 8) (n79 : ad 7 ≠ ad 9) (hl : ws.length ≤ 6) (hw : ∀ w, w ∈ ws → PM w) (hQ : ∀ S', (∃ L, SeaW S' ad ws L) → (∀ b, b ≠ ad 6 → b ≠ ad 8 → b ≠ ad 9 → S' b = S b) → Q (wyc ws) S') : wp_X5_allWays S (ad 6) Q := by
  obtain ⟨⟨ln, h1⟩, H7, h2, h3⟩ := h
  obtain ⟨H8, h8⟩ := h8
  obtain ⟨T0, h9⟩ := h9
  have n67 : ad 6 ≠ ad 7 := ob_ne h1 h2 lr_ne
  have n68 : ad 6 ≠ ad 8 := ob_ne h1 h8 lr_ne
  have n69 : ad 6 ≠ ad 9 := ob_ne h1 h9 lr_ne
  unfold wp_X5_allWays
  refine wpL_for 1024 (fun k S1 => ∃ T, S1 = va_up S (ad 9) (aJ 1024 T) ∧ ∀ i, i < k → T i = lN 0) ⟨T0, (up_o h9).symm, fun i hi => absurd hi (Nat.not_lt_zero _)⟩ ?_ ?_
  · intro S1 hS K
    obtain ⟨T, e1, eT⟩ := hS
    show wpb_X5_allWays_2 _ _ _ (nI 1024) S1
    unfold wpb_X5_allWays_2
    have hs6 : S1 (ad 6) = .inl (4, [.ref (ad 7), .int (nI ws.length), .ref (ad 8), .int ln, .ref (ad 9)]) := by rw [e1, up_n n69]; exact h1
    refine br_t (nle_re 1024) (pF_of hs6 (Nat.le_of_ble_eq_true rfl) _ rfl (rc_of (up_s _ _ _) ?_))
    rw [home_en]
    have start : SeaW (va_up S1 (ad 6) (.inl (4, [.ref (ad 7), .int (nI ws.length), .ref (ad 8), .int (nI 0), .ref (ad 9)]))) ad ws [] := by
      refine ⟨up_s _ _ _, ⟨H7, ?_, h3⟩, ⟨H8, ?_, fun k hk => absurd hk (Nat.not_lt_zero _)⟩, T, ?_, ?_, ?_, ?_, ?_⟩
      · rw [up_n (Ne.symm n67), e1, up_n n79]; exact h2
      · rw [up_n (Ne.symm n68), e1, up_n n89]; exact h8
      · rw [up_n (Ne.symm n69), e1, up_s]
      · exact fun w c => absurd c List.not_mem_nil
      · exact fun w c => absurd c List.not_mem_nil
      · exact fun i hi c => absurd (eT i hi) c
      · rw [cnz_zero eT]; exact Nat.zero_le _
    refine wp_note start n89 n78 n79 PM.id (Nat.zero_le _) (fun S2 s2 f2 => ?_)
    have ea : adw [] (fun p => p) = [fun p => p] := by unfold adw; rw [if_pos ⟨Nat.zero_le _, rfl⟩]; rfl
    rw [ea] at s2
    have fr : ∀ {S3 : PS}, (∀ b, b ≠ ad 6 → b ≠ ad 8 → b ≠ ad 9 → S3 b = S2 b) → ∀ b, b ≠ ad 6 → b ≠ ad 8 → b ≠ ad 9 → S3 b = S b := fun hf b b6 b8 b9 => by
      rw [hf b b6 b8 b9, f2 b b6 b8 b9, up_n b6, e1, up_n b9]
    refine wpL_for 300 (fun k S3 => ∃ L, SeaW S3 ad ws L ∧ L.length ≤ 300 ∧ bfw ws (300 - k) k L = wyc ws ∧ ∀ b, b ≠ ad 6 → b ≠ ad 8 → b ≠ ad 9 → S3 b = S2 b) ⟨[fun p => p], s2, (show 1 ≤ 300 by decide), rfl, fun _ _ _ _ => rfl⟩ ?_ ?_
    · intro S3 hS3 K3
      obtain ⟨L3, g1, g2, g3, g4⟩ := hS3
      show wpb_X5_allWays_36 _ _ _ (nI 300) S3
      unfold wpb_X5_allWays_36
      refine br_t (nle_re 300) (gI_of g1.1 rfl ?_)
      have e : nI L3.length = wyc ws := g3
      rw [e]
      exact hQ S3 ⟨L3, g1⟩ (fr g4)
    · intro k S3 hk hS3 K3 hK3
      obtain ⟨L3, g1, g2, g3, g4⟩ := hS3
      show wpb_X5_allWays_36 _ _ _ (nI k) S3
      unfold wpb_X5_allWays_36
      have e300 : 300 - k = (300 - (k + 1)) + 1 := by omega
      rw [e300] at g3
      unfold bfw at g3
      refine br_f (nle_ge hk (by decide)) (gI_of g1.1 rfl ?_)
      rcases Nat.lt_or_ge k L3.length with z | z
      · rw [if_pos z] at g3
        refine br_f (nI_ge z (by omega)) ?_
        have r301 := fun j => (rnd_len ws L3 (fnth L3 k) j).2 (by omega)
        refine wpL_for ws.length (fun j S4 => SeaW S4 ad ws (rnd ws L3 (fnth L3 k) j) ∧ ∀ b, b ≠ ad 6 → b ≠ ad 8 → b ≠ ad 9 → S4 b = S2 b) ⟨g1, g4⟩ ?_ ?_
        · intro S4 hS4 K4
          obtain ⟨s4, f4⟩ := hS4
          show wpb_X5_allWays_53 _ _ _ _ _ (nI ws.length) S4
          unfold wpb_X5_allWays_53
          refine gI_of s4.1 rfl (br_t (Int32.le_refl _) (gI_of s4.1 rfl ?_))
          rcases Nat.lt_or_ge 300 (rnd ws L3 (fnth L3 k) ws.length).length with q | q
          · rw [if_neg (by omega)] at g3
            refine br_f (nI_ge q (by have := r301 ws.length; omega)) ?_
            rw [g3]
            exact hQ S4 ⟨_, s4⟩ (fr f4)
          · rw [if_pos q] at g3
            refine br_t (nI_le q (by decide)) (fun i33 e33 => ?_)
            rw [e33, nI_add]
            exact hK3 _ ⟨_, s4, q, g3, f4⟩
        · intro j S4 hj hS4 K4 hK4
          obtain ⟨s4, f4⟩ := hS4
          have s4' := s4
          show wpb_X5_allWays_53 _ _ _ _ _ (nI j) S4
          unfold wpb_X5_allWays_53
          obtain ⟨m1, ⟨M7, m2, m2'⟩, ⟨M8, m3, m3'⟩, -, -, hpm, -⟩ := s4
          have hkr : k < (rnd ws L3 (fnth L3 k) j).length := Nat.lt_of_lt_of_le z (rnd_len ws L3 (fnth L3 k) j).1
          refine gI_of m1 rfl (br_f (nI_ge hj (by omega)) (br_f (nle_ge (show j < 6 by omega) (by decide)) (gR_of m1 rfl (lJ_of m3 (by omega) (by decide) (gR_of m1 rfl (lJ_of m2 (by omega) (by decide) ?_))))))
          have eu : fnth (rnd ws L3 (fnth L3 k) j) k = fnth L3 k := rnd_nth z j
          have hpu : PM (fnth L3 k) := by rw [← eu]; exact hpm _ (fnth_mem hkr)
          have hpw : PM (fnth ws j) := hw _ (fnth_mem hj)
          rw [m3' k hkr, m2' j hj, eu]
          refine wp_then hpu.1 hpw.lt16 (rc_of m1 (wp_note s4' n89 n78 n79 (PM.cmp hpu hpw) (r301 j) (fun S5 s5 f5 => ?_)))
          intro i58 e58
          rw [e58, nI_add]
          exact hK4 _ ⟨s5, fun b b6 b8 b9 => (f5 b b6 b8 b9).trans (f4 b b6 b8 b9)⟩
      · rw [if_neg (by omega)] at g3
        refine br_t (nI_le z (by omega)) (gI_of g1.1 rfl ?_)
        rw [g3]
        exact hQ S3 ⟨L3, g1⟩ (fr g4)
  · intro k S1 hk hS K hK
    obtain ⟨T, e1, eT⟩ := hS
    show wpb_X5_allWays_2 _ _ _ (nI k) S1
    unfold wpb_X5_allWays_2
    refine br_f (nle_ge hk (by decide)) ?_
    rw [e1]
    refine gR_of ((up_n n69).trans h1) rfl (sJ_of (up_s _ _ _) hk (by decide) ?_)
    rw [up_u]
    intro i68 e68
    rw [e68, nI_add]
    refine hK _ ⟨vp_updL T k (lN 0), rfl, fun i hi => ?_⟩
    by_cases z : i = k
    · rw [z, pk_uLs]
    · rw [pk_uLn z]; exact eT i (by omega)
theorem tk_ways_no {y : Int32} (hb : bad y 64) (hP : P (-2) S) : wp_X7_ways S x y P := by
  unfold wp_X7_ways
  exact wp_below_f (by decide) hb (br_t rfl hP)
theorem tk_ways {D : Nat} (h : TkF S tg x ad f g v hist sl pad) (hD : D < 64) (hP : ∀ S', TkF S' tg x ad f g v hist sl pad → CK 40 S tg S' tg → P (wyc (mkp v D 6)) S') : wp_X7_ways S x (nI D) P := by
  have t2 := h.1.2
  have n89 : ad 8 ≠ ad 9 := tne (t2 8 (by decide) (by decide)) (t2 9 (by decide) (by decide)) (pne (by decide))
  have n78 : ad 7 ≠ ad 8 := tne (t2 7 (by decide) (by decide)) (t2 8 (by decide) (by decide)) (pne (by decide))
  have n79 : ad 7 ≠ ad 9 := tne (t2 7 (by decide) (by decide)) (t2 9 (by decide) (by decide)) (pne (by decide))
  unfold wp_X7_ways
  refine wp_below_t (by decide) hD (br_f n1z (rc_of h.2.1 (wp_gather h (by omega) (fun S5 h5 c5 m5 => ?_))))
  obtain ⟨ln, m1⟩ := m5.1
  obtain ⟨-, -, h8, h9⟩ := h5.2.2.2.2.2.2.2.2.1
  refine gR_of h5.2.1 rfl (rc_of m1 (wp_allWays m5 h8 h9 n89 n78 n79 (mkp_le v D 6) (fun w hw => ?_) (fun S6 s6 f6 => ?_)))
  · obtain ⟨d, -, -, e⟩ := mkp_mem.mp hw
    rw [e]; exact pmWy v d
  · obtain ⟨L, q1, ⟨H7, q2, -⟩, ⟨H8, q3, -⟩, T, q4, -⟩ := s6
    obtain ⟨h6, c6⟩ := h5.seas (S' := S6) (fun b b6 b7 b8 b9 => f6 b b6 b8 b9) ⟨⟨_, _, q1⟩, ⟨H7, q2⟩, ⟨H8, q3⟩, T, q4⟩
    exact hP S6 h6 (c5.tr c6)
end WY
