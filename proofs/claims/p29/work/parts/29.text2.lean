/-! ===== reading, writing, wiping; undo; slots ===== -/
section TX2
variable {S S' : PS} {tg tg' : Nat → Nat × Nat} {x : Nat} {ad : Nat → Nat} {f g : Nat → Option Nat} {v : LM} {hist : List LM} {sl : Nat → Option LM} {pad pad' : List Nat} {P : Int32 → PS → Prop}
theorem TkF.pads (h : TkF S tg x ad f g v hist sl pad) (hS : ∀ b, b ≠ ad 4 → b ≠ ad 5 → S' b = S b) (hp : PadO S' ad pad') : TkF S' tg x ad f g v hist sl pad' ∧ CK 40 S tg S' tg := by
  obtain ⟨t1, t2⟩ := h.1
  have n : ∀ b, (tg b).2 ≠ 24 → (tg b).2 ≠ 25 → S' b = S b := fun b h1 h2 => hS b (fun e => h1 (by rw [e, t2 4 (by decide) (by decide)])) (fun e => h2 (by rw [e, t2 5 (by decide) (by decide)]))
  have nj : ∀ j, 6 ≤ j → j < 12 → S' (ad j) = S (ad j) := fun j j1 j2 => n _ (by rw [t2 j (by omega) (by omega)]; show 20 + j ≠ 24; omega) (by rw [t2 j (by omega) (by omega)]; show 20 + j ≠ 25; omega)
  exact ⟨h.scr (fun b hb => n b (by omega) (by omega)) hp (h.2.2.2.2.2.2.2.2.1.fr (nj 6 (by decide) (by decide)) (nj 7 (by decide) (by decide)) (nj 8 (by decide) (by decide)) (nj 9 (by decide) (by decide))) (h.2.2.2.2.2.2.2.2.2.fr (nj 10 (by decide) (by decide)) (nj 11 (by decide) (by decide))), CK.of fun b hb => n b (by omega) (by omega)⟩
theorem PadO.clear {ad : Nat → Nat} (h : PadO S ad pad) : PadO (va_up S (ad 4) (.inl (2, [.ref (ad 5), .int (nI 0)]))) ad [] := by
  obtain ⟨h1, h2, ⟨c, h3, h4⟩, h5⟩ := h
  exact ⟨up_s _ _ _, Nat.zero_le _, ⟨c, (up_n (ob_ne h3 h1 (Ne.symm lr_ne))).trans h3, fun k hk => absurd hk (Nat.not_lt_zero _)⟩, fun k hk => absurd hk (Nat.not_lt_zero _)⟩
theorem tk_wipe (h : TkF S tg x ad f g v hist sl pad) (hP : ∀ S', TkF S' tg x ad f g v hist sl [] → CK 40 S tg S' tg → P (nI pad.length) S') : wp_X7_wipe S x P := by
  have hx := h.2.1
  have hp := h.2.2.2.2.2.2.2.1
  unfold wp_X7_wipe
  refine gR_of hx rfl (gI_of hp.1 rfl (gR_of hx rfl (pF_of hp.1 (Nat.le_of_ble_eq_true rfl) _ rfl ?_)))
  obtain ⟨h1, c1⟩ := h.pads (fun b hb _ => up_n hb) hp.clear
  exact hP _ h1 c1
theorem tk_read_no {y : Int32} (h : TkF S tg x ad f g v hist sl pad) (hb : bad y 6) (hP : P (-1) S) : wp_X7_read S x y P := by
  unfold wp_X7_read
  obtain ⟨fs, e⟩ := h.2.2.2.1.at
  exact gR_of h.2.1 rfl (rc_of e (wp_draftAt_no hb ⟨fun _ => hP, fun _ c => (by cases c)⟩))
theorem tk_read_bad {d : Nat} (h : TkF S tg x ad f g v hist sl pad) (hd : d < 6) (hf : ¬ flt pad = -6) (hP : ∀ S', TkF S' tg x ad f g v hist sl pad → CK 40 S tg S' tg → P (-3) S') : wp_X7_read S x (nI d) P := by
  have hx := h.2.1
  have hp := h.2.2.2.2.2.2.2.1
  have t2 := h.1.2
  obtain ⟨okv, t0, d0, xs, ys, hX⟩ := h.2.2.2.1
  unfold wp_X7_read
  refine gR_of hx rfl (rc_of hX.1 (wp_draftX hX hd ⟨fun c => (by cases c), fun a6 e6 => ?_⟩))
  refine gR_of hx rfl (gR_of hx rfl (rc_of hp.1 (wp_layOut hp h.2.2.2.2.2.2.2.2.2 (tne (t2 4 (by decide) (by decide)) (t2 10 (by decide) (by decide)) (pne (by decide))) (tne (t2 5 (by decide) (by decide)) (t2 11 (by decide) (by decide)) (pne (by decide))) (fun S1 d1 o1 f1 => ?_))))
  obtain ⟨h1, l1, c1⟩ := h.frs f1 d1.sh
  exact br_f hf (hP _ h1 c1)
theorem tk_read {d : Nat} (h : TkF S tg x ad f g v hist sl pad) (hd : d < 6) (hf : flt pad = -6) (hP : ∀ S' tg' f', TkF S' tg' x ad f' g (setDr v d (pzP pad).2) (pushH hist v) sl [] → CK 40 S tg S' tg' → P (nI (pzP pad).2.length) S') : wp_X7_read S x (nI d) P := by
  have hx := h.2.1
  have hp := h.2.2.2.2.2.2.2.1
  have t2 := h.1.2
  obtain ⟨okv, t0, d0, xs, ys, hX⟩ := h.2.2.2.1
  unfold wp_X7_read
  refine gR_of hx rfl (rc_of hX.1 (wp_draftX hX hd ⟨fun c => (by cases c), fun a6 e6 => ?_⟩))
  cases e6
  refine gR_of hx rfl (gR_of hx rfl (rc_of hp.1 (wp_layOut hp h.2.2.2.2.2.2.2.2.2 (tne (t2 4 (by decide) (by decide)) (t2 10 (by decide) (by decide)) (pne (by decide))) (tne (t2 5 (by decide) (by decide)) (t2 11 (by decide) (by decide)) (pne (by decide))) (fun S1 d1 o1 f1 => ?_))))
  obtain ⟨h1, l1, c1⟩ := h.frs f1 d1.sh
  have hX1 := hX.keep l1
  refine br_t hf (gR_of h1.2.1 rfl (gR_of h1.2.1 rfl (rc_of h1.2.2.1.1 (wp_keep h1 (fun S2 tg2 f2 h2 c2 l2 => ?_)))))
  have hX2 := hX1.keep l2
  have liv := h1.live
  have o10 := (c2 (ad 10) (liv 10 (by decide)) (by rw [t2 10 (by decide) (by decide)]; show 24 ≤ 30; decide)).2
  have o11 := (c2 (ad 11) (liv 11 (by decide)) (by rw [t2 11 (by decide) (by decide)]; show 24 ≤ 31; decide)).2
  have d2 : DrAt S2 (ad 10) (ad 11) (pzP pad).2 := by
    obtain ⟨k1, F, k2, k3⟩ := d1
    exact ⟨o10.trans k1, F, o11.trans k2, k3⟩
  refine gR_of h2.2.1 rfl (rc_of (hX2.2.2.2.1 d hd).1 (tk_made h2 hX2 okv hd o1 d2 (fun S5 h5 c5 d5 f5 => ?_)))
  have hp5 := h5.2.2.2.2.2.2.2.1
  obtain ⟨h6, c6⟩ := h5.pads (fun b hb _ => up_n hb) hp5.clear
  have hne : xs d ≠ ad 4 := tne (hX2.2.2.2.2.2.2.2 d hd).1 (h2.1.2 4 (by decide) (by decide)) (pne (by omega))
  refine gR_of h5.2.1 rfl (pF_of hp5.1 (Nat.le_of_ble_eq_true rfl) _ rfl (gI_of ((up_n hne).trans d5.1) rfl ?_))
  exact hP _ tg2 f2 h6 ((c1.tr (c2.wk (by decide))).tr (c5.tr c6))
/-! the signs of a number -/
def byt (u k : Nat) : Nat := u / 256 ^ k % 256
def sgn (u : Nat) : Nat → Nat → Nat
  | 0, i => if u / 256 ^ i = 0 then i else 0
  | k + 1, i => if byt u i = 0 then (if u / 256 ^ i = 0 then i else 0) else if byt u i < 33 then 0 else if byt u i ≤ 126 then sgn u k (i + 1) else 0
def signs (u : Nat) : Nat := sgn u 8 0
def dsc (u n : Nat) : Nat → List Nat
  | 0 => []
  | j + 1 => dsc u n j ++ [byt u (n - 1 - j)]
def wtx (u : Nat) : List Nat := dsc u (signs u) (signs u)
theorem dsc_len (u n : Nat) : ∀ j, (dsc u n j).length = j
  | 0 => rfl
  | j + 1 => by
    show (dsc u n j ++ _).length = _
    rw [List.length_append, dsc_len u n j]; rfl
theorem byt_lt (u k : Nat) : byt u k < 256 := Nat.mod_lt _ (by decide)
theorem sgn_ok (u : Nat) : ∀ k i, i + k = 8 → (∀ j, j < i → 33 ≤ byt u j ∧ byt u j ≤ 126) → sgn u k i ≤ 8 ∧ ∀ j, j < sgn u k i → 33 ≤ byt u j ∧ byt u j ≤ 126
  | 0, i, hi, hj => by
    unfold sgn
    split
    · exact ⟨by omega, hj⟩
    · exact ⟨Nat.zero_le _, fun j h => absurd h (Nat.not_lt_zero _)⟩
  | k + 1, i, hi, hj => by
    unfold sgn
    split
    · split
      · exact ⟨by omega, hj⟩
      · exact ⟨Nat.zero_le _, fun j h => absurd h (Nat.not_lt_zero _)⟩
    · split
      · exact ⟨Nat.zero_le _, fun j h => absurd h (Nat.not_lt_zero _)⟩
      · split
        · refine sgn_ok u k (i + 1) (by omega) (fun j h => ?_)
          rcases Nat.lt_or_ge j i with z | z
          · exact hj j z
          · have : j = i := by omega
            subst this; omega
        · exact ⟨Nat.zero_le _, fun j h => absurd h (Nat.not_lt_zero _)⟩
theorem signs_ok (u : Nat) : signs u ≤ 8 ∧ ∀ j, j < signs u → 33 ≤ byt u j ∧ byt u j ≤ 126 := sgn_ok u 8 0 rfl (fun j h => absurd h (Nat.not_lt_zero _))
theorem p256 (k : Nat) : 2 ^ (8 * k) = 256 ^ k := by rw [Nat.pow_mul]
theorem ush8 {u k : Nat} (hu : u < 2 ^ 64) (hk : k < 8) : uShrL (lN u) (nI 8 * nI k) = lN (u / 256 ^ k) := by
  rw [pk_mul, ← p256]
  exact wb_shr hu (by omega)
theorem m255 {w : Nat} (hw : w < 2 ^ 64) : lN w &&& (255 : Int64) = lN (w % 256) := wb_mask (k := 8) hw (by decide)
theorem byt_L {u k : Nat} (hu : u < 2 ^ 64) (hk : k < 8) : (uShrL (lN u) (nI 8 * nI k) &&& (255 : Int64)).toInt32 = nI (byt u k) := by
  rw [ush8 hu hk, m255 (Nat.lt_of_le_of_lt (Nat.div_le_self _ _) hu), lN_i]
  rfl
theorem lz {w : Nat} (hw : w < 2 ^ 64) : lN w = lN 0 ↔ w = 0 := ⟨fun h => by
  have := congrArg (fun y : Int64 => y.toBitVec.toNat) h
  rw [show (lN w).toBitVec.toNat = w from wb_tn hw] at this
  exact this, fun h => by rw [h]⟩
theorem wp_signs {u : Nat} {Q : Int32 → Prop} (hu : u < 2 ^ 64) (h : Q (nI (signs u))) : wp_X2_signsIn (lN u) Q := by
  unfold wp_X2_signsIn
  refine wpL_inv (fun q => ∃ i k, i + k = 8 ∧ q = (lN (u / 256 ^ i), nI i) ∧ sgn u k i = signs u) (fun q => 8 - q.2.toNatClampNeg) ?_ ⟨0, 8, rfl, by rw [Nat.pow_zero, Nat.div_one], rfl⟩
  rintro q ⟨i, k, hik, rfl, hs⟩ K hK
  have hw : u / 256 ^ i < 2 ^ 64 := Nat.lt_of_le_of_lt (Nat.div_le_self _ _) hu
  show wpb_X2_signsIn_4 _ _ (lN (u / 256 ^ i)) (nI i)
  unfold wpb_X2_signsIn_4
  have e0 : lg_cmp (lN (u / 256 ^ i)) (lN 0) = 0 ↔ u / 256 ^ i = 0 := lg0.trans (lz hw)
  have zero : (if u / 256 ^ i = 0 then i else 0) = signs u → (lg_cmp (lN (u / 256 ^ i)) (lN 0) = 0 → Q (nI i)) ∧ (¬ lg_cmp (lN (u / 256 ^ i)) (lN 0) = 0 → Q (nI 0)) := fun hz => by
    refine ⟨fun c => ?_, fun c => ?_⟩
    · rw [if_pos (e0.mp c)] at hz; rw [hz]; exact h
    · rw [if_neg (fun d => c (e0.mpr d))] at hz; rw [hz]; exact h
  cases k with
  | zero =>
    have e8 : i = 8 := by omega
    subst e8
    exact br_t (nle_re 8) (zero hs)
  | succ k =>
    refine br_f (nle_ge (show i < 8 by omega) (by decide)) ?_
    rw [m255 hw]
    have eb : u / 256 ^ i % 256 = byt u i := rfl
    rw [eb]
    have hb := byt_lt u i
    have hb63 : byt u i < 2 ^ 63 := Nat.lt_trans hb (by decide)
    have eb0 : lg_cmp (lN (byt u i)) (lN 0) = 0 ↔ byt u i = 0 := lg0.trans (lz (Nat.lt_trans hb (by decide)))
    unfold sgn at hs
    refine ⟨fun c => ?_, fun c j7 e7 => ?_⟩
    · rw [if_pos (eb0.mp c)] at hs
      exact zero hs
    · rw [if_neg (fun d => c (eb0.mpr d))] at hs
      rw [e7]
      have e33 : lg_cmp (lN (byt u i)) 33 < 0 ↔ byt u i < 33 := (lg_cmp_lt _ _).trans (pk_lLT (b := 33) hb63 (by decide))
      have e126 : lg_cmp (lN (byt u i)) 126 ≤ 0 ↔ byt u i ≤ 126 := (lg_cmp_le _ _).trans (pk_lLE (b := 126) hb63 (by decide))
      refine ⟨fun c2 => ?_, fun c2 => ⟨fun c3 j10 e10 i11 e11 => ?_, fun c3 => ?_⟩⟩
      · rw [if_pos (e33.mp c2)] at hs; rw [hs]; exact h
      · rw [if_neg (fun d => c2 (e33.mpr d)), if_pos (e126.mp c3)] at hs
        have ee : uShrL (lN (u / 256 ^ i)) (nI 8) = lN (u / 256 ^ (i + 1)) := by
          have := wb_shr (k := 8) hw (by decide)
          rw [Nat.pow_succ, ← Nat.div_div_eq_div_mul]
          exact this
        rw [e10, e11, ee, nI_add]
        refine hK _ ⟨i + 1, k, by omega, rfl, hs⟩ ?_
        show 8 - (nI (i + 1)).toNatClampNeg < 8 - (nI i).toNatClampNeg
        rw [nI_clamp (by omega), nI_clamp (by omega)]
        omega
      · rw [if_neg (fun d => c2 (e33.mpr d)), if_neg (fun d => c3 (e126.mpr d))] at hs; rw [hs]; exact h
theorem nar_c {q : Nat} (hq : q < 256) : vp_nar .char (i2c (nI q)) = nI q := by
  unfold i2c
  rw [pk_vc, pk_char, pk_tn (Nat.lt_trans hq (by decide)), Nat.mod_eq_of_lt (Nat.lt_trans hq (by decide))]
theorem getD_app_m {l l2 : List Nat} {k : Nat} (h : l.length ≤ k) : (l ++ l2).getD k 0 = l2.getD (k - l.length) 0 := by
  simp [List.getD, List.getElem?_append_right h]
theorem tk_write_no {u : Nat} (hu : u < 2 ^ 64) (h0 : signs u = 0) (hP : P (-2) S) : wp_X7_write S x (lN u) P := by
  unfold wp_X7_write
  exact wp_signs hu (by rw [h0]; exact br_t rfl hP)
theorem tk_write_many {u : Nat} (h : TkF S tg x ad f g v hist sl pad) (hu : u < 2 ^ 64) (h0 : ¬ signs u = 0) (hl : 40 < pad.length + signs u) (hP : P (-4) S) : wp_X7_write S x (lN u) P := by
  have hp := h.2.2.2.2.2.2.2.1
  have h8 := (signs_ok u).1
  have h40 := hp.2.1
  unfold wp_X7_write
  refine wp_signs hu (br_f (nI_ne0 (by omega) (by omega)) (gR_of h.2.1 rfl (gI_of hp.1 rfl ?_)))
  rw [nI_add]
  exact br_f (nI_ge hl (by omega)) hP
theorem tk_write {u : Nat} (h : TkF S tg x ad f g v hist sl pad) (hu : u < 2 ^ 64) (h0 : ¬ signs u = 0) (hl : pad.length + signs u ≤ 40) (hP : ∀ S', TkF S' tg x ad f g v hist sl (pad ++ wtx u) → CK 40 S tg S' tg → P (nI (pad.length + signs u)) S') : wp_X7_write S x (lN u) P := by
  have hx := h.2.1
  have hp := h.2.2.2.2.2.2.2.1
  obtain ⟨h8, hb⟩ := signs_ok u
  have t2 := h.1.2
  have n45 : ad 4 ≠ ad 5 := tne (t2 4 (by decide) (by decide)) (t2 5 (by decide) (by decide)) (pne (by decide))
  unfold wp_X7_write
  refine wp_signs hu (br_f (nI_ne0 (by omega) (by omega)) (gR_of hx rfl (gI_of hp.1 rfl ?_)))
  rw [nI_add]
  refine br_t (nI_le hl (by decide)) (gR_of hx rfl (rc_of hp.1 ?_))
  unfold wp_X2_append
  intro i1 e1
  rw [e1]
  refine wpL_down (signs u) (fun k S1 => PadO S1 ad (pad ++ dsc u (signs u) (signs u - k)) ∧ ∀ b, b ≠ ad 4 → b ≠ ad 5 → S1 b = S b) ⟨?_, fun _ _ _ => rfl⟩ ?_ ?_
  · rw [Nat.sub_self]
    show PadO S ad (pad ++ [])
    rw [List.append_nil]; exact hp
  · intro S1 hS K
    obtain ⟨q1, q2⟩ := hS
    show wpb_X2_append_5 _ _ _ _ (-1) S1
    unfold wpb_X2_append_5
    obtain ⟨h2, c2⟩ := h.pads q2 q1
    refine br_t (by decide) (gR_of h2.2.1 rfl (gI_of q1.1 rfl ?_))
    rw [Nat.sub_zero] at h2 ⊢
    rw [List.length_append, dsc_len]
    exact hP _ h2 c2
  · intro k S1 hk hS K hK
    obtain ⟨⟨q1, q2, ⟨c, q3, q4⟩, q5⟩, q6⟩ := hS
    show wpb_X2_append_5 _ _ _ _ (nI k) S1
    unfold wpb_X2_append_5
    rw [List.length_append, dsc_len] at q1 q2 q4 q5
    have hj : signs u - k = signs u - (k + 1) + 1 := by omega
    have hl' : pad.length + (signs u - (k + 1)) < 40 := by omega
    refine br_f (nI_pos (by omega)) (gI_of q1 rfl (wp_below_t (by decide) hl' (br_f n1z (gR_of q1 rfl (gI_of q1 rfl (sC_of q3 hl' (by decide) ?_))))))
    rw [byt_L hu (by omega), nar_c (byt_lt u k)]
    refine gI_of ((up_n n45).trans q1) rfl (pF_of ((up_n n45).trans q1) (Nat.le_of_ble_eq_true rfl) _ rfl ?_)
    intro i26 e26
    rw [e26]
    refine hK _ ⟨⟨?_, ?_, ⟨upd c (pad.length + (signs u - (k + 1))) (nI (byt u k)), ?_, fun j hj2 => ?_⟩, fun j hj2 => ?_⟩, fun b b1 b2 => ?_⟩
    · rw [up_s, nI_add, List.length_append, dsc_len, hj]; rfl
    · rw [List.length_append, dsc_len]; omega
    · rw [up_n (Ne.symm n45), up_s]
    · rw [List.length_append, dsc_len] at hj2
      rw [hj]
      show _ = nI ((pad ++ (dsc u (signs u) (signs u - (k + 1)) ++ [byt u (signs u - 1 - (signs u - (k + 1)))])).getD j 0)
      rw [← List.append_assoc]
      have hlen : (pad ++ dsc u (signs u) (signs u - (k + 1))).length = pad.length + (signs u - (k + 1)) := by rw [List.length_append, dsc_len]
      by_cases z : j = pad.length + (signs u - (k + 1))
      · rw [z, pk_us, ← hlen, getD_app_r]; congr 2; omega
      · rw [pk_un z, q4 j (by omega), getD_app_l (l := pad ++ dsc u (signs u) (signs u - (k + 1))) (by omega)]
    · rw [List.length_append, dsc_len] at hj2
      rw [hj]
      show 33 ≤ (pad ++ (dsc u (signs u) (signs u - (k + 1)) ++ [byt u (signs u - 1 - (signs u - (k + 1)))])).getD j 0 ∧ (pad ++ (dsc u (signs u) (signs u - (k + 1)) ++ [byt u (signs u - 1 - (signs u - (k + 1)))])).getD j 0 ≤ 126
      rw [← List.append_assoc]
      have hlen : (pad ++ dsc u (signs u) (signs u - (k + 1))).length = pad.length + (signs u - (k + 1)) := by rw [List.length_append, dsc_len]
      by_cases z : j = pad.length + (signs u - (k + 1))
      · rw [z, ← hlen, getD_app_r]; exact hb _ (by omega)
      · rw [getD_app_l (l := pad ++ dsc u (signs u) (signs u - (k + 1))) (by omega)]; exact q5 j (by omega)
    · rw [up_n b1, up_n b2]; exact q6 b b1 b2
end TX2
