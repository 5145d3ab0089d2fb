/-! ===== the law's own drafts: presses in words of eight ===== -/
def dwN (l : List Nat) (j : Nat) : Nat → Nat := fun i => if 8 * j + i < l.length then l.getD (8 * j + i) 0 else 0
def DW (l : List Nat) (j : Nat) : Nat := encN (dwN l j) 8
theorem dwN_lt {l : List Nat} (hl : okP l) (j : Nat) : ∀ i, i < 8 → dwN l j i < 16 := fun i _ => by
  unfold dwN
  split
  · have := hl.2 (8 * j + i) (by assumption); omega
  · decide
theorem DW_lt {l : List Nat} (hl : okP l) (j : Nat) : DW l j < 2 ^ 32 := Nat.lt_of_lt_of_le (encN_lt (dwN_lt hl j)) (by decide)
theorem DW_nib {l : List Nat} (hl : okP l) {k : Nat} (hk : k < l.length) : nib (DW l (k / 8)) (k % 8) = l.getD k 0 := by
  unfold DW
  rw [nib_enc (Nat.mod_lt _ (by decide)) (dwN_lt hl _)]
  unfold dwN
  have e : 8 * (k / 8) + k % 8 = k := Nat.div_add_mod k 8
  rw [e, if_pos hk]
theorem nI_ti {W : Nat} (hW : W < 2 ^ 32) : (nI W).toInt = if W < 2 ^ 31 then (W : Int) else (W : Int) - 2 ^ 32 := by
  have e : (nI W).toBitVec.toNat = W := pk_tn hW
  show (nI W).toBitVec.toInt = _
  rw [BitVec.toInt_eq_toNat_cond, e]
  by_cases g : W < 2 ^ 31
  · rw [if_pos (by omega), if_pos g]
  · rw [if_neg (by omega), if_neg g]; rfl
theorem shr_nib {W i : Nat} (hW : W < 2 ^ 32) (hi : i < 8) : (nI W >>> (nI (4 * i) &&& 31)) &&& nI 15 = nI (nib W i) := by
  have h1 : (nI W >>> (nI (4 * i) &&& 31)).toInt = (nI W).toInt >>> (4 * i) := pk_shr _ _ _ (s_l (4 * i) (by omega))
  have h2 : (nI W >>> (nI (4 * i) &&& 31)) &&& nI 15 = nI ((nI W >>> (nI (4 * i) &&& 31)).toBitVec.toNat % 2 ^ 4) := pk_and _ 4 (by decide)
  rw [h2]
  refine congrArg nI ?_
  generalize (nI W >>> (nI (4 * i) &&& 31)) = x at h1
  rw [nI_ti hW, Int.shiftRight_eq_div_pow] at h1
  have h3 : x.toInt = if 2 * x.toBitVec.toNat < 2 ^ 32 then (x.toBitVec.toNat : Int) else (x.toBitVec.toNat : Int) - ((2 ^ 32 : Nat) : Int) := BitVec.toInt_eq_toNat_cond _
  have h4 : x.toBitVec.toNat < 2 ^ 32 := x.toBitVec.isLt
  rw [h3] at h1
  unfold nib
  generalize x.toBitVec.toNat = n at h1 h4
  rcases (by omega : i = 0 ∨ i = 1 ∨ i = 2 ∨ i = 3 ∨ i = 4 ∨ i = 5 ∨ i = 6 ∨ i = 7) with rfl | rfl | rfl | rfl | rfl | rfl | rfl | rfl <;> (split at h1 <;> split at h1 <;> omega)
theorem getD_take {l : List Nat} {k i : Nat} (h : i < k) : (l.take k).getD i 0 = l.getD i 0 := by
  simp [List.getD, List.getElem?_take, h]
theorem DW_put {l : List Nat} (hl : okP l) {k : Nat} (hk : k < l.length) : DW (l.take k) (k / 8) ||| l.getD k 0 * 16 ^ (k % 8) = DW (l.take (k + 1)) (k / 8) := by
  have hx := hl.2 k hk
  have ek : 8 * (k / 8) + k % 8 = k := Nat.div_add_mod k 8
  have ht : ∀ m, okP (l.take m) := fun m => ⟨by rw [List.length_take]; have := hl.1; omega, fun i hi => by
    rw [List.length_take] at hi
    rw [getD_take (by omega)]
    exact hl.2 i (by omega)⟩
  have h1 : DW (l.take k) (k / 8) < 16 ^ 8 := encN_lt (dwN_lt (ht k) _)
  have h2 : DW (l.take k) (k / 8) ||| l.getD k 0 * 16 ^ (k % 8) < 16 ^ 8 := by
    have e : (16 : Nat) ^ 8 = 2 ^ 32 := by decide
    rw [e] at h1 ⊢
    refine Nat.or_lt_two_pow h1 ?_
    rw [← pow16]
    have : 2 ^ (4 * (k % 8)) ≤ 2 ^ 28 := Nat.pow_le_pow_right (by decide) (by omega)
    have := Nat.mul_le_mul (show l.getD k 0 ≤ 15 by omega) this
    omega
  rw [← Nat.mod_eq_of_lt h2, ← enc_nib]
  refine encN_ext fun i hi => ?_
  rw [nib_or, nib_put (by omega)]
  unfold DW
  rw [nib_enc hi (dwN_lt (ht k) _)]
  unfold dwN
  rw [List.length_take, List.length_take]
  by_cases z : i = k % 8
  · rw [if_neg (by omega), if_pos z, Nat.zero_or, if_pos (by omega), getD_take (by omega)]
    congr 1; omega
  · rw [if_neg z, Nat.or_zero]
    by_cases q : 8 * (k / 8) + i < k
    · rw [if_pos (by omega), if_pos (by omega), getD_take q, getD_take (by omega)]
    · rw [if_neg (by omega), if_neg (by omega)]
/-- the law's arrays of drafts: how many presses each has (and the two sums), the presses -/
def nF (v : LM) : Nat → Int32 := fun k => if k < 6 then nI (drF v k).length else if k = 6 then pdF v else pkF v
def dF (v : LM) : Nat → Nat := fun i => DW (drF v (i / 3)) (i % 3)
section LC
variable {S : PS} {v : LM}
theorem wq_pressAt {d k ad : Nat} {Post : Int32 → Prop} (hv : okL v) (hd : d < 6) (hk : k < (drF v d).length) (h1 : AN S ad 18 (dF v)) (h : Post (nI ((drF v d).getD k 0))) : wp_L_pressAt S (nI d) (nI k) ad Post := by
  unfold wp_L_pressAt
  have hok := hv.2.2.2.2 d hd
  have h24 := hok.1
  rw [pk_rem (by omega) (by decide) (by decide), pk_mul, pk_mul, pk_div (by omega) (by decide) (by decide), nI_add]
  refine h1.get (k := 3 * d + k / 8) (by omega) ?_
  have e1 : (3 * d + k / 8) / 3 = d := by omega
  have e2 : (3 * d + k / 8) % 3 = k / 8 := by omega
  show Post ((nI (dF v (3 * d + k / 8)) >>> (nI (4 * (k % 8)) &&& 31)) &&& nI 15)
  unfold dF
  rw [e1, e2, shr_nib (DW_lt hok _) (Nat.mod_lt _ (by decide)), DW_nib hok hk]
  exact h
theorem wq_n {d an : Nat} {P : Int32 → Prop} (h1 : AF S an 8 (nF v)) (hd : d < 6) (h : P (nI (drF v d).length)) : lI S an (nI d) P := h1.get (by omega) (by unfold nF; rw [if_pos hd]; exact h)
/-- where the threads come by a draft, laid by the law -/
theorem wq_lay {d ah ti an ad ato : Nat} {F0 : Nat → Int32} {Post : PS → Prop} (hv : okL v) (hd : d < 6) (h1 : AN S ah 12 (shF v)) (h2 : AN S ti 6 (tiF v)) (h3 : AF S an 8 (nF v)) (h4 : AN S ad 18 (dF v)) (h5 : AF S ato 12 F0) (n1 : ato ≠ ah) (n2 : ato ≠ ti) (n3 : ato ≠ an) (n4 : ato ≠ ad) (h : ∀ S', AN S' ato 12 (wyl v (drF v d)) → (∀ b, S b ≠ oJ → b ≠ ato → S' b = S b) → Post S') : wp_L_lay S (nI d) ah ti an ad ato Post := by
  unfold wp_L_lay
  have hok := hv.2.2.2.2 d hd
  have h24 := hok.1
  have hw := pmWyl v (drF v d)
  refine nw_AF (by decide) (fun q S1 hq hq1 f1 => ?_)
  have fr : ∀ {T : PS} {a n : Nat} {F : Nat → Int32}, (∀ b, b ≠ q → T b = S1 b) → AF S a n F → AF T a n F := fun {T a n F} hT ha => ha.fr (by
    have := ne_new ha.live hq
    rw [hT _ this, f1 _ this])
  refine wpL_for 12 (fun k T => AF T q 12 (fun j => if j < k then nI j else 0) ∧ ∀ b, b ≠ q → T b = S1 b) ⟨hq1.ext (fun k _ => (if_neg (Nat.not_lt_zero _)).symm), fun _ _ => rfl⟩ ?_ ?_
  · intro T hT K
    obtain ⟨a1, a2⟩ := hT
    show wpb_L_lay_9 _ _ _ _ _ _ _ _ _ (nI 12) T
    unfold wpb_L_lay_9
    refine br_t (nle_re 12) ?_
    refine wpL_for (drF v d).length (fun k U => (∃ g : Nat → Nat, AN U q 12 g ∧ ∀ p, p < 12 → g (wyl v ((drF v d).take k) p) = p) ∧ ∀ b, b ≠ q → U b = S1 b) ⟨⟨fun j => j, a1.ext (fun k hk => if_pos hk), fun p hp => rfl⟩, a2⟩ ?_ ?_
    · intro U hU K2
      obtain ⟨⟨g, b1, b2⟩, b3⟩ := hU
      rw [List.take_length] at b2
      show wpb_L_lay_32 _ _ _ _ _ _ _ _ _ (nI (drF v d).length) U
      unfold wpb_L_lay_32
      refine wq_n (fr b3 h3) hd (br_t (Int32.le_refl _) ?_)
      have hg : ∀ q, q < 12 → g q < 12 ∧ wyl v (drF v d) (g q) = q := fun q hq => by
        obtain ⟨p, hp, e⟩ := hw.onto hq
        rw [← e, b2 p hp]
        exact ⟨hp, rfl⟩
      have n5 : ato ≠ q := ne_new h5.live hq
      refine wpL_for 12 (fun k X => AF X ato 12 (fun j => if wyl v (drF v d) j < k then nI (wyl v (drF v d) j) else F0 j) ∧ ∀ b, b ≠ ato → X b = U b) ⟨(fr b3 h5).ext (fun k _ => (if_neg (Nat.not_lt_zero _)).symm), fun _ _ => rfl⟩ ?_ ?_
      · intro X hX K3
        obtain ⟨c1, c2⟩ := hX
        show wpb_L_lay_64 _ _ _ _ (nI 12) X
        unfold wpb_L_lay_64
        refine br_t (nle_re 12) (h X (c1.ext fun k hk => if_pos (hw.1 k hk)) (fun b hb hb2 => ?_))
        have := ne_new hb hq
        rw [c2 b hb2, b3 b this, f1 b this]
      · intro k X hk hX K3 hK3
        obtain ⟨c1, c2⟩ := hX
        show wpb_L_lay_64 _ _ _ _ (nI k) X
        unfold wpb_L_lay_64
        refine br_f (nle_ge hk (by decide)) ((b1.fr (c2 _ (Ne.symm n5))).get hk (c1.set (hg k hk).1 (fun X' d1 d2 => ?_)))
        intro i24 e24
        rw [e24, nI_add]
        refine hK3 _ ⟨d1.ext (fun j hj => ?_), fun b hb => by rw [d2 b hb, c2 b hb]⟩
        by_cases z : j = g k
        · rw [z, if_pos rfl, (hg k hk).2, if_pos (Nat.lt_succ_self k)]
        · have z2 : wyl v (drF v d) j ≠ k := fun e => z (by rw [← e, b2 j hj])
          rw [if_neg z]
          by_cases z3 : wyl v (drF v d) j < k
          · rw [if_pos z3, if_pos (by omega)]
          · rw [if_neg z3, if_neg (by omega)]
    · intro k U hk hU K2 hK2
      obtain ⟨⟨g, b1, b2⟩, b3⟩ := hU
      show wpb_L_lay_32 _ _ _ _ _ _ _ _ _ (nI k) U
      unfold wpb_L_lay_32
      refine wq_n (fr b3 h3) hd (br_f (nI_ge hk (by omega)) (wq_pressAt hv hd hk (fr b3 h4) ?_))
      have hx := hok.2 k hk
      have hP := pmWyl v ((drF v d).take k)
      have hg : ∀ q, q < 12 → wyl v ((drF v d).take k) (g q) = q ∧ g q < 12 := fun q hq => by
        obtain ⟨p, hp, e⟩ := hP.onto hq
        rw [← e, b2 p hp]
        exact ⟨rfl, hp⟩
      refine wq_presses (w' := iv (wyl v ((drF v d).take (k + 1)))) hv hx (fr b3 h1) (fr b3 h2) b1 (fun p hp => ?_) (fun U' c1 c2 => ?_)
      · have e : prW v ((drF v d).getD k 0) p = wyl v ((drF v d).take (k + 1)) (g p) := by
          rw [take_snoc hk, wyl_snoc, (hg p hp).1]
        rw [e, iv_of (pmWyl v _) (hg p hp).2]
      · intro i28 e28
        rw [e28, nI_add]
        exact hK2 _ ⟨⟨_, c1, fun p hp => iv_of (pmWyl v _) hp⟩, fun b hb => by rw [c2 b hb, b3 b hb]⟩
  · intro k T hk hT K hK
    obtain ⟨a1, a2⟩ := hT
    show wpb_L_lay_9 _ _ _ _ _ _ _ _ _ (nI k) T
    unfold wpb_L_lay_9
    refine br_f (nle_ge hk (by decide)) (a1.set hk (fun T' d1 d2 => ?_))
    intro i34 e34
    rw [e34, nI_add]
    refine hK _ ⟨d1.ext (fun j hj => ?_), fun b hb => by rw [d2 b hb, a2 b hb]⟩
    by_cases g : j = k
    · rw [if_pos g, g, if_pos (Nat.lt_succ_self k)]
    · rw [if_neg g]
      by_cases g3 : j < k
      · rw [if_pos g3, if_pos (by omega)]
      · rw [if_neg g3, if_neg (by omega)]
/-- a draft of the law's own is made anew -/
theorem wq_makes {d an ad ar : Nat} {l : List Nat} {R : Nat → Int32} {Post : PS → Prop} (hv : okL v) (hd : d < 6) (hl : okP l) (h1 : AF S ar 24 R) (hR : ∀ k, k < l.length → R k = nI (l.getD k 0)) (h3 : AF S an 8 (nF v)) (h4 : AN S ad 18 (dF v)) (n1 : an ≠ ar) (n2 : ad ≠ ar) (n3 : an ≠ ad) (h : ∀ S', AF S' an 8 (nF (setDr v d l)) → AN S' ad 18 (dF (setDr v d l)) → (∀ b, b ≠ an → b ≠ ad → S' b = S b) → Post S') : wp_L_makes S (nI d) ar (nI l.length) an ad Post := by
  unfold wp_L_makes
  have h24 := hl.1
  refine h3.set (by omega) (fun S1 a1 f1 => ?_)
  have a1 : AF S1 an 8 (nF (setDr v d l)) := a1.ext (fun k hk => by
    unfold nF
    by_cases g : k = d
    · rw [if_pos g, g, if_pos hd]
      show _ = nI (if d = d then l else drF v d).length
      rw [if_pos rfl]
    · rw [if_neg g]
      by_cases g2 : k < 6
      · rw [if_pos g2, if_pos g2]
        show _ = nI (if k = d then l else drF v k).length
        rw [if_neg g]
      · rw [if_neg g2, if_neg g2]; rfl)
  have k1 : AF S1 ar 24 R := h1.fr (f1 _ (Ne.symm n1))
  have k4 : AN S1 ad 18 (dF v) := h4.fr (f1 _ (Ne.symm n3))
  refine wpL_for 3 (fun k T => AF T ad 18 (fun i => if i / 3 = d ∧ i % 3 < k then nI 0 else nI (dF v i)) ∧ ∀ b, b ≠ ad → T b = S1 b) ⟨k4.ext (fun k _ => (if_neg (fun z => absurd z.2 (Nat.not_lt_zero _))).symm), fun _ _ => rfl⟩ ?_ ?_
  · intro T hT K
    obtain ⟨b1, b2⟩ := hT
    show wpb_L_makes_7 _ _ _ _ _ _ (nI 3) T
    unfold wpb_L_makes_7
    refine br_t (nle_re 3) ?_
    refine wpL_for l.length (fun k U => AF U ad 18 (fun i => if i / 3 = d then nI (DW (l.take k) (i % 3)) else nI (dF v i)) ∧ ∀ b, b ≠ ad → U b = S1 b) ⟨b1.ext (fun i hi => ?_), b2⟩ ?_ ?_
    · by_cases g : i / 3 = d
      · rw [if_pos ⟨g, Nat.mod_lt _ (by decide)⟩, if_pos g]
        have e : DW (l.take 0) (i % 3) = 0 := by
          unfold DW
          rw [encN_ext (g := fun _ => 0) (fun i _ => by unfold dwN; rw [List.take_zero]; exact if_neg (Nat.not_lt_zero _))]
          rfl
        rw [e]
      · rw [if_neg (fun z => g z.1), if_neg g]
    · intro U hU K2
      obtain ⟨c1, c2⟩ := hU
      show wpb_L_makes_32 _ _ _ _ _ _ (nI l.length) U
      unfold wpb_L_makes_32
      refine br_t (Int32.le_refl _) (h U (a1.fr (c2 _ n3)) (c1.ext fun i hi => ?_) (fun b hb hb2 => by rw [c2 b hb2, f1 b hb]))
      unfold dF
      by_cases g : i / 3 = d
      · rw [if_pos g, List.take_length]
        show _ = nI (DW (if i / 3 = d then l else drF v (i / 3)) (i % 3))
        rw [if_pos g]
      · rw [if_neg g]
        show _ = nI (DW (if i / 3 = d then l else drF v (i / 3)) (i % 3))
        rw [if_neg g]
    · intro k U hk hU K2 hK2
      obtain ⟨c1, c2⟩ := hU
      show wpb_L_makes_32 _ _ _ _ _ _ (nI k) U
      unfold wpb_L_makes_32
      refine br_f (nI_ge hk (by omega)) ?_
      intro i11 e11
      rw [e11, pk_mul, pk_div (by omega) (by decide) (by decide), nI_add]
      refine c1.get (by omega) ((k1.fr (c2 _ (Ne.symm n2))).get (by omega) ?_)
      have e1 : (3 * d + k / 8) / 3 = d := by omega
      have e2 : (3 * d + k / 8) % 3 = k / 8 := by omega
      have hx := hl.2 k hk
      have htk : okP (l.take k) := ⟨by rw [List.length_take]; omega, fun i hi => by
        rw [List.length_take] at hi
        rw [getD_take (by omega)]
        exact hl.2 i (by omega)⟩
      refine c1.set (by omega) (fun U' d1 d2 => ?_)
      intro i24 e24
      rw [e24, nI_add]
      refine hK2 _ ⟨d1.ext (fun i hi => ?_), fun b hb => by rw [d2 b hb, c2 b hb]⟩
      by_cases z : i = 3 * d + k / 8
      · rw [if_pos z, z, if_pos e1, if_pos e1, e2, hR k hk, show nI k - nI (k / 8) * nI 8 = nI (k % 8) from (by rw [pk_mul, pk_sub (by omega)]; congr 1; omega), pk_mul]
        have e3 : nI (l.getD k 0) <<< (nI (4 * (k % 8)) &&& 31) = nI (l.getD k 0 * 16 ^ (k % 8)) := by
          rw [← pow16]
          refine pk_shlN _ _ (s_l _ (by omega)) ?_
          have : 2 ^ (4 * (k % 8)) ≤ 2 ^ 28 := Nat.pow_le_pow_right (by decide) (by omega)
          have := Nat.mul_le_mul (show l.getD k 0 ≤ 15 by omega) this
          omega
        rw [e3, fa_or]
        refine congrArg nI ?_
        exact DW_put hl hk
      · rw [if_neg z]
        by_cases g : i / 3 = d
        · rw [if_pos g, if_pos g]
          refine congrArg nI (encN_ext fun t ht => ?_)
          have : 8 * (i % 3) + t ≠ k := by omega
          unfold dwN
          rw [List.length_take, List.length_take]
          by_cases q : 8 * (i % 3) + t < k
          · rw [if_pos (by omega), if_pos (by omega), getD_take q, getD_take (by omega)]
          · rw [if_neg (by omega), if_neg (by omega)]
        · rw [if_neg g, if_neg g]
  · intro k T hk hT K hK
    obtain ⟨b1, b2⟩ := hT
    show wpb_L_makes_7 _ _ _ _ _ _ (nI k) T
    unfold wpb_L_makes_7
    rw [pk_mul, nI_add]
    refine br_f (nle_ge hk (by decide)) (b1.set (by omega) (fun T' d1 d2 => ?_))
    intro i30 e30
    rw [e30, nI_add]
    refine hK _ ⟨d1.ext (fun i hi => ?_), fun b hb => by rw [d2 b hb, b2 b hb]⟩
    by_cases z : i = 3 * d + k
    · rw [if_pos z, if_pos ⟨by omega, by omega⟩]
    · rw [if_neg z]
      by_cases g : i / 3 = d ∧ i % 3 < k
      · rw [if_pos g, if_pos ⟨g.1, by omega⟩]
      · rw [if_neg g, if_neg (fun y => g ⟨y.1, by omega⟩)]
end LC
