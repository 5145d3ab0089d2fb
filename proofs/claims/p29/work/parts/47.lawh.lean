/-! ===== the law's own look at a draft: its loops ===== -/
section LH
variable {S S' : PS} {tg tg' : Nat → Nat × Nat} {x : Nat} {ad : Nat → Nat} {f g : Nat → Option Nat} {v : LM} {hist : List LM} {sl : Nat → Option LM} {pad : List Nat} {Q : Int32 → PS → Prop} {d : Nat} {la : Nat → Nat}
/-- the weavings, until the threads are back -/
theorem wq_260 {S0 : PS} {a1 a3 : Nat} {y i7 i8 i12 i13 i16 : Int32} (h : TkF S0 tg x ad f g v hist sl pad) (hL : LWo S0 tg x la v) (hd : d < 6) (h1 : AN S a1 12 (wy v d)) (h3 : AN S a3 12 (thF v)) (hne : a1 ≠ a3) (q3 : S0 a3 = oJ) (hS : ∀ b, S0 b ≠ oJ → S b = S0 b) (e7 : i7 = nI (crs (wy v d))) (e8 : i8 = nI (bs (fun p => wy v d p == p) 12)) (e12 : i12 = nI (lng (wy v d))) (e13 : i13 = nI (cys (wy v d))) (hu : unt (wy v d) (thF v) 0 i16) (hQ : ∀ S', (∀ b, S0 b ≠ oJ → S' b = S0 b) → Q (nI 1) S') : wpk_L_isDraft_260 x (nI d) y (la 2) (la 3) (la 4) (la 5) a1 a3 i7 i8 S i12 i13 Q i16 := by
  have hw := pmWy v d
  have okv := h.2.2.2.1.1
  obtain ⟨b1, b2', b3, b4⟩ := tua_spec (fun p => p) hw
  have hcT := tua_le (cbp v) hw
  obtain ⟨c1, c2, c3, c4⟩ := tua_spec (cbp v) hw
  unfold wpk_L_isDraft_260
  -- the state in a round
  have old : ∀ {T : PS}, (∀ b, S b ≠ oJ → b ≠ a3 → T b = S b) → ∀ b, S0 b ≠ oJ → T b = S0 b := fun hT b hb => (hT b (by rw [hS b hb]; exact hb) (ne_new hb q3)).trans (hS b hb)
  have st : ∀ {T : PS}, (∀ b, S b ≠ oJ → b ≠ a3 → T b = S b) → TkF T tg x ad f g v hist sl pad ∧ LWo T tg x la v ∧ AN T a1 12 (wy v d) := fun hT => ⟨h.keep (fun b hb _ => ⟨old hT b hb, rfl⟩), hL.keep (fun b hb _ => ⟨rfl, old hT b hb⟩), h1.fr (hT a1 h1.live hne)⟩
  have fin : ∀ {T : PS} {i : Int32}, (∀ b, S b ≠ oJ → b ≠ a3 → T b = S b) → unt (wy v d) (thF v) (tua (fun p => p) (wy v d)) i → wpk_L_isDraft_428 x (nI d) y (la 4) (la 5) a1 i7 i8 i12 i13 Q (ckv (tua (cbp v) (wy v d)) (tua (fun p => p) (wy v d))) (ckv (tua (fun p => p) (wy v d)) (tua (fun p => p) (wy v d))) i T := fun {T i} hT hu => by
    obtain ⟨k1, k2, k3⟩ := st hT
    have q1 : ckv (tua (cbp v) (wy v d)) (tua (fun p => p) (wy v d)) = nI (tua (cbp v) (wy v d)) := if_pos hcT
    have q2 : ckv (tua (fun p => p) (wy v d)) (tua (fun p => p) (wy v d)) = nI (tua (fun p => p) (wy v d)) := if_pos (Nat.le_refl _)
    rw [q1, q2]
    exact wq_428 k1 k2.2.2.2.2.2.1 k2.2.2.2.2.2.2.1 k3 hd e7 e8 e12 e13 rfl rfl (unt_end hw hu) (hQ T (old hT))
  refine wpL_fromB (tua (fun p => p) (wy v d) + 1) (fun kk t => 1 ≤ kk ∧ t.1 = (if kk = tua (fun p => p) (wy v d) + 1 then nI 1 else nI 0) ∧ t.2.1 = ckv (tua (cbp v) (wy v d)) (kk - 1) ∧ t.2.2.1 = ckv (tua (fun p => p) (wy v d)) (kk - 1) ∧ unt (wy v d) (thF v) (kk - 1) t.2.2.2.1 ∧ AN t.2.2.2.2 a3 12 (mv (thF v) (itr (wy v d) (kk - 1))) ∧ ∀ b, S b ≠ oJ → b ≠ a3 → t.2.2.2.2 b = S b) (by omega) (by omega) ⟨Nat.le_refl _, ?_, ?_, ?_, hu, ?_, fun _ _ _ => rfl⟩ ?_ ?_
  · show nI 0 = _
    rw [if_neg (by omega)]
  · show nI 0 = ckv _ 0
    unfold ckv
    rw [if_neg (by omega)]
  · show nI 0 = ckv _ 0
    unfold ckv
    rw [if_neg (by omega)]
  · refine h3.ext (fun p hp => ?_)
    have := mv_at (f := thF v) PM.id hp
    show nI (thF v p) = nI (mv (thF v) (fun p => p) p)
    rw [this]
  · intro t ht K
    obtain ⟨q1, q2, q3, q4, T⟩ := t
    obtain ⟨-, e1, e2, e3, g4, g5, g6⟩ := ht
    have e1 : q1 = nI 1 := e1.trans (if_pos rfl)
    have e2 : q2 = ckv (tua (cbp v) (wy v d)) (tua (fun p => p) (wy v d)) := e2
    have e3 : q3 = ckv (tua (fun p => p) (wy v d)) (tua (fun p => p) (wy v d)) := e3
    subst e1; subst e2; subst e3
    have g4 : unt (wy v d) (thF v) (tua (fun p => p) (wy v d)) q4 := g4
    have g6 : ∀ b, S b ≠ oJ → b ≠ a3 → T b = S b := g6
    show wpb_L_isDraft_266 _ _ _ _ _ _ _ _ _ _ _ _ _ _ _ (nI (tua (fun p => p) (wy v d) + 1)) (nI 1) (ckv (tua (cbp v) (wy v d)) (tua (fun p => p) (wy v d))) (ckv (tua (fun p => p) (wy v d)) (tua (fun p => p) (wy v d))) q4 T
    unfold wpb_L_isDraft_266
    exact br_c (fun _ => fin g6 g4) (fun _ => br_f n1z (fin g6 g4))
  · intro kk t hk ht K hK
    obtain ⟨q1, q2, q3, q4, T⟩ := t
    obtain ⟨k1, e1, e2, e3, g4, g5, g6⟩ := ht
    have e1 : q1 = nI 0 := e1.trans (if_neg (by omega))
    have e2 : q2 = ckv (tua (cbp v) (wy v d)) (kk - 1) := e2
    have e3 : q3 = ckv (tua (fun p => p) (wy v d)) (kk - 1) := e3
    subst e1; subst e2; subst e3
    have g4 : unt (wy v d) (thF v) (kk - 1) q4 := g4
    have g5 : AN T a3 12 (mv (thF v) (itr (wy v d) (kk - 1))) := g5
    have g6 : ∀ b, S b ≠ oJ → b ≠ a3 → T b = S b := g6
    show wpb_L_isDraft_266 _ _ _ _ _ _ _ _ _ _ _ _ _ _ _ (nI kk) (nI 0) (ckv (tua (cbp v) (wy v d)) (kk - 1)) (ckv (tua (fun p => p) (wy v d)) (kk - 1)) q4 T
    unfold wpb_L_isDraft_266
    obtain ⟨s1, s2, s3⟩ := st g6
    have ekk : kk - 1 + 1 = kk := by omega
    refine br_f (nI_nlt (by omega) (by decide)) (br_t nI_0 (wq_weaves (w' := mv (thF v) (itr (wy v d) kk)) s3 g5 hne hw (fun p hp => ?_) (fun T' d3 f3 => ?_)))
    · have e1 := mv_mv (f := thF v) (hw.it (kk - 1)) hw (hw.1 p hp)
      have e2 : mv (mv (thF v) (itr (wy v d) (kk - 1))) (wy v d) (wy v d p) = mv (thF v) (itr (wy v d) (kk - 1)) p := mv_at hw hp
      rw [e2] at e1
      have e3 : (fun p => wy v d (itr (wy v d) (kk - 1) p)) = itr (wy v d) kk := by
        conv => rhs; rw [← ekk]
        rfl
      rw [e3] at e1
      exact e1.symm
    · have f4 : ∀ b, S b ≠ oJ → b ≠ a3 → T' b = S b := fun b hb hb2 => by
        have := g6 b hb hb2
        rw [f3 b (by rw [this]; exact hb) hb2, this]
      obtain ⟨s4, s5, s6⟩ := st f4
      refine wq_294 okv s5 hw d3 k1 (by omega) g4 (fun i hi => ?_)
      refine hK _ ⟨by omega, ?_, rfl, rfl, hi, d3, f4⟩
      show (if kk = tua (fun p => p) (wy v d) then nI 1 else nI 0) = (if kk + 1 = tua (fun p => p) (wy v d) + 1 then nI 1 else nI 0)
      by_cases z : kk = tua (fun p => p) (wy v d)
      · rw [if_pos z, if_pos (by omega)]
      · rw [if_neg z, if_neg (by omega)]
/-- the cycles -/
theorem wq_148 {a1 p : Nat} {i12 i13 : Int32} {c : Nat} {w : Nat → Nat} {K128 : (Int32 × Int32 × Int32) → Prop} (hw : PM w) (h1 : AN S a1 12 w) (hp : p < 12) (e12 : i12 = nI (if 1 < mxc w p then mxc w p else 0)) (e13 : i13 = nI c) (hK : K128 (nI (p + 1), nI (if 1 < mxc w (p + 1) then mxc w (p + 1) else 0), nI (c + (if low w p && !(w p == p) then 1 else 0)))) : ∃ n : Nat, wpL (fun (K148 : (Int32 × Int32 × Int32) → Prop) (q : Int32 × Int32 × Int32) => wpb_L_isDraft_148 a1 S (nI p) i12 i13 K128 K148 q.1 q.2.1 q.2.2) n (nI (w p), (nI 1), (nI 1)) := by
  obtain ⟨c1, c2, c3, c4⟩ := cyc_spec hw hp
  have hm := mxc_le hw p (by omega)
  refine wpL_inv (fun q => ∃ m, 1 ≤ m ∧ m ≤ cyc w p ∧ q = (nI (itr w m p), nI (b2 (fst1 w p m)), nI m)) (fun q => 12 - q.2.2.toNatClampNeg) ?_ ⟨1, Nat.le_refl _, c1, rfl⟩
  rintro q ⟨m, m1, m2, rfl⟩ K hK2
  show wpb_L_isDraft_148 _ _ _ _ _ _ _ (nI (itr w m p)) (nI (b2 (fst1 w p m))) (nI m)
  unfold wpb_L_isDraft_148
  have hi := (hw.it m).1 p hp
  refine br_c (fun z => ?_) (fun z => ?_)
  · rw [nI_eq (by omega) (by omega)] at z
    have em : m = cyc w p := by
      rcases Nat.lt_or_ge m (cyc w p) with y | y
      · exact absurd z (c4 m m1 y)
      · omega
    subst em
    rw [fst1_low hw hp, b2_0]
    have h1c := cyc_1 hw hp
    -- the longest
    have lo2 : ∀ i168, K128 (nI (p + 1), nI (if 1 < mxc w (p + 1) then mxc w (p + 1) else 0), i168) → wpk_L_isDraft_208 (nI p) i12 (nI (cyc w p)) K128 i168 := fun i168 hh => by
      unfold wpk_L_isDraft_208 wpk_L_isDraft_230
      have hs : mxc w (p + 1) = if mxc w p < cyc w p then cyc w p else mxc w p := rfl
      have hi2 : (if 1 < mxc w p then mxc w p else 0) < 2 ^ 31 := by split <;> omega
      rw [e12, nI_leI (by omega) (by decide), nI_leI (by omega) hi2]
      refine br_c (fun y => ?_) (fun y => br_c (fun y2 => ?_) (fun y2 => ?_))
      · intro i170 e170
        rw [e170, nI_add]
        have e : (if 1 < mxc w (p + 1) then mxc w (p + 1) else 0) = (if 1 < mxc w p then mxc w p else 0) := by
          rw [hs]
          by_cases q : mxc w p < cyc w p
          · rw [if_pos q, if_neg (by omega), if_neg (by omega)]
          · rw [if_neg q]
        rw [← e]; exact hh
      · intro i170 e170
        rw [e170, nI_add]
        have e : (if 1 < mxc w (p + 1) then mxc w (p + 1) else 0) = (if 1 < mxc w p then mxc w p else 0) := by
          rw [hs]
          by_cases q : mxc w p < cyc w p
          · by_cases q2 : 1 < mxc w p
            · rw [if_pos q2] at y2; omega
            · rw [if_neg q2] at y2; omega
          · rw [if_neg q]
        rw [← e]; exact hh
      · intro i170 e170
        rw [e170, nI_add]
        have q : mxc w p < cyc w p := by
          by_cases q2 : 1 < mxc w p
          · rw [if_pos q2] at y2; omega
          · omega
        have e : (if 1 < mxc w (p + 1) then mxc w (p + 1) else 0) = cyc w p := by
          rw [hs, if_pos q, if_pos (by omega)]
        rw [e] at hh; exact hh
    refine br_c (fun y => ?_) (fun y => br_c (fun y2 => ?_) (fun y2 => ?_))
    · intro i174 e174
      rw [e174, e13, nI_add]
      refine lo2 _ ?_
      rw [y, Bool.false_and] at hK
      exact hK
    · intro i176 e176
      rw [e176, e13, nI_add]
      refine lo2 _ ?_
      rw [nI_leI (by omega) (by decide)] at y2
      have : w p = p := h1c.mp (by omega)
      have e : (w p == p) = true := by rw [this]; exact beq_self_eq_true _
      rw [e] at hK
      have e2 : (low w p && !true) = false := by simp
      rw [e2] at hK
      exact hK
    · intro i177 e177
      rw [e177, e13, nI_add]
      refine lo2 _ ?_
      rw [nI_leI (by omega) (by decide)] at y2
      have hne : w p ≠ p := fun y3 => y2 (by rw [h1c.mpr y3]; exact Nat.le_refl _)
      have e : (w p == p) = false := beq_false_of_ne hne
      have y : low w p = true := by
        cases z2 : low w p with
        | true => rfl
        | false => exact absurd z2 y
      rw [e, y] at hK
      exact hK
  · rw [nI_eq (by omega) (by omega)] at z
    have hlt : m < cyc w p := by
      rcases Nat.lt_or_ge m (cyc w p) with y | y
      · exact y
      · have : m = cyc w p := by omega
        subst this
        exact absurd c3 z
    have go : ∀ b : Bool, b = fst1 w p (m + 1) → K (nI (itr w (m + 1) p), nI (b2 b), nI (m + 1)) := fun b eb => by
      rw [eb]
      refine hK2 _ ⟨m + 1, by omega, hlt, rfl⟩ ?_
      show 12 - (nI (m + 1)).toNatClampNeg < 12 - (nI m).toNatClampNeg
      rw [nI_clamp (by omega), nI_clamp (by omega)]
      omega
    have ef := fst1_succ w p m
    have em0 : ¬ m = 0 := by omega
    intro i178 e178
    rw [e178, nI_add, b2_0]
    refine br_c (fun y => ?_) (fun y => ?_)
    · unfold wpk_L_isDraft_177
      refine h1.get hi ?_
      rw [y, Bool.false_and] at ef
      exact go false ef.symm
    · have y : fst1 w p m = true := by
        cases z2 : fst1 w p m with
        | true => rfl
        | false => exact absurd z2 y
      rw [y, Bool.true_and] at ef
      unfold wpk_L_isDraft_177
      rw [nI_leI (by omega) (by omega)]
      refine br_c (fun y2 => h1.get hi ?_) (fun y2 => h1.get hi ?_)
      · refine go false ?_
        rw [ef]
        have : ¬ p < itr w m p := by omega
        simp [em0, this]
      · refine go true ?_
        rw [ef]
        have : p < itr w m p := by omega
        simp [this]
theorem wq_isDraft {y : Int32} (h : TkF S tg x ad f g v hist sl pad) (hL : LWo S tg x la v) (hd : d < 6) (hQ : ∀ S', (∀ b, S b ≠ oJ → S' b = S b) → Q (nI 1) S') : wp_L_isDraft S x (nI d) y (la 0) (la 1) (la 2) (la 3) (la 4) (la 5) Q := by
  have hw := pmWy v d
  have okv := h.2.2.2.1.1
  unfold wp_L_isDraft
  refine nw_AF (by decide) (fun a1 S2 q1 h1 f1 => nw_AF (by decide) (fun a3 S4 q3 h3 f3 => ?_))
  have hL2 : LWo S2 tg x la v := hL.tmp q1 (fun b _ hb => f1 b hb)
  have hL4 : LWo S4 tg x la v := hL2.tmp q3 (fun b _ hb => f3 b hb)
  have n13 : a1 ≠ a3 := ne_new h1.live q3
  have n1 : ∀ i, i < 7 → la i ≠ a1 := fun i hi => hL.new hi q1
  have n3 : ∀ i, i < 7 → la i ≠ a3 := fun i hi => hL2.new hi q3
  have liv4 : ∀ b, S b ≠ oJ → S4 b = S b ∧ b ≠ a1 ∧ b ≠ a3 := fun b hb => by
    have b1 := ne_new hb q1
    have b3 : b ≠ a3 := ne_new (S := S2) (by rw [f1 b b1]; exact hb) q3
    exact ⟨by rw [f3 b b3, f1 b b1], b1, b3⟩
  refine wq_lay okv hd hL4.2.1 hL4.2.2.1 hL4.2.2.2.2.2.1 hL4.2.2.2.2.2.2.1 (h1.fr (f3 _ n13)) (Ne.symm (n1 0 (by decide))) (Ne.symm (n1 1 (by decide))) (Ne.symm (n1 4 (by decide))) (Ne.symm (n1 5 (by decide))) (fun S5 h5 f5 => ?_)
  have h5 : AN S5 a1 12 (wy v d) := h5
  have k3 : S5 a3 = S4 a3 := f5 a3 h3.live (Ne.symm n13)
  have liv5 : ∀ b, S b ≠ oJ → S5 b = S b := fun b hb => by
    obtain ⟨c1, c2, c3⟩ := liv4 b hb
    rw [f5 b (by rw [c1]; exact hb) c2, c1]
  -- a state that differs at a3 alone
  have st : ∀ {T : PS}, (∀ b, b ≠ a3 → T b = S5 b) → (∀ b, S b ≠ oJ → T b = S b) ∧ TkF T tg x ad f g v hist sl pad ∧ LWo T tg x la v ∧ AN T a1 12 (wy v d) := fun {T} hT => by
    have e : ∀ b, S b ≠ oJ → T b = S b := fun b hb => (hT b (liv4 b hb).2.2).trans (liv5 b hb)
    exact ⟨e, h.keep (fun b hb _ => ⟨e b hb, rfl⟩), hL.keep (fun b hb _ => ⟨rfl, e b hb⟩), h5.fr (hT _ n13)⟩
  refine wpL_for 12 (fun p t => t.1 = nI (crk (wy v d) p) ∧ t.2.1 = nI (bs (fun p => wy v d p == p) p) ∧ AF t.2.2 a3 12 (fun j => if j < p then nI (thF v j) else 0) ∧ ∀ b, b ≠ a3 → t.2.2 b = S5 b) ⟨rfl, rfl, (h3.fr k3).ext (fun j _ => (if_neg (Nat.not_lt_zero _)).symm), fun _ _ => rfl⟩ ?_ ?_
  · intro t ht K
    obtain ⟨t7, t8, T⟩ := t
    obtain ⟨e7, e8, g3, g4⟩ := ht
    have e7 : t7 = nI (crk (wy v d) 12) := e7
    rw [crk_crs] at e7
    have g3 : AN T a3 12 (thF v) := AF.ext g3 (fun j hj => if_pos hj)
    have g4 : ∀ b, b ≠ a3 → T b = S5 b := g4
    obtain ⟨s0, s1, s2, s3⟩ := st g4
    show wpb_L_isDraft_34 _ _ _ _ _ _ _ _ _ _ _ (nI 12) t7 t8 T
    unfold wpb_L_isDraft_34
    refine br_t (nle_re 12) ?_
    have mx0 : ∀ k, k ≤ 12 → (if 1 < mxc (wy v d) k then mxc (wy v d) k else 0) ≤ 12 := fun k hk => by
      have := mxc_le hw k hk
      split <;> omega
    refine wpL_for 12 (fun p t => t.1 = nI (if 1 < mxc (wy v d) p then mxc (wy v d) p else 0) ∧ t.2 = nI (fb_ct (fun p => low (wy v d) p && !(wy v d p == p)) p)) ⟨rfl, rfl⟩ ?_ ?_
    · intro t ht K2
      obtain ⟨t12, t13⟩ := t
      obtain ⟨e12, e13⟩ := ht
      have e12 : t12 = nI (lng (wy v d)) := e12
      have e13 : t13 = nI (cys (wy v d)) := e13
      show wpb_L_isDraft_128 _ _ _ _ _ _ _ _ _ _ _ _ _ _ (nI 12) t12 t13
      unfold wpb_L_isDraft_128
      refine br_t (nle_re 12) (wq_home g3 okv.2.2.1.1 ?_)
      have hle := fb_ct_le (fun p => thF v p == p) 12
      have eh : fb_ct (fun p => thF v p == p) 12 = 12 ↔ UH (wy v d) (thF v) 0 := by
        rw [fb_ct_all]
        unfold UH
        exact ⟨fun hh p hp => by have := hh p hp; have : thF v p = p := (by simpa using this); exact this.symm, fun hh p hp => by have : p = thF v p := hh p hp; simp [← this]⟩
      have q3' : S a3 = oJ := (f1 a3 (Ne.symm n13)).symm.trans q3
      have go : ∀ i16, unt (wy v d) (thF v) 0 i16 → wpk_L_isDraft_260 x (nI d) y (la 2) (la 3) (la 4) (la 5) a1 a3 t7 t8 T t12 t13 Q i16 := fun i16 hu => wq_260 h hL hd s3 g3 n13 q3' s0 e7 e8 e12 e13 hu hQ
      rw [nI_eq (by omega) (by decide)]
      refine br_c (fun z => go _ (Or.inl ⟨0, Nat.le_refl _, eh.mp z, fun j hj => absurd hj (Nat.not_lt_zero _), rfl⟩)) (fun z => go _ (Or.inr ⟨fun j hj => ?_, rfl⟩))
      have : j = 0 := by omega
      subst this
      exact fun c => z (eh.mpr c)
    · intro p t hp ht K2 hK2
      obtain ⟨t12, t13⟩ := t
      obtain ⟨e12, e13⟩ := ht
      have e12 : t12 = nI (if 1 < mxc (wy v d) p then mxc (wy v d) p else 0) := e12
      have e13 : t13 = nI (fb_ct (fun p => low (wy v d) p && !(wy v d p == p)) p) := e13
      show wpb_L_isDraft_128 _ _ _ _ _ _ _ _ _ _ _ _ _ _ (nI p) t12 t13
      unfold wpb_L_isDraft_128
      refine br_f (nle_ge hp (by decide)) (s3.get hp (wq_148 hw s3 hp e12 e13 (hK2 _ ⟨rfl, rfl⟩)))
  · intro p t hp ht K hK
    obtain ⟨t7, t8, T⟩ := t
    obtain ⟨e7, e8, g3, g4⟩ := ht
    have e7 : t7 = nI (crk (wy v d) p) := e7
    have e8 : t8 = nI (bs (fun p => wy v d p == p) p) := e8
    have g4 : ∀ b, b ≠ a3 → T b = S5 b := g4
    obtain ⟨s0, s1, s2, s3⟩ := st g4
    show wpb_L_isDraft_34 _ _ _ _ _ _ _ _ _ _ _ (nI p) t7 t8 T
    unfold wpb_L_isDraft_34
    have g3 : AF T a3 12 (fun j => if j < p then nI (thF v j) else 0) := g3
    refine br_f (nle_ge hp (by decide)) (s2.2.2.2.1.get hp (g3.set hp (fun T' d1 d2 => ?_)))
    have g5 : ∀ b, b ≠ a3 → T' b = S5 b := fun b hb => (d2 b hb).trans (g4 b hb)
    obtain ⟨s4, s5, s6, s7⟩ := st g5
    have g6 : AF T' a3 12 (fun j => if j < p + 1 then nI (thF v j) else 0) := d1.ext (fun j hj => by
      by_cases g : j = p
      · rw [if_pos g, g, if_pos (Nat.lt_succ_self p)]
      · rw [if_neg g]
        by_cases g3 : j < p
        · rw [if_pos g3, if_pos (by omega)]
        · rw [if_neg g3, if_neg (by omega)])
    have hwp := hw.1 p hp
    have ple := crk_le (wy v d) p (by omega)
    have tail : ∀ t8', t8' = nI (bs (fun p => wy v d p == p) (p + 1)) → wpk_L_isDraft_74 a1 (nI p) t7 T' K t8' := fun t8' e8' => by
      unfold wpk_L_isDraft_74
      refine wpL_for p (fun e t => t = nI (crk (wy v d) p + fb_ct (fun e => decide (wy v d p < wy v d e)) e)) e7 ?_ ?_
      · intro t ht K2
        show wpb_L_isDraft_77 _ _ _ _ _ _ (nI p) t
        unfold wpb_L_isDraft_77
        refine br_t (Int32.le_refl _) ?_
        intro i204 e204
        rw [e204, nI_add]
        exact hK _ ⟨ht, e8', g6, g5⟩
      · intro e t he ht K2 hK2
        show wpb_L_isDraft_77 _ _ _ _ _ _ (nI e) t
        unfold wpb_L_isDraft_77
        have hwe := hw.1 e (by omega)
        refine br_f (nI_ge he (by omega)) (s7.get (by omega) (s7.get hp (br_c (fun z => ?_) (fun z => ?_))))
        · rw [nI_leI (by omega) (by omega)] at z
          intro i214 e214 i215 e215
          rw [e214, e215, ht, nI_add, nI_add]
          refine hK2 _ ?_
          have : ¬ wy v d p < wy v d e := by omega
          rw [fb_ct_succ]
          simp [this]
        · rw [nI_leI (by omega) (by omega)] at z
          intro i216 e216 i217 e217
          rw [e216, e217, ht, nI_add, nI_add]
          refine hK2 _ ?_
          have : wy v d p < wy v d e := by omega
          rw [fb_ct_succ]
          simp [this, Nat.add_assoc]
    refine s7.get hp (br_c (fun z => ?_) (fun z => ?_))
    · rw [nI_eq (by omega) (by omega)] at z
      intro i221 e221
      refine tail _ ?_
      rw [e221, e8, bs_put (P := fun p => wy v d p == p) (by omega) (by rw [z]; exact beq_self_eq_true _)]
    · rw [nI_eq (by omega) (by omega)] at z
      intro i220 e220
      refine tail _ ?_
      rw [e220, e8, fa_or, Nat.or_zero, bs_no (P := fun p => wy v d p == p) (beq_false_of_ne z)]
end LH
