/-! ===== the law's loop ===== -/
theorem pushH_last (hist : List LM) (v : LM) : (pushH hist v)[(pushH hist v).length - 1]? = some v ∧ 1 ≤ (pushH hist v).length := by
  unfold pushH
  split
  · rw [List.length_append]
    show (hist ++ [v])[hist.length + 1 - 1]? = some v ∧ 1 ≤ hist.length + 1
    rw [Nat.add_sub_cancel, List.getElem?_append_right (Nat.le_refl _), Nat.sub_self]
    exact ⟨rfl, by omega⟩
  · rw [List.length_append]
    show (hist.tail ++ [v])[hist.tail.length + 1 - 1]? = some v ∧ 1 ≤ hist.tail.length + 1
    rw [Nat.add_sub_cancel, List.getElem?_append_right (Nat.le_refl _), Nat.sub_self]
    exact ⟨rfl, by omega⟩
/-- the object and the law in step -/
def INL (T : PS) (x : Nat) (la : Nat → Nat) : Prop := ∃ (tg : Nat → Nat × Nat) (ad : Nat → Nat) (f g : Nat → Option Nat) (v : LM) (hist : List LM) (sl : Nat → Option LM) (pad : List Nat), TkF T tg x ad f g v hist sl pad ∧ LWo T tg x la v
section LK
variable {S : PS} {tg : Nat → Nat × Nat} {x : Nat} {ad : Nat → Nat} {f g : Nat → Option Nat} {v : LM} {hist : List LM} {sl : Nat → Option LM} {pad : List Nat} {la : Nat → Nat} {k : Nat} {i28 i29 : Int32} {K : (Int32 × PS) → Prop}
theorem wq_525 (h : TkF S tg x ad f g v hist sl pad) (hL : LWo S tg x la v) (hk : k < 30) (hK : ∀ T, INL T x la → K (nI (k + 1), T)) : wpk_L_law_525 x (la 0) (la 1) (la 2) (la 3) (la 4) (la 5) (nI k) i29 S K := by
  unfold wpk_L_law_525
  have fin9 : ∀ T, INL T x la → wpk_L_law_578 (nI k) K T := fun T hT => by
    unfold wpk_L_law_578
    intro i46 e46
    rw [e46, nI_add]
    exact hK T hT
  refine wq_isSo h hL (fun S43 f43 => br_f n1z ?_)
  have h43 : TkF S43 tg x ad f g v hist sl pad := h.keep (fun b hb _ => ⟨f43 b hb, rfl⟩)
  have hL43 : LWo S43 tg x la v := hL.keep (fun b hb _ => ⟨rfl, f43 b hb⟩)
  refine br_c (fun _ => wq_arePairs h43 hL43 (fun S49 tg49 h49 hL49 => br_f n1z (fin9 _ ⟨tg49, ad, f, g, v, hist, sl, pad, h49, hL49⟩))) (fun _ => fin9 _ ⟨tg, ad, f, g, v, hist, sl, pad, h43, hL43⟩)
theorem wq_476 {kd a : Nat} {b e : Int32} {R : Nat → Int32} (h : TkF S tg x ad f g (cF kd a b e v).2 hist sl pad) (hv : okL v) (hc : okC kd a b e) (hL : LWo S tg x la v) (hr : AF S (la 6) 24 R) (hR : kd = 2 → (wrw b e).length ≤ 24 → ∀ k, k < (wrw b e).length → R k = nI ((wrw b e).getD k 0)) (hk : k < 30) (hK : ∀ T, INL T x la → K (nI (k + 1), T)) : wpk_L_law_476 x (la 0) (la 1) (la 2) (la 3) (la 4) (la 5) (la 6) (nI k) i29 (nI kd) (nI a) b e (cF kd a b e v).1 K S := by
  unfold wpk_L_law_476
  refine wq_due hv h.2.2.2.1.1 hc hL (fun e2 hl => ⟨R, hr, hR e2 hl⟩) (fun S40 hL40 k40 => br_t rfl ?_)
  have h40 := LK4.tk h k40
  have go : wpk_L_law_525 x (la 0) (la 1) (la 2) (la 3) (la 4) (la 5) (nI k) i29 S40 K := wq_525 h40 hL40 hk hK
  by_cases c : 0 ≤ (cF kd a b e v).1
  · exact br_t c go
  · rcases (cF_neg hv hc c).2 with c2 | c2
    · exact br_f c (br_t c2 go)
    · exact br_f c (br_f (by rw [c2]; decide) (br_t c2 go))
theorem wq_388 {kd a : Nat} {b e : Int32} (h : TkF S tg x ad f g v hist sl pad) (hc : okC kd a b e) (hL : LWo S tg x la v) (hk : k < 30) (hK : ∀ T, INL T x la → K (nI (k + 1), T)) : wpk_L_law_388 x (la 0) (la 1) (la 2) (la 3) (la 4) (la 5) (la 6) (nI k) S i28 i29 (nI kd) (nI a) b K e := by
  unfold wpk_L_law_388
  have hv := h.2.2.2.1.1
  have t6 : 40 ≤ (tg (la 6)).2 := by rw [hL.1 6 (by decide)]; show 40 ≤ 40 + 6; decide
  obtain ⟨R0, h6⟩ := hL.2.2.2.2.2.2.2
  refine wq_told h (wq_call h hc h6 t6 (fun S37 tg37 f37 hist37 pad37 R37 h37 hh rk ar mm => ?_))
  have hL37 : LWo S37 tg37 x la v := hL.keep6 rk ar
  have m37 : kd = 2 → (wrw b e).length ≤ 24 → ∀ k, k < (wrw b e).length → R37 k = nI ((wrw b e).getD k 0) := mm
  by_cases c : 0 ≤ (cF kd a b e v).1
  · refine br_t c (br_c (fun _ => ?_) (fun _ => ?_))
    · have eh := hh c
      subst eh
      obtain ⟨p1, p2⟩ := pushH_last hist v
      have hle : (pushH hist v).length ≤ 6 := h37.2.2.1.2.1
      refine rc_of h37.2.1 (tk_undo h37 p1 (fun S57 h57 c57 => ?_))
      refine br_f (nI_pos (by omega)) (wq_told h57 (br_t (lg0.mpr rfl) ?_))
      have hL57 : LWo S57 tg37 x la v := hL37.keep (fun b hb hb2 => c57 b hb hb2)
      have t57 : 40 ≤ (tg37 (la 6)).2 := by rw [hL57.1 6 (by decide)]; show 40 ≤ 40 + 6; decide
      have r57 : AF S57 (la 6) 24 R37 := ar.fr (c57 _ ar.live t57).2
      refine wq_call h57 hc r57 t57 (fun S64 tg64 f64 hist64 pad64 R64 h64 _ rk2 ar2 mm2 => br_t rfl ?_)
      exact wq_476 h64 hv hc (hL57.keep6 rk2 ar2) ar2 mm2 hk hK
    · exact wq_476 h37 hv hc hL37 ar m37 hk hK
  · refine br_f c ?_
    have ev := (cF_neg hv hc c).1
    have h37' : TkF S37 tg37 x ad f37 g v hist37 sl pad37 := by rw [ev] at h37; exact h37
    exact wq_told h37' (br_t (lg0.mpr rfl) (wq_476 h37 hv hc hL37 ar m37 hk hK))
theorem wq_194 {kd : Nat} (h : TkF S tg x ad f g v hist sl pad) (hL : LWo S tg x la v) (hk : k < 30) (hkd : kd < 8) (hK : ∀ T, INL T x la → K (nI (k + 1), T)) : wpk_L_law_194 x (la 0) (la 1) (la 2) (la 3) (la 4) (la 5) (la 6) (nI k) S i28 i29 K (nI kd) := by
  have go : ∀ a b e, okC kd a b e → wpk_L_law_388 x (la 0) (la 1) (la 2) (la 3) (la 4) (la 5) (la 6) (nI k) S i28 i29 (nI kd) (nI a) b K e := fun a b e hc => wq_388 h hc hL hk hK
  have a12 := lw_lt (x := i29) (n := 12) (by decide)
  have a6 := lw_lt (x := i29) (n := 6) (by decide)
  have e6 := lw_lt (x := i29 >>> (nI 7 &&& 31)) (n := 6) (by decide)
  have e25 := lw_lt (x := i29 >>> (nI 7 &&& 31)) (n := 25) (by decide)
  have e4 := lw_lt (x := i29 >>> (nI 7 &&& 31)) (n := 4) (by decide)
  have b6 := lw_lt (x := i29 >>> (nI 4 &&& 31)) (n := 6) (by decide)
  have b4 := lw_lt (x := i29 >>> (nI 4 &&& 31)) (n := 4) (by decide)
  have b7 := lw_lt (x := i29 >>> (nI 4 &&& 31)) (n := 7) (by decide)
  have b64 := lw_lt (x := i29 >>> (nI 4 &&& 31)) (n := 64) (by decide)
  have b1000 := lw_lt (x := i29 >>> (nI 4 &&& 31)) (n := 1000) (by decide)
  have s4 := lw_lt (x := i29 >>> (nI 20 &&& 31)) (n := 4) (by decide)
  have s3 := lw_lt (x := i29 >>> (nI 20 &&& 31)) (n := 3) (by decide)
  unfold wpk_L_law_194
  rcases (by omega : kd = 0 ∨ kd = 1 ∨ kd = 2 ∨ kd = 3 ∨ kd = 4 ∨ kd = 5 ∨ kd = 6 ∨ kd = 7) with rfl | rfl | rfl | rfl | rfl | rfl | rfl | rfl
  · refine br_t nI_0 (wq_low (by decide) (by decide) ?_)
    unfold wpk_L_law_225
    refine br_f (by decide) (br_f (by decide) (br_f (by decide) (br_f (by decide) (wq_low (by decide) (by decide) ?_))))
    unfold wpk_L_law_327
    refine br_f (by decide) (br_f (by decide) (wq_low (by decide) (by decide) ?_))
    exact go _ _ _ (Or.inl ⟨rfl, a12, _, b6, rfl⟩)
  · refine br_f (by decide) (br_f (by decide) (wq_low (by decide) (by decide) ?_))
    unfold wpk_L_law_225
    refine br_t rfl (wq_low (by decide) (by decide) ?_)
    unfold wpk_L_law_327
    refine br_f (by decide) (br_f (by decide) (wq_low (by decide) (by decide) ?_))
    exact go _ _ _ (Or.inr (Or.inl ⟨rfl, a6, _, b64, rfl⟩))
  · refine br_f (by decide) (br_f (by decide) (wq_low (by decide) (by decide) ?_))
    unfold wpk_L_law_225
    refine br_f (by decide) (br_t rfl (fun i88 _ => ?_))
    unfold wpk_L_law_327
    refine br_f (by decide) (br_t rfl (fun i71 _ => ?_))
    exact go _ _ _ (Or.inr (Or.inr (Or.inl ⟨rfl, a6⟩)))
  · refine br_f (by decide) (br_f (by decide) (wq_low (by decide) (by decide) ?_))
    unfold wpk_L_law_225
    refine br_f (by decide) (br_f (by decide) (br_f (by decide) (br_f (by decide) (wq_low (by decide) (by decide) ?_))))
    unfold wpk_L_law_327
    refine br_f (by decide) (br_f (by decide) (wq_low (by decide) (by decide) ?_))
    exact go _ _ _ (Or.inr (Or.inr (Or.inr (Or.inl ⟨rfl, a6, _, _, b6, e6, rfl, rfl⟩))))
  · refine br_f (by decide) (br_f (by decide) (wq_low (by decide) (by decide) ?_))
    unfold wpk_L_law_225
    refine br_f (by decide) (br_f (by decide) (br_f (by decide) (br_f (by decide) (wq_low (by decide) (by decide) ?_))))
    unfold wpk_L_law_327
    refine br_f (by decide) (br_f (by decide) (wq_low (by decide) (by decide) ?_))
    exact go _ _ _ (Or.inr (Or.inr (Or.inr (Or.inr (Or.inl ⟨rfl, a6, _, b6, rfl⟩)))))
  · refine br_f (by decide) (br_f (by decide) (wq_low (by decide) (by decide) ?_))
    unfold wpk_L_law_225
    refine br_f (by decide) (br_f (by decide) (br_f (by decide) (br_f (by decide) (wq_low (by decide) (by decide) ?_))))
    unfold wpk_L_law_327
    refine br_t rfl (wq_low (by decide) (by decide) (br_c (fun _ => wq_low (by decide) (by decide) ?_) (fun _ => wq_low (by decide) (by decide) ?_)))
    · exact go _ _ _ (Or.inr (Or.inr (Or.inr (Or.inr (Or.inr (Or.inl ⟨rfl, a6, _, _, b6, Nat.le_of_lt_succ e25, rfl, rfl⟩))))))
    · exact go _ _ _ (Or.inr (Or.inr (Or.inr (Or.inr (Or.inr (Or.inl ⟨rfl, a6, _, _, b6, by omega, rfl, rfl⟩))))))
  · refine br_f (by decide) (br_f (by decide) (wq_low (by decide) (by decide) ?_))
    unfold wpk_L_law_225
    refine br_f (by decide) (br_f (by decide) (br_t rfl (wq_low (by decide) (by decide) (br_c (fun _ => wq_low (by decide) (by decide) ?_) (fun _ => wq_low (by decide) (by decide) ?_)))))
    · intro i87 e87
      rw [e87, nI_add]
      unfold wpk_L_law_327
      refine br_f (by decide) (br_f (by decide) (wq_low (by decide) (by decide) ?_))
      exact go _ _ _ (Or.inr (Or.inr (Or.inr (Or.inr (Or.inr (Or.inr (Or.inl ⟨rfl, a6, _, by omega, by omega, rfl⟩)))))))
    · intro i85 e85
      rw [e85, nI_add]
      unfold wpk_L_law_327
      refine br_f (by decide) (br_f (by decide) (wq_low (by decide) (by decide) ?_))
      exact go _ _ _ (Or.inr (Or.inr (Or.inr (Or.inr (Or.inr (Or.inr (Or.inl ⟨rfl, a6, _, by omega, by omega, rfl⟩)))))))
  · refine br_f (by decide) (br_t rfl (wq_low (by decide) (by decide) ?_))
    unfold wpk_L_law_225
    refine br_f (by decide) (br_f (by decide) (br_f (by decide) (br_t rfl (wq_low (by decide) (by decide) ?_))))
    unfold wpk_L_law_327
    refine br_f (by decide) (br_f (by decide) (wq_low (by decide) (by decide) ?_))
    exact go _ _ _ (Or.inr (Or.inr (Or.inr (Or.inr (Or.inr (Or.inr (Or.inr ⟨rfl, a12, _, b4, rfl⟩)))))))
theorem wq_107 {xs : Nat → Int32} {n0 : Nat} (hI : INL S x la) : ∃ n : Nat, n ≤ 31 ∧ wpL (fun (K107 : (Int32 × PS) → Prop) (q : Int32 × PS) => wpb_L_law_107 xs n0 x (la 0) (la 1) (la 2) (la 3) (la 4) (la 5) (la 6) K107 q.1 q.2) n ((nI 0), S) := by
  refine wpL_fromB 30 (fun _ T => INL T x la) (Nat.zero_le _) (by decide) hI ?_ ?_
  · intro T hT K
    show wpb_L_law_107 _ _ _ _ _ _ _ _ _ _ _ (nI 30) T
    unfold wpb_L_law_107
    exact br_t (nle_re 30) trivial
  · intro k T hk hT K hK
    show wpb_L_law_107 _ _ _ _ _ _ _ _ _ _ _ (nI k) T
    unfold wpb_L_law_107
    obtain ⟨tg, ad, f, g, v, hist, sl, pad, h, hL⟩ := hT
    refine br_f (nle_ge hk (by decide)) ?_
    rw [pk_mul, nI_add]
    refine ⟨nI_pos (by omega), fun i28 _ => ⟨nI_pos (by omega), fun i29 _ => wq_low (by decide) (by decide) ?_⟩⟩
    have hj := lw_lt (x := i28) (n := 14) (by decide)
    generalize lw i28 14 = j at hj ⊢
    rw [nI_leI (by decide) (by omega), nI_leI (by decide) (by omega), nI_leI (by decide) (by omega), nI_leI (by decide) (by omega)]
    have go : ∀ kd, kd < 8 → wpk_L_law_194 x (la 0) (la 1) (la 2) (la 3) (la 4) (la 5) (la 6) (nI k) T i28 i29 K (nI kd) := fun kd hkd => wq_194 h hL hk hkd (fun T' hT' => hK T' hT')
    refine br_c (fun c1 => br_c (fun c2 => br_c (fun c3 => br_c (fun c4 => go 7 (by decide)) (fun c4 => ?_)) (fun c3 => go 2 (by decide))) (fun c2 => go 1 (by decide))) (fun c1 => go 0 (by decide))
    intro i99 e99
    rw [e99, pk_sub (by omega)]
    exact go _ (by omega)
end LK
/-! the start -/
def KE (S : PS) (tg : Nat → Nat × Nat) (S' : PS) (tg' : Nat → Nat × Nat) : Prop := ∀ b, S b ≠ oJ → S' b = S b ∧ tg' b = tg b
theorem KE.tr {S S1 S2 : PS} {tg tg1 tg2 : Nat → Nat × Nat} (h1 : KE S tg S1 tg1) (h2 : KE S1 tg1 S2 tg2) : KE S tg S2 tg2 := fun b hb => by
  obtain ⟨a1, a2⟩ := h1 b hb
  obtain ⟨c1, c2⟩ := h2 b (by rw [a1]; exact hb)
  exact ⟨c1.trans a1, c2.trans a2⟩
def ArT (S : PS) (tg : Nat → Nat × Nat) (a n : Nat) (t : Nat × Nat) : Prop := AF S a n (fun _ => 0) ∧ tg a = t
theorem ArT.ke {S S' : PS} {tg tg' : Nat → Nat × Nat} {a n : Nat} {t : Nat × Nat} (h : ArT S tg a n t) (k : KE S tg S' tg') : ArT S' tg' a n t := by
  obtain ⟨e1, e2⟩ := k a h.1.live
  exact ⟨h.1.fr e1, e2.trans h.2⟩
section LS
variable {S : PS} {tg : Nat → Nat × Nat} {x : Nat} {ad : Nat → Nat} {f g : Nat → Option Nat} {v : LM} {hist : List LM} {sl : Nat → Option LM} {pad : List Nat}
theorem nw_T {n : Nat} {P : Nat → PS → Prop} (t : Nat × Nat) (h : TkF S tg x ad f g v hist sl pad) (hn : n < 1000) (hP : ∀ q S' tg', TkF S' tg' x ad f g v hist sl pad → ArT S' tg' q n t → KE S tg S' tg' → P q S') : nw S (aI n (fun _ => 0)) P := by
  refine nw_AF hn (fun q S' hq hA hf => ?_)
  have k : KE S tg S' (fun b => if b = q then t else tg b) := fun b hb => by
    have := ne_new hb hq
    exact ⟨hf b this, if_neg this⟩
  exact hP q S' _ (h.keep (fun b hb _ => k b hb)) ⟨hA, if_pos rfl⟩ k
theorem DW_nil (j : Nat) : DW [] j = 0 := by
  unfold DW
  rw [encN_ext (g := fun _ => 0) (fun i _ => by unfold dwN; exact if_neg (Nat.not_lt_zero _))]
  rfl
theorem whole_wp (xs : Nat → Int32) (n0 : Nat) : wp_L_law xs n0 (fun _ => oJ) := by
  unfold wp_L_law
  intro x _ S2 e2
  have hx2 : S2 x = .inl (5, [.null, .null, .null, .null, .null, .null]) := by rw [e2]; exact up_s _ _ _
  refine ⟨by rw [hx2]; exact l_ne_oJ (by decide), ?_⟩
  refine tk_new (tg := fun _ => (x, 20)) hx2 rfl (fun S3 tg3 ad h3 _ => ?_)
  refine nw_T (x, 40) h3 (by decide) (fun a5 S6 tg6 h6 r5 k6 => ?_)
  refine nw_T (x, 41) h6 (by decide) (fun a7 S8 tg8 h8 r7 k8 => ?_)
  refine nw_T (x, 42) h8 (by decide) (fun a9 S10 tg10 h10 r9 k10 => ?_)
  refine nw_T (x, 43) h10 (by decide) (fun a11 S12 tg12 h12 r11 k12 => ?_)
  refine nw_T (x, 44) h12 (by decide) (fun a13 S14 tg14 h14 r13 k14 => ?_)
  refine nw_T (x, 45) h14 (by decide) (fun a15 S16 tg16 h16 r15 k16 => ?_)
  refine nw_T (x, 46) h16 (by decide) (fun a17 S18 tg18 h18 r17 k18 => ?_)
  have r15 := r15.ke k18
  have r13 := r13.ke (k16.tr k18)
  have r11 := r11.ke (k14.tr (k16.tr k18))
  have r9 := r9.ke (k12.tr (k14.tr (k16.tr k18)))
  have r7 := r7.ke (k10.tr (k12.tr (k14.tr (k16.tr k18))))
  have r5 := r5.ke (k8.tr (k10.tr (k12.tr (k14.tr (k16.tr k18)))))
  obtain ⟨la, l0, l1, l2, l3, l4, l5, l6⟩ : ∃ la : Nat → Nat, la 0 = a5 ∧ la 1 = a7 ∧ la 2 = a9 ∧ la 3 = a11 ∧ la 4 = a13 ∧ la 5 = a15 ∧ la 6 = a17 := ⟨fun j => [a5, a7, a9, a11, a13, a15, a17].getD j 0, rfl, rfl, rfl, rfl, rfl, rfl, rfl⟩
  subst l0; subst l1; subst l2; subst l3; subst l4; subst l5; subst l6
  have tags : ∀ j, j < 7 → tg18 (la j) = (x, 40 + j) := fun j hj => by
    rcases (by omega : j = 0 ∨ j = 1 ∨ j = 2 ∨ j = 3 ∨ j = 4 ∨ j = 5 ∨ j = 6) with rfl | rfl | rfl | rfl | rfl | rfl | rfl
    · exact r5.2
    · exact r7.2
    · exact r9.2
    · exact r11.2
    · exact r13.2
    · exact r15.2
    · exact r17.2
  have ne : ∀ {i j : Nat}, i < 7 → j < 7 → i ≠ j → la i ≠ la j := fun {i j} hi hj hn => tne (tags i hi) (tags j hj) (pne (by omega))
  have far : ∀ {i b : Nat}, i < 7 → (tg18 b).2 < 40 → b ≠ la i := fun {i b} hi hb e => by
    rw [e, tags i hi] at hb
    exact absurd hb (by show ¬ 40 + i < 40; omega)
  refine wpL_for 12 (fun p T => AF T (la 0) 12 (fun j => if j < p then nI (j % 6) else 0) ∧ AF T (la 2) 12 (fun j => if j < p then nI j else 0) ∧ ∀ b, b ≠ la 0 → b ≠ la 2 → T b = S18 b) ⟨r5.1.ext (fun j _ => (if_neg (Nat.not_lt_zero _)).symm), r9.1.ext (fun j _ => (if_neg (Nat.not_lt_zero _)).symm), fun _ _ _ => rfl⟩ ?_ ?_
  · intro T hT K
    obtain ⟨g1, g2, g3⟩ := hT
    show wpb_L_law_51 _ _ _ _ _ _ _ _ _ _ _ (nI 12) T
    unfold wpb_L_law_51
    refine br_t (nle_re 12) ?_
    have g1 : AN T (la 0) 12 (shF v0) := g1.ext (fun j hj => if_pos hj)
    have g2 : AN T (la 2) 12 (thF v0) := g2.ext (fun j hj => if_pos hj)
    have q7 : AF T (la 1) 6 (fun _ => 0) := r7.1.fr (g3 _ (ne (by decide) (by decide) (by decide)) (ne (by decide) (by decide) (by decide)))
    refine wpL_for 6 (fun k U => AF U (la 1) 6 (fun j => if j < k then nI (2 ^ j) else 0) ∧ ∀ b, b ≠ la 1 → U b = T b) ⟨q7.ext (fun j _ => (if_neg (Nat.not_lt_zero _)).symm), fun _ _ => rfl⟩ ?_ ?_
    · intro U hU K2
      obtain ⟨g4, g5⟩ := hU
      show wpb_L_law_83 _ _ _ _ _ _ _ _ _ _ _ (nI 6) U
      unfold wpb_L_law_83
      refine br_t (nle_re 6) ?_
      have g4 : AN U (la 1) 6 (tiF v0) := g4.ext (fun j hj => if_pos hj)
      have o : ∀ j, j < 7 → j ≠ 0 → j ≠ 1 → j ≠ 2 → U (la j) = S18 (la j) := fun j hj n0 n1 n2 => (g5 _ (ne hj (by decide) n1)).trans (g3 _ (ne hj (by decide) n0) (ne hj (by decide) n2))
      have hU : TkF U tg18 x ad (fun _ => none) (fun _ => none) v0 [] (fun _ => none) [] := h18.keep (fun b _ hb => ⟨(g5 b (far (by decide) hb)).trans (g3 b (far (by decide) hb) (far (by decide) hb)), rfl⟩)
      refine wq_107 (S := U) (x := x) (la := la) ⟨tg18, ad, _, _, v0, [], _, [], hU, tags, g1.fr (g5 _ (ne (by decide) (by decide) (by decide))), g4, g2.fr (g5 _ (ne (by decide) (by decide) (by decide))), ?_, ?_, ?_, _, r17.1.fr (o 6 (by decide) (by decide) (by decide) (by decide))⟩
      · exact (r11.1.fr (o 3 (by decide) (by decide) (by decide) (by decide))).ext (fun j _ => nI_0.symm)
      · refine (r13.1.fr (o 4 (by decide) (by decide) (by decide) (by decide))).ext (fun j _ => ?_)
        unfold nF
        split
        · exact nI_0.symm
        · split
          · exact nI_0.symm
          · exact nI_0.symm
      · refine (r15.1.fr (o 5 (by decide) (by decide) (by decide) (by decide))).ext (fun j _ => ?_)
        show 0 = nI (DW [] (j % 3))
        rw [DW_nil]; exact nI_0.symm
    · intro k U hk hU K2 hK2
      obtain ⟨g4, g5⟩ := hU
      show wpb_L_law_83 _ _ _ _ _ _ _ _ _ _ _ (nI k) U
      unfold wpb_L_law_83
      refine br_f (nle_ge hk (by decide)) (g4.set hk (fun U' d1 d2 => ?_))
      intro i105 e105
      rw [e105, nI_add]
      refine hK2 _ ⟨d1.ext (fun j hj => ?_), fun b hb => (d2 b hb).trans (g5 b hb)⟩
      by_cases z : j = k
      · rw [if_pos z, z, if_pos (Nat.lt_succ_self k), sh1 (by omega)]
      · rw [if_neg z]
        by_cases z2 : j < k
        · rw [if_pos z2, if_pos (by omega)]
        · rw [if_neg z2, if_neg (by omega)]
  · intro p T hp hT K hK
    obtain ⟨g1, g2, g3⟩ := hT
    show wpb_L_law_51 _ _ _ _ _ _ _ _ _ _ _ (nI p) T
    unfold wpb_L_law_51
    have n02 : la 0 ≠ la 2 := ne (by decide) (by decide) (by decide)
    refine br_f (nle_ge hp (by decide)) ?_
    rw [pk_rem (by omega) (by decide) (by decide)]
    refine g1.set hp (fun T1 d1 f1 => (g2.fr (f1 _ (Ne.symm n02))).set hp (fun T2 d2 f2 => ?_))
    intro i115 e115
    rw [e115, nI_add]
    refine hK _ ⟨(d1.fr (f2 _ n02)).ext (fun j hj => ?_), d2.ext (fun j hj => ?_), fun b b0 b2 => (f2 b b2).trans ((f1 b b0).trans (g3 b b0 b2))⟩
    · by_cases z : j = p
      · rw [if_pos z, z, if_pos (Nat.lt_succ_self p)]
      · rw [if_neg z]
        by_cases z2 : j < p
        · rw [if_pos z2, if_pos (by omega)]
        · rw [if_neg z2, if_neg (by omega)]
    · by_cases z : j = p
      · rw [if_pos z, z, if_pos (Nat.lt_succ_self p)]
      · rw [if_neg z]
        by_cases z2 : j < p
        · rw [if_pos z2, if_pos (by omega)]
        · rw [if_neg z2, if_neg (by omega)]
end LS
