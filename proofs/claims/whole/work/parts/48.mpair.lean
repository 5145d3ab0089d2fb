/-! ===== the reference: pair, untilHome, bestDraft ===== -/
section MPR
variable {S0 S S' : PS} {tg : Nat → Nat × Nat} {m : Nat} {bd : Nat → Nat} {A A' : Nat → Nat → Int32} {I I' : Nat → Int32} {v : LM} {hist : List LM} {sl : Nat → Option LM} {pad : List Nat} {P : Int32 → PS → Prop} {Q : Int32 → Prop} {d e : Nat} {a b : Nat → Nat}
def unl (a b : Nat → Nat) (how p : Nat) : Bool := !(((if how = 0 then a p else b (a p)) : Nat) == (if how = 1 then a (b p) else if how = 2 then p else b p))
theorem wp_unlike {how : Nat} (h : MdS S0 S tg m bd A I) (hd : d < 6) (he : e < 6) (ha : PM a) (hb : PM b) (hca : ∀ p, p < 12 → A 6 (12 * d + p) = nI (a p)) (hcb : ∀ p, p < 12 → A 6 (12 * e + p) = nI (b p)) (hh : how < 3) (hQ : Q (nI (bs (unl a b how) 12))) : wp_X8_unlike S m (nI d) (nI e) (nI how) Q := by
  unfold wp_X8_unlike
  refine wpL_for 12 (fun k x => x = nI (bs (unl a b how) k)) rfl ?_ ?_
  · intro x hx K
    show wpb_X8_unlike_6 _ _ _ _ _ _ _ (nI 12) x
    unfold wpb_X8_unlike_6
    exact br_t (nle_re 12) (by rw [hx]; exact hQ)
  · intro k x hk hx K hK
    show wpb_X8_unlike_6 _ _ _ _ _ _ _ (nI k) x
    unfold wpb_X8_unlike_6
    have fin : ∀ {y z : Nat}, y < 12 → z < 12 → (unl a b how k = !(y == z)) → wpk_X8_unlike_78 (nI k) x (nI y) K (nI z) := fun {y z} hy hz hu => by
      unfold wpk_X8_unlike_78
      refine br_c (fun c i13 e13 i14 e14 => ?_) (fun c i11 e11 i12 e12 => ?_)
      · have c := (nI_eq (by omega) (by omega)).mp c
        rw [e14, nI_add, e13, hx, or0, bs_no (by rw [hu, c]; simp)]
        exact hK _ rfl
      · have c : ¬ y = z := fun q => c (by rw [q])
        rw [e12, nI_add, e11, hx, bs_put (by omega) (by rw [hu]; simp [c])]
        exact hK _ rfl
    have hak := ha.1 k hk
    have hbk := hb.1 k hk
    refine br_f (nle_ge hk (by decide)) (rc_of h.ob (wp_cb h hd hk (hca k hk) ?_))
    rcases (by omega : how = 0 ∨ how = 1 ∨ how = 2) with c | c | c
    · subst c
      refine br_f (by decide) (rc_of h.ob (wp_cb h he hk (hcb k hk) ?_))
      unfold wpk_X8_unlike_41
      refine br_t rfl ?_
      unfold wpk_X8_unlike_59
      exact br_f (by decide) (fin hak hbk rfl)
    · subst c
      refine br_f (by decide) (rc_of h.ob (wp_cb h he hk (hcb k hk) ?_))
      unfold wpk_X8_unlike_41
      refine br_f (by decide) (rc_of h.ob (wp_cb h he hak (hcb _ hak) ?_))
      unfold wpk_X8_unlike_59
      exact br_t rfl (rc_of h.ob (wp_cb h hd hbk (hca _ hbk) (fin (hb.1 _ hak) (ha.1 _ hbk) rfl)))
    · subst c
      refine br_t rfl ?_
      unfold wpk_X8_unlike_41
      refine br_f (by decide) (rc_of h.ob (wp_cb h he hak (hcb _ hak) ?_))
      unfold wpk_X8_unlike_59
      exact br_f (by decide) (fin (hb.1 _ hak) hk rfl)
theorem bs0_iff {R : Nat → Bool} : bs R 12 = 0 ↔ ∀ p, p < 12 → R p = false := by
  constructor
  · intro c p hp
    have := bs_bit R 12 p
    rw [c, Nat.zero_testBit] at this
    simp [hp] at this
    exact this
  · intro c
    rw [bs_ext (R := fun _ => false) c, bs_zero]
def nun (a b : Nat → Nat) (how : Nat) : Bool := (List.range 12).all (fun p => !unl a b how p)
theorem nun_iff {a b : Nat → Nat} {how : Nat} : nun a b how = true ↔ ∀ p, p < 12 → unl a b how p = false := by
  unfold nun
  rw [List.all_eq_true]
  exact ⟨fun h p hp => by simpa using h p (List.mem_range.mpr hp), fun h p hp => by simpa using h p (List.mem_range.mp hp)⟩
theorem md_pair_no1 {y z u : Int32} (hb : bad y 6 ∨ bad z 6) (hP : P (-1) S) : wp_X8_pair S m y z u P := wp_isD (fun j hj e => br_f n1z (wp_isD (fun i hi e2 => by
  subst e; subst e2
  rcases hb with c | c
  · exact absurd c (no_bad hj (by decide))
  · exact absurd c (no_bad hi (by decide))) (fun _ => br_t rfl hP))) (fun _ => br_t rfl hP)
theorem md_pair {x : Int32} (h : MdS S0 S tg m bd A I) (hr : RA A I v hist sl pad) (hv : okL v) (hd : d < 6) (he : e < 6) (hn : bad x 4 → P (-2) S) (hP : ∀ S' A' I' (how : Nat), how < 4 → x = nI how → MdS S0 S' tg m bd A' I' → RA A' I' v hist sl pad → P (if how = 3 then nI (bs (unl (wy v d) (wy v e) 0) 12) else nI (b2 (nun (wy v d) (wy v e) how))) S') : wp_X8_pair S m (nI d) (nI e) x P := by
  refine wp_isD (fun _ _ _ => br_f n1z (wp_isD (fun _ _ _ => br_f n1z (wp_win 4 (by decide) (by decide) (fun j hj ej => br_f n1z ?_) (fun b => br_t rfl (hn b)))) (fun b => absurd b (no_bad he (by decide))))) (fun b => absurd b (no_bad hd (by decide)))
  refine rc_of h.ob (wp_lay h hr.1 hv hd (fun S1 F h1 c1 _ => rc_of h1.ob (wp_lay h1 hr.1 hv he (fun S2 G h2 c2 o2 => ?_))))
  rw [va2] at h2
  have hca : ∀ p, p < 12 → va_up A 6 G 6 (12 * d + p) = nI (wy v d p) := fun p hp => by
    show G (12 * d + p) = _
    by_cases z : d = e
    · rw [z]; exact c2 p hp
    · rw [o2 _ (by omega)]; exact c1 p hp
  have hcb : ∀ p, p < 12 → va_up A 6 G 6 (12 * e + p) = nI (wy v e p) := c2
  have hres := hP S2 _ I j hj ej h2 (hr.scr (fun i hi => va_up_ne _ _ (by omega)) rfl rfl)
  rw [ej]
  refine br_c (fun c => ?_) (fun c => ?_)
  · have c := (nI_eq (by omega) (by decide)).mp c
    rw [if_pos c] at hres
    exact rc_of h2.ob (wp_unlike (how := 0) h2 hd he (pmWy v d) (pmWy v e) hca hcb (by decide) hres)
  · have c : ¬ j = 3 := fun z => c (by rw [z])
    rw [if_neg c] at hres
    refine rc_of h2.ob (wp_unlike (how := j) h2 hd he (pmWy v d) (pmWy v e) hca hcb (by omega) ?_)
    have hlt := bs_lt (unl (wy v d) (wy v e) j) 12
    refine br_c (fun g => ?_) (fun g => ?_)
    · have g := bs0_iff.mp ((nI_eq (b := 0) (by omega) (by decide)).mp g)
      rw [nun_iff.mpr g] at hres
      exact hres
    · have : nun (wy v d) (wy v e) j = false := by
        cases z : nun (wy v d) (wy v e) j with
        | false => rfl
        | true => exact absurd (show nI (bs (unl (wy v d) (wy v e) j) 12) = 0 by rw [bs0_iff.mpr (nun_iff.mp z)]; rfl) g
      rw [this] at hres
      exact hres
end MPR
