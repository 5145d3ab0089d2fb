section MRQ
variable {S0 S S' : PS} {tg : Nat → Nat × Nat} {m : Nat} {bd : Nat → Nat} {A A' : Nat → Nat → Int32} {I I' : Nat → Int32} {v : LM} {hist : List LM} {sl : Nat → Option LM} {pad : List Nat} {P : Int32 → PS → Prop} {Q : Int32 → Prop} {d : Nat}
theorem same_iff {w : Nat → Nat} (hw : PM w) (k : Nat) : (∀ p, p < 12 → coF v (mv (thF v) (itr w k) p) = coF v (thF v p)) ↔ ∀ p, p < 12 → cbp v (itr w k p) = cbp v p := mv_same (f := cbp v) (hw.it k)
theorem wp_repeats {w : Nat → Nat} (h : MdS S0 S tg m bd A I) (hA : ∀ k, k < 194 → A 0 k = stn v k) (hv : okL v) (hd : d < 6) (hw : PM w) (hc : ∀ p, p < 12 → A 6 (12 * d + p) = nI (w p)) (hP : ∀ S' A', MdS S0 S' tg m bd A' I → (∀ i, i < 6 → A' i = A i) → P (nI (tua (cbp v) w)) S') : wp_X8_repeats S m (nI d) P := by
  obtain ⟨t1, t2, t3, t4⟩ := tua_spec (cbp v) hw
  generalize tua (cbp v) w = T at *
  unfold wp_X8_repeats
  refine rc_of h.ob (wp_take (v := v) h hA (fun S1 G h1 c1 => ?_))
  have key : ∀ e k S2 B, k + e = T → MdS S0 S2 tg m bd B I → (∀ i, i < 7 → B i = A i) → (∀ p, p < 12 → B 7 p = nI (mv (thF v) (itr w k) p)) → ∀ r : Int32, (k < T → r = nI 0) → (k = T → r = nI 1) → wpL (fun (K8 : (Int32 × Int32 × PS) → Prop) (q : Int32 × Int32 × PS) => wpb_X8_repeats_8 m (nI d) P K8 q.1 q.2.1 q.2.2) (e + 1) (r, nI k, S2) := by
    intro e
    induction e with
    | zero =>
      intro k S2 B hk h2 b1 b2 r r0 r1
      show wpb_X8_repeats_8 _ _ _ _ r (nI k) S2
      unfold wpb_X8_repeats_8
      have ek : k = T := hk
      rw [r1 ek, ek]
      exact br_f n1z (hP S2 B h2 (fun i hi => b1 i (by omega)))
    | succ e ih =>
      intro k S2 B hk h2 b1 b2 r r0 r1
      show wpb_X8_repeats_8 _ _ _ _ r (nI k) S2
      unfold wpb_X8_repeats_8
      rw [r0 (by omega)]
      refine br_t rfl (rc_of h2.ob (wp_once h2 hd hw (fun p hp => by rw [b1 6 (by decide)]; exact hc p hp) b2 (fun S3 F G2 h3 c3 i11 e11 => ?_)))
      have k1 : ∀ i, i < 7 → va_up (va_up B 8 G2) 7 F i = A i := fun i hi => by rw [va_up_ne _ _ (by omega), va_up_ne _ _ (by omega)]; exact b1 i hi
      have k2 : ∀ p, p < 12 → va_up (va_up B 8 G2) 7 F 7 p = nI (mv (thF v) (itr w (k + 1)) p) := fun p hp => by
        show F p = _
        rw [c3 p hp, mv_mv (hw.it k) hw hp]; rfl
      rw [e11, nI_add]
      refine rc_of h3.ob (wp_same h3 (fun q hq => by rw [k1 0 (by decide)]; exact hA q hq) hv k2 (mv_lt hv.2.2.1.1 (hw.it (k + 1))) (fun c => ?_) (fun c => ?_))
      · refine ih (k + 1) S3 _ (by omega) h3 k1 k2 _ (fun z => ?_) (fun _ => rfl)
        exact absurd ((same_iff hw (k + 1)).mp c) (t4 (k + 1) (by omega) z)
      · refine ih (k + 1) S3 _ (by omega) h3 k1 k2 _ (fun _ => rfl) (fun z => ?_)
        exact absurd ((same_iff hw (k + 1)).mpr (by rw [z]; exact t3)) c
  refine ⟨T + 1, key T 0 S1 _ (by omega) h1 (fun i hi => va_up_ne _ _ (by omega)) (fun p hp => ?_) (nI 0) (fun _ => rfl) (fun c => by omega)⟩
  show G p = nI (mv (thF v) (fun q => q) p)
  rw [c1 p hp, mv_id _ hp]
end MRQ
