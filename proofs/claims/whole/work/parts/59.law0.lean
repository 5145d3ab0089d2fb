/-! ===== the law: how it begins (printed in part by wip/whole/gen/emit_law.py) ===== -/
def LA (s : State) : Nat → Prop := fun q => s.heap.size ≤ q
theorem HO.s {D : va_G} {Y : Nat → ClassId} {A : Nat → Prop} {S : PS} {H0 H : Heap} {locs : List Loc} (h : HO D Y A H0 S H locs) : va_S A H0 H locs := by
  obtain ⟨L, h1, h2, h3, h4, h5⟩ := h
  exact h4
theorem HO.void {D : va_G} {Y : Nat → ClassId} {s : State} : HO D Y (LA s) s.heap (fun _ => oJ) s.heap [] := by
  refine ⟨[], fun a h => absurd rfl h, ?_, ?_, va_S.rf, fun q h => h⟩
  · show va_P D vwCl [] s.heap
    exact fun k q h => by simp at h
  · show va_D (LA s) []
    exact ⟨fun i j p q h => by simp at h, fun k q h => by simp at h⟩
section LAW0
variable {p : Program} {l : Launch} {e : Env} {s : State} {m : MethodId} {below : List Frame} {meth : Method} {c : Code} {b L x mm : Nat} {xs : Nat → Int32} {D : va_G} {Y : Nat → ClassId} {i : Int32} {S : PS} {H : Heap} {locs : List Loc} {cells slots : Nat} {Q : State → Prop} {ls : Array Slot}
theorem ld_arg {pc : Nat} {st : List Value} {n : Int} (C : CX p m c cL_law 4 s #[Value.ref b] wsL_law RL D Y) (hX : va_X b L xs s s.heap) (hbl : b < s.heap.size) (hO : HO D Y (LA s) s.heap S H locs) (hl : lv_has ls 4 [(0, .ref b), (1, .ref x), (2, .ref mm), (3, .int i)]) (hin : vp_in (i + Int32.ofInt n) L) (d0 : decode cL_law pc = .ok (.aload_n 0, 1)) (d1 : decode cL_law (pc + 1) = .ok (.iload_n 3, 1)) (d2 : decode cL_law (pc + 1 + 1) = .ok (.iconst n, 1)) (d3 : decode cL_law (pc + 1 + 1 + 1) = .ok (.iadd, 1)) (d4 : decode cL_law (pc + 1 + 1 + 1 + 1) = .ok (.iaload, 1)) (kk : W p l e room_1 s m #[Value.ref b] below meth c H locs cells slots Q (F0 m (pc + 1 + 1 + 1 + 1 + 1) ls (.int (xs (i + Int32.ofInt n).toNatClampNeg) :: st))) : W p l e room_1 s m #[Value.ref b] below meth c H locs cells slots Q (F0 m pc ls st) := by
  obtain ⟨hx, hb, hml, hown, hts⟩ := C.1
  refine lv_aload_n hx hb d0 rfl (lv_at hl 0 rfl) ?_
  refine lv_iload_n hx hb d1 rfl (lv_at hl 3 rfl) ?_
  refine lv_iconst (v := Int32.ofInt n) hx hb d2 rfl ?_
  refine lv_iadd hx hb d3 ?_
  exact va_sld hx hb hX hbl (Nat.not_le.mpr hbl) hO.s hin d4 kk
end LAW0
theorem nz_in : ∀ q ∈ nzL, Cond.methodLinkNest q.1 q.2.1 q.2.2.1 q.2.2.2 ∈ lw_tbl := by decide +kernel
theorem law_NZ {s : State} {args : Array Value} (hT : ∀ w ∈ lw_tbl, w.before args s = true) : NZ s := ⟨fun q hq => va_Nw.of rfl (hT _ (nz_in q hq)), va_AO.of (hT (.arrayOver (.object RX0)) (by decide +kernel)), va_AO.of (hT (.arrayOver (.object RX1)) (by decide +kernel))⟩
theorem arr_c {s : State} {args : Array Value} (h : (Cond.arrayClass .char).before args s = true) : ∃ cA, ArrOfT s cA .char ∧ va_RA s cA .char := by
  obtain ⟨cA, kA, comp, h1, h2, h3⟩ := Cond.arrayClass_spec h
  exact ⟨cA, fun n z => ⟨(fun k h => by cases h), kA, h2, comp, h3⟩, h1⟩
theorem arr_i {s : State} {args : Array Value} (h : (Cond.arrayClass .int).before args s = true) : ∃ cA, ArrOfT s cA .int ∧ va_RA s cA .int := by
  obtain ⟨cA, kA, comp, h1, h2, h3⟩ := Cond.arrayClass_spec h
  exact ⟨cA, fun n z => ⟨(fun k h => by cases h), kA, h2, comp, h3⟩, h1⟩
theorem arr_l {s : State} {args : Array Value} (h : (Cond.arrayClass .long).before args s = true) : ∃ cA, ArrOfT s cA .long ∧ va_RA s cA .long := by
  obtain ⟨cA, kA, comp, h1, h2, h3⟩ := Cond.arrayClass_spec h
  exact ⟨cA, fun n z => ⟨(fun k h => by cases h), kA, h2, comp, h3⟩, h1⟩
theorem arr_o {s : State} {C : String} (h : va_AO C s) : ∃ cA, ArrOfT s cA (.object C) ∧ va_RA s cA (.object C) := by
  obtain ⟨comp, cA, kA, h1, h2, h3, h4, h5⟩ := Cond.arrayOver_spec h
  exact ⟨cA, fun n z => ⟨(fun k h => by cases h), kA, h3, comp, h4⟩, kA, comp, h3, h4, h1, h5⟩
theorem law_K {s : State} {args : Array Value} (hT : ∀ w ∈ lw_tbl, w.before args s = true) : ∃ (D : va_G) (Y : Nat → ClassId), va_K D vwCl (pTys Y) s := by
  have hz := law_NZ hT
  obtain ⟨c0, i0, k0⟩ := u_known (C := RX0) (T := TX0) (N := 2) (n := 2) hT wsL_in_x0 (hT (.instantiable RX0 2) (by decide +kernel))
  obtain ⟨c1, i1, k1⟩ := u_known (C := RX1) (T := TX1) (N := 7) (n := 7) hT wsL_in_x1 (hT (.instantiable RX1 7) (by decide +kernel))
  obtain ⟨c2, i2, k2⟩ := u_known (C := RX2) (T := TX2) (N := 2) (n := 2) hT wsL_in_x2 (hT (.instantiable RX2 2) (by decide +kernel))
  obtain ⟨c3, i3, k3⟩ := u_known (C := RX3) (T := TX3) (N := 2) (n := 2) hT wsL_in_x3 (hT (.instantiable RX3 2) (by decide +kernel))
  obtain ⟨c5, i5, k5⟩ := u_known (C := RX5) (T := TX5) (N := 5) (n := 5) hT wsL_in_x5 (hT (.instantiable RX5 5) (by decide +kernel))
  obtain ⟨c7, i7, k7⟩ := u_known (C := RX7) (T := TX7) (N := 6) (n := 6) hT wsL_in_x7 (hT (.instantiable RX7 6) (by decide +kernel))
  obtain ⟨c8, i8, k8⟩ := u_known (C := RX8) (T := TX8) (N := 15) (n := 15) hT wsL_in_x8 (hT (.instantiable RX8 15) (by decide +kernel))
  obtain ⟨y0, a0⟩ := arr_c (hT (.arrayClass .char) (by decide +kernel))
  obtain ⟨y1, a1⟩ := arr_i (hT (.arrayClass .int) (by decide +kernel))
  obtain ⟨y2, a2⟩ := arr_l (hT (.arrayClass .long) (by decide +kernel))
  obtain ⟨y3, a3⟩ := arr_o hz.2.1
  obtain ⟨y4, a4⟩ := arr_o hz.2.2
  refine ⟨(fun k => [c0, c1, c2, c3, c5, c7, c8].getD k c0, fun k => [i0, i1, i2, i3, i5, i7, i8].getD k i0), fun k => [y0, y1, y2, y3, y4].getD k y0, fun k q hq => ?_, fun k q hq => ?_⟩
  · match k, hq with
    | 0, hq => cases hq; exact k0
    | 1, hq => cases hq; exact k1
    | 2, hq => cases hq; exact k2
    | 3, hq => cases hq; exact k3
    | 4, hq => cases hq; exact k5
    | 5, hq => cases hq; exact k7
    | 6, hq => cases hq; exact k8
    | k + 7, hq => simp [vwCl] at hq
  · match k, hq with
    | 0, hq => cases hq; exact a0
    | 1, hq => cases hq; exact a1
    | 2, hq => cases hq; exact a2
    | 3, hq => cases hq; exact a3
    | 4, hq => cases hq; exact a4
    | k + 5, hq => simp [pTys] at hq
