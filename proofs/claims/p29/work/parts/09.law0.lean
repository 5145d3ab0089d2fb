/-! ===== the law: how it begins (printed by wip/p29/gen/emit_law.py) ===== -/
def LA (s : State) : Nat → Prop := fun q => s.heap.size ≤ q
theorem HO.s {D : va_G} {Y : Nat → ClassId} {A : Nat → Prop} {S : PS} {H0 H : Heap} {locs : List Loc} (h : HO D Y A H0 S H locs) : va_S A H0 H locs := by
  obtain ⟨L, h1, h2, h3, h4, h5⟩ := h
  exact h4
theorem HO.void {D : va_G} {Y : Nat → ClassId} {s : State} : HO D Y (LA s) s.heap (fun _ => oJ) s.heap [] := by
  refine ⟨[], fun a h => absurd rfl h, ?_, ?_, va_S.rf, fun q h => h⟩
  · show va_P D vwCl [] s.heap
    exact fun k q h => by simp at h
  · show va_D (LA s) []
    exact ⟨fun i j p q h => by simp at h, fun k q h => by simp at h⟩
theorem nz_in : ∀ q ∈ nzL, Cond.methodLinkNest q.1 q.2.1 q.2.2.1 q.2.2.2 ∈ lw_tbl := by decide +kernel
theorem law_NZ {s : State} {args : Array Value} (hT : ∀ w ∈ lw_tbl, w.before args s = true) : NZ s := ⟨fun q hq => va_Nw.of rfl (hT _ (nz_in q hq)), va_AO.of (hT (.arrayOver (.object RX0)) (by decide +kernel)), va_AO.of (hT (.arrayOver (.object RX1)) (by decide +kernel))⟩
theorem arr_c {s : State} {args : Array Value} (h : (Cond.arrayClass .char).before args s = true) : ∃ cA, ArrOfT s cA .char ∧ va_RA s cA .char := by
  obtain ⟨cA, kA, comp, h1, h2, h3⟩ := Cond.arrayClass_spec h
  exact ⟨cA, fun n z => ⟨(fun k h => by cases h), kA, h2, comp, h3⟩, h1⟩
theorem arr_i {s : State} {args : Array Value} (h : (Cond.arrayClass .int).before args s = true) : ∃ cA, ArrOfT s cA .int ∧ va_RA s cA .int := by
  obtain ⟨cA, kA, comp, h1, h2, h3⟩ := Cond.arrayClass_spec h
  exact ⟨cA, fun n z => ⟨(fun k h => by cases h), kA, h2, comp, h3⟩, h1⟩
theorem arr_l {s : State} {args : Array Value} (h : (Cond.arrayClass .long).before args s = true) : ∃ cA, ArrOfT s cA .long ∧ va_RA s cA .long := by
  obtain ⟨cA, kA, comp, h1, h2, h3⟩ := Cond.arrayClass_spec h
  exact ⟨cA, fun n z => ⟨(fun k h => by cases h), kA, h2, comp, h3⟩, h1⟩
theorem arr_o {s : State} {C : String} (h : va_AO C s) : ∃ cA, ArrOfT s cA (.object C) ∧ va_RA s cA (.object C) := by
  obtain ⟨comp, cA, kA, h1, h2, h3, h4, h5⟩ := Cond.arrayOver_spec h
  exact ⟨cA, fun n z => ⟨(fun k h => by cases h), kA, h3, comp, h4⟩, kA, comp, h3, h4, h1, h5⟩
theorem law_K {s : State} {args : Array Value} (hT : ∀ w ∈ lw_tbl, w.before args s = true) : ∃ (D : va_G) (Y : Nat → ClassId), va_K D vwCl (pTys Y) s := by
  have hz := law_NZ hT
  obtain ⟨c0, i0, k0⟩ := u_known (C := RX0) (T := TX0) (N := 2) (n := 2) hT wsL_in_x0 (hT (.instantiable RX0 2) (by decide +kernel))
  obtain ⟨c1, i1, k1⟩ := u_known (C := RX1) (T := TX1) (N := 7) (n := 7) hT wsL_in_x1 (hT (.instantiable RX1 7) (by decide +kernel))
  obtain ⟨c2, i2, k2⟩ := u_known (C := RX2) (T := TX2) (N := 2) (n := 2) hT wsL_in_x2 (hT (.instantiable RX2 2) (by decide +kernel))
  obtain ⟨c3, i3, k3⟩ := u_known (C := RX3) (T := TX3) (N := 2) (n := 2) hT wsL_in_x3 (hT (.instantiable RX3 2) (by decide +kernel))
  obtain ⟨c5, i5, k5⟩ := u_known (C := RX5) (T := TX5) (N := 5) (n := 5) hT wsL_in_x5 (hT (.instantiable RX5 5) (by decide +kernel))
  obtain ⟨c7, i7, k7⟩ := u_known (C := RX7) (T := TX7) (N := 6) (n := 6) hT wsL_in_x7 (hT (.instantiable RX7 6) (by decide +kernel))
  obtain ⟨y0, a0⟩ := arr_c (hT (.arrayClass .char) (by decide +kernel))
  obtain ⟨y1, a1⟩ := arr_i (hT (.arrayClass .int) (by decide +kernel))
  obtain ⟨y2, a2⟩ := arr_l (hT (.arrayClass .long) (by decide +kernel))
  obtain ⟨y3, a3⟩ := arr_o hz.2.1
  obtain ⟨y4, a4⟩ := arr_o hz.2.2
  refine ⟨(fun k => [c0, c1, c2, c3, c5, c7].getD k c0, fun k => [i0, i1, i2, i3, i5, i7].getD k i0), fun k => [y0, y1, y2, y3, y4].getD k y0, fun k q hq => ?_, fun k q hq => ?_⟩
  · match k, hq with
    | 0, hq => cases hq; exact k0
    | 1, hq => cases hq; exact k1
    | 2, hq => cases hq; exact k2
    | 3, hq => cases hq; exact k3
    | 4, hq => cases hq; exact k5
    | 5, hq => cases hq; exact k7
    | k + 6, hq => simp [vwCl] at hq
  · match k, hq with
    | 0, hq => cases hq; exact a0
    | 1, hq => cases hq; exact a1
    | 2, hq => cases hq; exact a2
    | 3, hq => cases hq; exact a3
    | 4, hq => cases hq; exact a4
    | k + 5, hq => simp [pTys] at hq

/-! the law's own script, and its method 'cell' -/
def XC (b n0 : Nat) (xs : Nat → Int32) : State → Prop := fun U => va_X b n0 xs U U.heap ∧ b < U.heap.size
theorem XC.blind {b n0 : Nat} {xs : Nat → Int32} {As : List Value} : FrameBlind (va_Pc As (XC b n0 xs)) := fun _ U g mk q => ⟨q.1, va_X.moved (u := U) (U := U.calling g mk _) (Vm.Alike.refl U.vm) q.2.1, q.2.2⟩
theorem hdS_L_cell : yL_cell.cls ≠ "java/lang/invoke/MethodHandle" ∧ yL_cell.cls ≠ "java/lang/invoke/VarHandle" ∧ (parseMethodDescriptor yL_cell.desc).map (fun d => d.parameters.length) = some 2 := by decide +kernel
set_option maxHeartbeats 4000000 in
set_option maxRecDepth 100000 in
theorem c_L_cell (l : Launch) (b n0 : Nat) (xs : Nat → Int32) (k : Int32) (hn : n0 < 2 ^ 31) (hk : ¬ k < 0) : Met l yL_cell wsL_cell ({ frames := 0, cells := 0, slots := 0, locals := 0 }) (va_Pc [.ref b, .int k] (XC b n0 xs)) (vp_Si (fun r => r = clF xs n0 k)) 0 0 (fun _ => False) := by
  refine Met.ofW (cc := cL_cell) (maxL := 2) (ret := (some .int)) (by decide) rfl ?_
  intro p e s m args below meth c s₁ B hml hv
  obtain ⟨rfl, hX, hbl⟩ := hv
  have hx := B.exec
  have hb := B.bytes
  have hr := B.returns
  have hts := atoms_spec (ws := wsL_cell) B.pre
  have hown : s.vm.findClass RL = some m.cls := findClass_of_methodNamed B.named
  have hlocks := B.notSynchronized
  have hl := lv_entry ([.ref b, .int k]) (n := 2) (Nat.le_of_ble_eq_true rfl)
  rw [lg_entry_eq]
  generalize (lg_sl ([.ref b, .int k]) ++ List.replicate (2 - (lg_sl ([.ref b, .int k])).length) Slot.unset).toArray = ls at hl ⊢
  have hl : lv_has ls 2 [(0, .ref b), (1, .int k)] := hl
  refine lv_iload_n hx hb dL_cell_0 rfl (lv_at hl 1 rfl) ?_
  refine lv_aload_n hx hb dL_cell_1 rfl (lv_at hl 0 rfl) ?_
  refine va_slen (A := fun _ => False) hx hb hX hbl (fun h => h) va_S.rf dL_cell_2 ?_
  refine lv_icmp_ge (tgt := 12) hx hb dL_cell_3 (by decide) (fun c1 => ?_) (fun c1 => ?_)
  · have c1 : nI n0 ≤ k := c1
    have e : clF xs n0 k = (38971 : Int32) * (k + nI 5) + (2839497 : Int32) := if_pos c1
    refine lv_ldc hx hb hown (hts _ (List.mem_of_getElem? (i := 1) (by decide +kernel : wsL_cell[1]? = some (Cond.constant RL 7 (38971))))) dL_cell_12 ?_
    refine lv_iload_n hx hb dL_cell_14 rfl (lv_at hl 1 rfl) ?_
    refine lv_iconst (v := nI 5) hx hb dL_cell_15 (by decide) ?_
    refine lv_iadd hx hb dL_cell_16 ?_
    refine lv_imul hx hb dL_cell_17 ?_
    refine lv_ldc hx hb hown (hts _ (List.mem_of_getElem? (i := 2) (by decide +kernel : wsL_cell[2]? = some (Cond.constant RL 8 (2839497))))) dL_cell_18 ?_
    refine lv_iadd hx hb dL_cell_20 ?_
    exact W.iret hx hb hr (fun t ht hW => ⟨_, rfl, e.symm, ht⟩) no_locs dL_cell_21
  · have c1 : ¬ nI n0 ≤ k := c1
    have e : clF xs n0 k = xs k.toNatClampNeg := if_neg c1
    have hin : vp_in k n0 := by
      rcases pk_ix k hn with g | g | ⟨j, hj, e⟩
      · exact absurd g hk
      · exact absurd g c1
      · subst e; exact vp_in_nI hj hn
    refine lv_aload_n hx hb dL_cell_6 rfl (lv_at hl 0 rfl) ?_
    refine lv_iload_n hx hb dL_cell_7 rfl (lv_at hl 1 rfl) ?_
    refine va_sld (A := fun _ => False) hx hb hX hbl (fun h => h) va_S.rf hin dL_cell_8 ?_
    refine lv_goto (tgt := 21) hx hb dL_cell_9 (by decide) ?_
    exact W.iret hx hb hr (fun t ht hW => ⟨_, rfl, e.symm, ht⟩) no_locs dL_cell_21
section CELL
variable {p : Program} {l : Launch} {e : Env} {R : Room} {s : State} {m : MethodId} {args : Array Value} {below : List Frame} {meth : Method} {c : Code} {H : Heap} {locs : List Loc} {cells slots : Nat} {Q : State → Prop}
variable {cc : ByteArray} {nL pc index b n0 : Nat} {xs : Nat → Int32} {Ts : List Cond} {own : String} {A : Nat → Prop} {ls : Array Slot} {rest st0 : List Value}
theorem cS_cell {k : Int32} (CF : CallFix p m c cc nL s args Ts own) (hX : va_X b n0 xs s s.heap) (hbl : b < s.heap.size) (hbA : ¬ A b) (hS : va_S A s.heap H locs) (hn : n0 < 2 ^ 31) (hk : ¬ k < 0) (cw : CallB R s args own index yL_cell cL_cell 2 (some .int) wsL_cell ({ frames := 0, cells := 0, slots := 0, locals := 0 }) 0 0 2 ∧ (Cond.static yL_cell).before args s = true) (hst : st0 = .int k :: .ref b :: rest) (hsize : ls.size = nL) (hW : (rest.map fun v => v.category).sum ≤ 8) (hdg : decode cc pc = .ok (.invokestatic index, 3)) (hf : cells + 0 ≤ R.cells ∧ slots + 0 ≤ R.slots)
    (kk : W p l e R s m args below meth c H locs cells slots Q (F0 m (pc + 3) ls (.int (clF xs n0 k) :: rest))) : W p l e R s m args below meth c H locs cells slots Q (F0 m pc ls st0) := by
  have hH : H[b]? = s.heap[b]? := hS.2.1 b hbl hbA
  refine vp_callSi (va_Run.run (va_runS (As := [.ref b, .int k]) (g := F0 m pc ls st0) CF (c_L_cell l b n0 xs k hn hk) cw ⟨XC.blind, fun U hU hW => ⟨rfl, ?_, ?_⟩⟩ rfl rfl hsize hst (lv_room hW) hdg hf)) (fun r h => by rw [h]; exact kk)
  · rw [hU]; exact va_X.moved hW.alike (va_X.kept hX hH)
  · rw [hU]; exact Nat.lt_of_lt_of_le hbl hS.1
end CELL
