theorem NZ.blind {As : List Value} : FrameBlind (va_Pc As NZ) := fun _ U g mk q => ⟨q.1, NZ.same (u := U) (U := U.calling g mk _) rfl q.2⟩
theorem PrO.blind {D : va_G} {Y : Nat → ClassId} {L : List Nat} {S : PS} {sz : Nat} {As : List Value} : FrameBlind (va_Pc As (PrO D Y L S sz)) := fun a U g mk q => by
  obtain ⟨q0, q1, q2, q3, q4, q5, q6⟩ := q
  exact ⟨q0, q1, q2, q3, va_K.moved (u := U) (U := U.calling g mk a) (Vm.Alike.refl U.vm) q4, q5, NZ.same (u := U) (U := U.calling g mk a) rfl q6⟩
theorem pw_lift {D : va_G} {Y : Nat → ClassId} {A : Nat → Prop} {s : State} {L : List Nat} {S : PS} {H : Heap} (hL : ∀ a, S a ≠ oJ → a ∈ L) (hP : va_P D vwCl (pW Y L S) H) (hD : va_D A (pW Y L S)) (hK : va_K D vwCl (pTys Y) s) (hZ : NZ s) : ∀ U : State, U.heap = H → s.WarmedH U.vm → PrO D Y L S H.size U := fun U hU hW => ⟨by rw [hU], hL, by rw [hU]; exact hP, va_K.moved hW.alike hK, hD.weaken (fun _ _ _ _ => trivial), hZ.warm hW⟩
section CALLS
variable {p : Program} {l : Launch} {e : Env} {R : Room} {s : State} {m : MethodId} {args : Array Value} {below : List Frame} {meth : Method} {c : Code} {H H0 : Heap} {locs : List Loc} {cells slots : Nat} {Q : State → Prop}
variable {cc : ByteArray} {nL pc index n mc ms maxL : Nat} {Ts ws : List Cond} {own host : String} {D : va_G} {Y : Nat → ClassId} {A : Nat → Prop} {S : PS} {ls : Array Slot} {rest st0 As : List Value} {b : Nat} {y : MethodName} {bytes : ByteArray} {ret : Option FieldType} {rm : Room}
theorem HO.entry {sz : Nat} {L : List Nat} (hsz : s.heap.size = sz) (hJ : ∀ a, S a ≠ oJ → a ∈ L) (hP : va_P D vwCl (pW Y L S) s.heap) (hD : va_D (fun _ => True) (pW Y L S)) : HO D Y (fR L sz) s.heap S s.heap [] := ⟨L, hJ, hP, hD.weaken (fun k q hk _ => Or.inl (pW_in hk)), va_S.rf, fun q h => Or.inr (by rw [← hsz]; exact h)⟩
theorem HO.q {t : State} (hO : HO D Y A H0 S H locs) (ht : t.heap = H) : QtO D Y A S t := by
  obtain ⟨L, hL, hP, hD, -⟩ := hO
  exact ⟨L, hL, by rw [ht]; exact hP, hD⟩
theorem HO.f {t : State} (hO : HO D Y A s.heap S H locs) (ht : t.heap = H) : va_F A s t := by
  obtain ⟨L, hL, hP, hD, hS, hA⟩ := hO
  exact hS.F ht
theorem HO.lc (hO : HO D Y A H0 S H locs) : ∀ q ∈ locs, A q.base := by
  obtain ⟨L, hL, hP, hD, hS, hA⟩ := hO
  exact hS.2.2
theorem no_locs {A : Nat → Prop} : ∀ q ∈ ([] : List Loc), A q.base := fun q h => by cases h
theorem cS_si (CF : CallFix p m c cc nL s args Ts own) (hZ : NZ s) {Post : Int32 → Prop} (cM : Met l y ws rm (va_Pc As NZ) (vp_Si Post) 0 0 (fun _ => False)) (cw : CallB R s args own index y bytes maxL ret ws rm 0 0 n ∧ (Cond.static y).before args s = true) (hn : As.length = n) (hsize : ls.size = nL) (hst : st0 = As.reverse ++ rest) (hW : (rest.map fun v => v.category).sum ≤ 8) (hdg : decode cc pc = .ok (.invokestatic index, 3)) (hf : cells + 0 ≤ R.cells ∧ slots + 0 ≤ R.slots)
    (kk : ∀ r : Int32, Post r → W p l e R s m args below meth c H locs cells slots Q (F0 m (pc + 3) ls (.int r :: rest))) : W p l e R s m args below meth c H locs cells slots Q (F0 m pc ls st0) :=
  vp_callSi (va_Run.run (va_runS (g := F0 m pc ls st0) CF cM cw ⟨NZ.blind, fun U _ hW => ⟨rfl, hZ.warm hW⟩⟩ rfl hn hsize hst (lv_room hW) hdg hf)) kk
theorem cN_si (CF : CallFix p m c cc nL s args Ts own) (hZ : NZ s) {Post : Int32 → Prop} (cM : Met l y ws rm (va_Pc As NZ) (vp_Si Post) 0 0 (fun _ => False)) (cw : va_CN R s args own index y host bytes maxL ret ws rm 0 0 n ∧ (Cond.static y).before args s = true ∧ True) (hn : As.length = n) (hsize : ls.size = nL) (hst : st0 = As.reverse ++ rest) (hW : (rest.map fun v => v.category).sum ≤ 8) (hdg : decode cc pc = .ok (.invokestatic index, 3)) (hf : cells + 0 ≤ R.cells ∧ slots + 0 ≤ R.slots)
    (kk : ∀ r : Int32, Post r → W p l e R s m args below meth c H locs cells slots Q (F0 m (pc + 3) ls (.int r :: rest))) : W p l e R s m args below meth c H locs cells slots Q (F0 m pc ls st0) :=
  vp_callSi (va_Run.run (va_runSN (g := F0 m pc ls st0) CF cM cw ⟨NZ.blind, fun U _ hW => ⟨rfl, hZ.warm hW⟩⟩ rfl hn hsize hst (lv_room hW) hdg hf)) kk
theorem cV_ri (C : CX p m c cc nL s args Ts own D Y) (hO : HO D Y A H0 S H locs) {Post : Int32 → Prop} (cM : ∀ L, Met l y ws rm (va_Pc (.ref b :: As) (PrO D Y L S H.size)) (vp_Si Post) 0 0 (fun _ => False)) (ci : Nat) {q : vw_C} {fs : List Value} (hc : vwCl[ci]? = some q) (hb : S b = .inl (ci, fs)) (cw : CallW R s args own q.1 index y bytes maxL ret ws rm 0 0 n) (hn : As.length = n) (hsize : ls.size = nL) (hst : st0 = As.reverse ++ .ref b :: rest) (hW : (rest.map fun v => v.category).sum ≤ 8) (hdg : decode cc pc = .ok (.invokevirtual index, 3)) (hf : cells + 0 ≤ R.cells ∧ slots + 0 ≤ R.slots)
    (kk : ∀ r : Int32, Post r → W p l e R s m args below meth c H locs cells slots Q (F0 m (pc + 3) ls (.int r :: rest))) : W p l e R s m args below meth c H locs cells slots Q (F0 m pc ls st0) := by
  obtain ⟨L, hL, hP, hD, hS, hA⟩ := hO
  obtain ⟨k0, hk0⟩ := pW_at (Y := Y) (hL b (ne_oJ hc hb)) hb
  exact vp_callSi (va_Run.run (va_runV (g := F0 m pc ls st0) C.1 (cM L) cw ⟨PrO.blind, va_recv C.2.1 hP hc hk0, fun U hU hW => ⟨rfl, pw_lift hL hP hD C.2.1 C.2.2 U hU hW⟩⟩ rfl hn hsize hst (lv_room hW) hdg hf)) kk
theorem cS_sl (CF : CallFix p m c cc nL s args Ts own) (hZ : NZ s) {Post : Int64 → Prop} (cM : Met l y ws rm (va_Pc As NZ) (vp_Sl Post) 0 0 (fun _ => False)) (cw : CallB R s args own index y bytes maxL ret ws rm 0 0 n ∧ (Cond.static y).before args s = true) (hn : As.length = n) (hsize : ls.size = nL) (hst : st0 = As.reverse ++ rest) (hW : (rest.map fun v => v.category).sum ≤ 8) (hdg : decode cc pc = .ok (.invokestatic index, 3)) (hf : cells + 0 ≤ R.cells ∧ slots + 0 ≤ R.slots)
    (kk : ∀ r : Int64, Post r → W p l e R s m args below meth c H locs cells slots Q (F0 m (pc + 3) ls (.long r :: rest))) : W p l e R s m args below meth c H locs cells slots Q (F0 m pc ls st0) :=
  vp_callSl (va_Run.run (va_runS (g := F0 m pc ls st0) CF cM cw ⟨NZ.blind, fun U _ hW => ⟨rfl, hZ.warm hW⟩⟩ rfl hn hsize hst (lv_room hW) hdg hf)) kk
theorem cN_sl (CF : CallFix p m c cc nL s args Ts own) (hZ : NZ s) {Post : Int64 → Prop} (cM : Met l y ws rm (va_Pc As NZ) (vp_Sl Post) 0 0 (fun _ => False)) (cw : va_CN R s args own index y host bytes maxL ret ws rm 0 0 n ∧ (Cond.static y).before args s = true ∧ True) (hn : As.length = n) (hsize : ls.size = nL) (hst : st0 = As.reverse ++ rest) (hW : (rest.map fun v => v.category).sum ≤ 8) (hdg : decode cc pc = .ok (.invokestatic index, 3)) (hf : cells + 0 ≤ R.cells ∧ slots + 0 ≤ R.slots)
    (kk : ∀ r : Int64, Post r → W p l e R s m args below meth c H locs cells slots Q (F0 m (pc + 3) ls (.long r :: rest))) : W p l e R s m args below meth c H locs cells slots Q (F0 m pc ls st0) :=
  vp_callSl (va_Run.run (va_runSN (g := F0 m pc ls st0) CF cM cw ⟨NZ.blind, fun U _ hW => ⟨rfl, hZ.warm hW⟩⟩ rfl hn hsize hst (lv_room hW) hdg hf)) kk
theorem cV_rl (C : CX p m c cc nL s args Ts own D Y) (hO : HO D Y A H0 S H locs) {Post : Int64 → Prop} (cM : ∀ L, Met l y ws rm (va_Pc (.ref b :: As) (PrO D Y L S H.size)) (vp_Sl Post) 0 0 (fun _ => False)) (ci : Nat) {q : vw_C} {fs : List Value} (hc : vwCl[ci]? = some q) (hb : S b = .inl (ci, fs)) (cw : CallW R s args own q.1 index y bytes maxL ret ws rm 0 0 n) (hn : As.length = n) (hsize : ls.size = nL) (hst : st0 = As.reverse ++ .ref b :: rest) (hW : (rest.map fun v => v.category).sum ≤ 8) (hdg : decode cc pc = .ok (.invokevirtual index, 3)) (hf : cells + 0 ≤ R.cells ∧ slots + 0 ≤ R.slots)
    (kk : ∀ r : Int64, Post r → W p l e R s m args below meth c H locs cells slots Q (F0 m (pc + 3) ls (.long r :: rest))) : W p l e R s m args below meth c H locs cells slots Q (F0 m pc ls st0) := by
  obtain ⟨L, hL, hP, hD, hS, hA⟩ := hO
  obtain ⟨k0, hk0⟩ := pW_at (Y := Y) (hL b (ne_oJ hc hb)) hb
  exact vp_callSl (va_Run.run (va_runV (g := F0 m pc ls st0) C.1 (cM L) cw ⟨PrO.blind, va_recv C.2.1 hP hc hk0, fun U hU hW => ⟨rfl, pw_lift hL hP hD C.2.1 C.2.2 U hU hW⟩⟩ rfl hn hsize hst (lv_room hW) hdg hf)) kk
theorem cV_rq (C : CX p m c cc nL s args Ts own D Y) (hO : HO D Y A H0 S H locs) {Post : Option Nat → Prop} (cM : ∀ L, Met l y ws rm (va_Pc (.ref b :: As) (PrO D Y L S H.size)) (va_Sq Post) 0 0 (fun _ => False)) (ci : Nat) {q : vw_C} {fs : List Value} (hc : vwCl[ci]? = some q) (hb : S b = .inl (ci, fs)) (cw : CallW R s args own q.1 index y bytes maxL ret ws rm 0 0 n) (hn : As.length = n) (hsize : ls.size = nL) (hst : st0 = As.reverse ++ .ref b :: rest) (hW : (rest.map fun v => v.category).sum ≤ 8) (hdg : decode cc pc = .ok (.invokevirtual index, 3)) (hf : cells + 0 ≤ R.cells ∧ slots + 0 ≤ R.slots)
    (kk : ∀ r : Option Nat, Post r → W p l e R s m args below meth c H locs cells slots Q (F0 m (pc + 3) ls (va_rf r :: rest))) : W p l e R s m args below meth c H locs cells slots Q (F0 m pc ls st0) := by
  obtain ⟨L, hL, hP, hD, hS, hA⟩ := hO
  obtain ⟨k0, hk0⟩ := pW_at (Y := Y) (hL b (ne_oJ hc hb)) hb
  exact va_csq (va_Run.run (va_runV (g := F0 m pc ls st0) C.1 (cM L) cw ⟨PrO.blind, va_recv C.2.1 hP hc hk0, fun U hU hW => ⟨rfl, pw_lift hL hP hD C.2.1 C.2.2 U hU hW⟩⟩ rfl hn hsize hst (lv_room hW) hdg hf)) kk
theorem cV_wi (C : CX p m c cc nL s args Ts own D Y) (hO : HO D Y A H0 S H locs) {Post : Int32 → PS → Prop} (cM : ∀ L, Met l y ws rm (va_Pc (.ref b :: As) (PrO D Y L S H.size)) (va_Qi Post (QtO D Y (fR L H.size)) (fR L H.size)) mc ms (fR L H.size)) (ci : Nat) {q : vw_C} {fs : List Value} (hc : vwCl[ci]? = some q) (hb : S b = .inl (ci, fs)) (cw : CallW R s args own q.1 index y bytes maxL ret ws rm mc ms n) (hn : As.length = n) (hsize : ls.size = nL) (hst : st0 = As.reverse ++ .ref b :: rest) (hW : (rest.map fun v => v.category).sum ≤ 8) (hdg : decode cc pc = .ok (.invokevirtual index, 3)) (hf : cells + mc ≤ R.cells ∧ slots + ms ≤ R.slots)
    (kk : ∀ (r : Int32) (S1 : PS) (H1 : Heap) (locs1 : List Loc), Post r S1 → HO D Y A H0 S1 H1 locs1 → W p l e R s m args below meth c H1 locs1 (cells + mc) (slots + ms) Q (F0 m (pc + 3) ls (.int r :: rest))) : W p l e R s m args below meth c H locs cells slots Q (F0 m pc ls st0) := by
  obtain ⟨L, hL, hP, hD, hS0, hA⟩ := hO
  obtain ⟨k0, hk0⟩ := pW_at (Y := Y) (hL b (ne_oJ hc hb)) hb
  have hF := fR_of hD (sz := H.size) (fun x hx => hA x (Nat.le_trans hS0.1 hx))
  exact va_calli (va_runV (g := F0 m pc ls st0) C.1 (cM L) cw ⟨PrO.blind, va_recv C.2.1 hP hc hk0, fun U hU hW => ⟨rfl, pw_lift hL hP hD C.2.1 C.2.2 U hU hW⟩⟩ rfl hn hsize hst (lv_room hW) hdg hf) hS0 (fun q _ h => hF q h) hF (fun r u t H1 locs1 ht hvm hp hq hz hk hS => by
    obtain ⟨L1, hL1, hP1, hD1⟩ := hq
    rw [ht] at hP1
    exact kk r u H1 locs1 hp ⟨L1, hL1, hP1, hD1.weaken (fun _ _ _ h => fR_of hD (fun x hx => hA x (Nat.le_trans hS0.1 hx)) _ h), hS, hA⟩)
theorem cV_wl (C : CX p m c cc nL s args Ts own D Y) (hO : HO D Y A H0 S H locs) {Post : Int64 → PS → Prop} (cM : ∀ L, Met l y ws rm (va_Pc (.ref b :: As) (PrO D Y L S H.size)) (va_Ql Post (QtO D Y (fR L H.size)) (fR L H.size)) mc ms (fR L H.size)) (ci : Nat) {q : vw_C} {fs : List Value} (hc : vwCl[ci]? = some q) (hb : S b = .inl (ci, fs)) (cw : CallW R s args own q.1 index y bytes maxL ret ws rm mc ms n) (hn : As.length = n) (hsize : ls.size = nL) (hst : st0 = As.reverse ++ .ref b :: rest) (hW : (rest.map fun v => v.category).sum ≤ 8) (hdg : decode cc pc = .ok (.invokevirtual index, 3)) (hf : cells + mc ≤ R.cells ∧ slots + ms ≤ R.slots)
    (kk : ∀ (r : Int64) (S1 : PS) (H1 : Heap) (locs1 : List Loc), Post r S1 → HO D Y A H0 S1 H1 locs1 → W p l e R s m args below meth c H1 locs1 (cells + mc) (slots + ms) Q (F0 m (pc + 3) ls (.long r :: rest))) : W p l e R s m args below meth c H locs cells slots Q (F0 m pc ls st0) := by
  obtain ⟨L, hL, hP, hD, hS0, hA⟩ := hO
  obtain ⟨k0, hk0⟩ := pW_at (Y := Y) (hL b (ne_oJ hc hb)) hb
  have hF := fR_of hD (sz := H.size) (fun x hx => hA x (Nat.le_trans hS0.1 hx))
  exact va_calll (va_runV (g := F0 m pc ls st0) C.1 (cM L) cw ⟨PrO.blind, va_recv C.2.1 hP hc hk0, fun U hU hW => ⟨rfl, pw_lift hL hP hD C.2.1 C.2.2 U hU hW⟩⟩ rfl hn hsize hst (lv_room hW) hdg hf) hS0 (fun q _ h => hF q h) hF (fun r u t H1 locs1 ht hvm hp hq hz hk hS => by
    obtain ⟨L1, hL1, hP1, hD1⟩ := hq
    rw [ht] at hP1
    exact kk r u H1 locs1 hp ⟨L1, hL1, hP1, hD1.weaken (fun _ _ _ h => fR_of hD (fun x hx => hA x (Nat.le_trans hS0.1 hx)) _ h), hS, hA⟩)
theorem cV_wv (C : CX p m c cc nL s args Ts own D Y) (hO : HO D Y A H0 S H locs) {Post : PS → Prop} (cM : ∀ L, Met l y ws rm (va_Pc (.ref b :: As) (PrO D Y L S H.size)) (va_Qv Post (QtO D Y (fR L H.size)) (fR L H.size)) mc ms (fR L H.size)) (ci : Nat) {q : vw_C} {fs : List Value} (hc : vwCl[ci]? = some q) (hb : S b = .inl (ci, fs)) (cw : CallW R s args own q.1 index y bytes maxL ret ws rm mc ms n) (hn : As.length = n) (hsize : ls.size = nL) (hst : st0 = As.reverse ++ .ref b :: rest) (hW : (rest.map fun v => v.category).sum ≤ 8) (hdg : decode cc pc = .ok (.invokevirtual index, 3)) (hf : cells + mc ≤ R.cells ∧ slots + ms ≤ R.slots)
    (kk : ∀ (S1 : PS) (H1 : Heap) (locs1 : List Loc), Post S1 → HO D Y A H0 S1 H1 locs1 → W p l e R s m args below meth c H1 locs1 (cells + mc) (slots + ms) Q (F0 m (pc + 3) ls (rest))) : W p l e R s m args below meth c H locs cells slots Q (F0 m pc ls st0) := by
  obtain ⟨L, hL, hP, hD, hS0, hA⟩ := hO
  obtain ⟨k0, hk0⟩ := pW_at (Y := Y) (hL b (ne_oJ hc hb)) hb
  have hF := fR_of hD (sz := H.size) (fun x hx => hA x (Nat.le_trans hS0.1 hx))
  exact va_callv (va_runV (g := F0 m pc ls st0) C.1 (cM L) cw ⟨PrO.blind, va_recv C.2.1 hP hc hk0, fun U hU hW => ⟨rfl, pw_lift hL hP hD C.2.1 C.2.2 U hU hW⟩⟩ rfl hn hsize hst (lv_room hW) hdg hf) hS0 (fun q _ h => hF q h) hF (fun u t H1 locs1 ht hvm hp hq hz hk hS => by
    obtain ⟨L1, hL1, hP1, hD1⟩ := hq
    rw [ht] at hP1
    exact kk u H1 locs1 hp ⟨L1, hL1, hP1, hD1.weaken (fun _ _ _ h => fR_of hD (fun x hx => hA x (Nat.le_trans hS0.1 hx)) _ h), hS, hA⟩)
theorem cI_wv (C : CX p m c cc nL s args Ts own D Y) (hO : HO D Y A H0 S H locs) {Post : PS → Prop} (cM : ∀ L, Met l y ws rm (va_Pc (.ref b :: As) (PrO D Y L S H.size)) (va_Qv Post (QtO D Y (fR L H.size)) (fR L H.size)) mc ms (fR L H.size)) (hb : S b ≠ oJ) (cw : CallB R s args own index y bytes maxL none ws rm mc ms n ∧ y.name = "<init>" ∧ (Cond.instanceMethod y).before args s = true) (hn : As.length = n) (hsize : ls.size = nL) (hst : st0 = As.reverse ++ .ref b :: rest) (hW : (rest.map fun v => v.category).sum ≤ 8) (hdg : decode cc pc = .ok (.invokespecial index, 3)) (hf : cells + mc ≤ R.cells ∧ slots + ms ≤ R.slots)
    (kk : ∀ (S1 : PS) (H1 : Heap) (locs1 : List Loc), Post S1 → HO D Y A H0 S1 H1 locs1 → W p l e R s m args below meth c H1 locs1 (cells + mc) (slots + ms) Q (F0 m (pc + 3) ls (rest))) : W p l e R s m args below meth c H locs cells slots Q (F0 m pc ls st0) := by
  obtain ⟨L, hL, hP, hD, hS0, hA⟩ := hO
  have hF := fR_of hD (sz := H.size) (fun x hx => hA x (Nat.le_trans hS0.1 hx))
  exact va_callv (va_runI (g := F0 m pc ls st0) C.1 (cM L) cw ⟨PrO.blind, fun U hU hW => ⟨rfl, pw_lift hL hP hD C.2.1 C.2.2 U hU hW⟩⟩ rfl hn hsize hst (lv_room hW) hdg hf) hS0 (fun q _ h => hF q h) hF (fun u t H1 locs1 ht hvm hp hq hz hk hS => by
    obtain ⟨L1, hL1, hP1, hD1⟩ := hq
    rw [ht] at hP1
    exact kk u H1 locs1 hp ⟨L1, hL1, hP1, hD1.weaken (fun _ _ _ h => fR_of hD (fun x hx => hA x (Nat.le_trans hS0.1 hx)) _ h), hS, hA⟩)
theorem cIN_wv (C : CX p m c cc nL s args Ts own D Y) (hO : HO D Y A H0 S H locs) {Post : PS → Prop} (cM : ∀ L, Met l y ws rm (va_Pc (.ref b :: As) (PrO D Y L S H.size)) (va_Qv Post (QtO D Y (fR L H.size)) (fR L H.size)) mc ms (fR L H.size)) (hb : S b ≠ oJ) (cw : va_CN R s args own index y host bytes maxL none ws rm mc ms n ∧ y.name = "<init>" ∧ (Cond.instanceMethod y).before args s = true) (hn : As.length = n) (hsize : ls.size = nL) (hst : st0 = As.reverse ++ .ref b :: rest) (hW : (rest.map fun v => v.category).sum ≤ 8) (hdg : decode cc pc = .ok (.invokespecial index, 3)) (hf : cells + mc ≤ R.cells ∧ slots + ms ≤ R.slots)
    (kk : ∀ (S1 : PS) (H1 : Heap) (locs1 : List Loc), Post S1 → HO D Y A H0 S1 H1 locs1 → W p l e R s m args below meth c H1 locs1 (cells + mc) (slots + ms) Q (F0 m (pc + 3) ls (rest))) : W p l e R s m args below meth c H locs cells slots Q (F0 m pc ls st0) := by
  obtain ⟨L, hL, hP, hD, hS0, hA⟩ := hO
  have hF := fR_of hD (sz := H.size) (fun x hx => hA x (Nat.le_trans hS0.1 hx))
  exact va_callv (va_runIN (g := F0 m pc ls st0) C.1 (cM L) cw ⟨PrO.blind, fun U hU hW => ⟨rfl, pw_lift hL hP hD C.2.1 C.2.2 U hU hW⟩⟩ rfl hn hsize hst (lv_room hW) hdg hf) hS0 (fun q _ h => hF q h) hF (fun u t H1 locs1 ht hvm hp hq hz hk hS => by
    obtain ⟨L1, hL1, hP1, hD1⟩ := hq
    rw [ht] at hP1
    exact kk u H1 locs1 hp ⟨L1, hL1, hP1, hD1.weaken (fun _ _ _ h => fR_of hD (fun x hx => hA x (Nat.le_trans hS0.1 hx)) _ h), hS, hA⟩)
theorem lp_P {σ : Type} {body : (σ → Prop) → σ → Prop} {n : Nat} {s0 : σ} (lvOf : σ → List (Nat × Value)) (h : wpL body n s0) (hl : lv_has ls nL (lvOf s0)) (step : ∀ K : σ → Prop, (∀ (q : σ) (ls : Array Slot), K q → lv_has ls nL (lvOf q) → W p l e R s m args below meth c H locs cells slots Q (F0 m pc ls [])) → ∀ (q : σ) (ls : Array Slot), body K q → lv_has ls nL (lvOf q) → W p l e R s m args below meth c H locs cells slots Q (F0 m pc ls [])) : W p l e R s m args below meth c H locs cells slots Q (F0 m pc ls []) := by
  have key : ∀ (n : Nat) (q : σ) (ls : Array Slot), wpL body n q → lv_has ls nL (lvOf q) → W p l e R s m args below meth c H locs cells slots Q (F0 m pc ls []) := by
    intro n
    induction n with
    | zero => intro q ls h; exact h.elim
    | succ n ih => intro q ls h hl; exact step (wpL body n) ih q ls h hl
  exact key n s0 ls h hl
theorem lp_W {σ : Type} {body : (σ → Prop) → σ → Prop} {n : Nat} {s0 : σ} (lvOf : σ → List (Nat × Value)) (Sof : σ → PS) (h : wpL body n s0) (hl : lv_has ls nL (lvOf s0)) (hO : HO D Y A H0 (Sof s0) H locs) (step : ∀ K : σ → Prop, (∀ (q : σ) (ls : Array Slot) (H : Heap) (locs : List Loc), K q → lv_has ls nL (lvOf q) → HO D Y A H0 (Sof q) H locs → W p l e R s m args below meth c H locs cells slots Q (F0 m pc ls [])) → ∀ (q : σ) (ls : Array Slot) (H : Heap) (locs : List Loc), body K q → lv_has ls nL (lvOf q) → HO D Y A H0 (Sof q) H locs → W p l e R s m args below meth c H locs cells slots Q (F0 m pc ls [])) : W p l e R s m args below meth c H locs cells slots Q (F0 m pc ls []) := by
  have key : ∀ (n : Nat) (q : σ) (ls : Array Slot) (H : Heap) (locs : List Loc), wpL body n q → lv_has ls nL (lvOf q) → HO D Y A H0 (Sof q) H locs → W p l e R s m args below meth c H locs cells slots Q (F0 m pc ls []) := by
    intro n
    induction n with
    | zero => intro q ls H locs h; exact h.elim
    | succ n ih => intro q ls H locs h hl hO; exact step (wpL body n) ih q ls H locs h hl hO
  exact key n s0 ls H locs h hl hO
theorem cut_P {σ : Type} (k : σ → Prop) (lvOf : σ → List (Nat × Value)) (pc1 : Nat) {g : JFrame} (h1 : ∀ (q : σ) (ls : Array Slot), k q → lv_has ls nL (lvOf q) → W p l e R s m args below meth c H locs cells slots Q (F0 m pc1 ls [])) (h2 : (∀ (q : σ) (ls : Array Slot), k q → lv_has ls nL (lvOf q) → W p l e R s m args below meth c H locs cells slots Q (F0 m pc1 ls [])) → W p l e R s m args below meth c H locs cells slots Q g) : W p l e R s m args below meth c H locs cells slots Q g := h2 h1
theorem cut_W {σ : Type} (D : va_G) (Y : Nat → ClassId) (A : Nat → Prop) (H0 : Heap) (k : σ → Prop) (lvOf : σ → List (Nat × Value)) (Sof : σ → PS) (pc1 : Nat) {g : JFrame} (h1 : ∀ (q : σ) (ls : Array Slot) (H : Heap) (locs : List Loc), k q → lv_has ls nL (lvOf q) → HO D Y A H0 (Sof q) H locs → W p l e R s m args below meth c H locs cells slots Q (F0 m pc1 ls [])) (h2 : (∀ (q : σ) (ls : Array Slot) (H : Heap) (locs : List Loc), k q → lv_has ls nL (lvOf q) → HO D Y A H0 (Sof q) H locs → W p l e R s m args below meth c H locs cells slots Q (F0 m pc1 ls [])) → W p l e R s m args below meth c H locs cells slots Q g) : W p l e R s m args below meth c H locs cells slots Q g := h2 h1
theorem cS_ri (C : CX p m c cc nL s args Ts own D Y) (hO : HO D Y A H0 S H locs) {Post : Int32 → Prop} (cM : ∀ L, Met l y ws rm (va_Pc As (PrO D Y L S H.size)) (vp_Si Post) 0 0 (fun _ => False)) (cw : CallB R s args own index y bytes maxL ret ws rm 0 0 n ∧ (Cond.static y).before args s = true) (hn : As.length = n) (hsize : ls.size = nL) (hst : st0 = As.reverse ++ rest) (hW : (rest.map fun v => v.category).sum ≤ 8) (hdg : decode cc pc = .ok (.invokestatic index, 3)) (hf : cells + 0 ≤ R.cells ∧ slots + 0 ≤ R.slots)
    (kk : ∀ r : Int32, Post r → W p l e R s m args below meth c H locs cells slots Q (F0 m (pc + 3) ls (.int r :: rest))) : W p l e R s m args below meth c H locs cells slots Q (F0 m pc ls st0) := by
  obtain ⟨L, hL, hP, hD, hS, hA⟩ := hO
  exact vp_callSi (va_Run.run (va_runS (g := F0 m pc ls st0) C.1 (cM L) cw ⟨PrO.blind, fun U hU hW => ⟨rfl, pw_lift hL hP hD C.2.1 C.2.2 U hU hW⟩⟩ rfl hn hsize hst (lv_room hW) hdg hf)) kk
theorem cS_rl (C : CX p m c cc nL s args Ts own D Y) (hO : HO D Y A H0 S H locs) {Post : Int64 → Prop} (cM : ∀ L, Met l y ws rm (va_Pc As (PrO D Y L S H.size)) (vp_Sl Post) 0 0 (fun _ => False)) (cw : CallB R s args own index y bytes maxL ret ws rm 0 0 n ∧ (Cond.static y).before args s = true) (hn : As.length = n) (hsize : ls.size = nL) (hst : st0 = As.reverse ++ rest) (hW : (rest.map fun v => v.category).sum ≤ 8) (hdg : decode cc pc = .ok (.invokestatic index, 3)) (hf : cells + 0 ≤ R.cells ∧ slots + 0 ≤ R.slots)
    (kk : ∀ r : Int64, Post r → W p l e R s m args below meth c H locs cells slots Q (F0 m (pc + 3) ls (.long r :: rest))) : W p l e R s m args below meth c H locs cells slots Q (F0 m pc ls st0) := by
  obtain ⟨L, hL, hP, hD, hS, hA⟩ := hO
  exact vp_callSl (va_Run.run (va_runS (g := F0 m pc ls st0) C.1 (cM L) cw ⟨PrO.blind, fun U hU hW => ⟨rfl, pw_lift hL hP hD C.2.1 C.2.2 U hU hW⟩⟩ rfl hn hsize hst (lv_room hW) hdg hf)) kk
theorem cS_wi (C : CX p m c cc nL s args Ts own D Y) (hO : HO D Y A H0 S H locs) {Post : Int32 → PS → Prop} (cM : ∀ L, Met l y ws rm (va_Pc As (PrO D Y L S H.size)) (va_Qi Post (QtO D Y (fR L H.size)) (fR L H.size)) mc ms (fR L H.size)) (cw : CallB R s args own index y bytes maxL ret ws rm mc ms n ∧ (Cond.static y).before args s = true) (hn : As.length = n) (hsize : ls.size = nL) (hst : st0 = As.reverse ++ rest) (hW : (rest.map fun v => v.category).sum ≤ 8) (hdg : decode cc pc = .ok (.invokestatic index, 3)) (hf : cells + mc ≤ R.cells ∧ slots + ms ≤ R.slots)
    (kk : ∀ (r : Int32) (S1 : PS) (H1 : Heap) (locs1 : List Loc), Post r S1 → HO D Y A H0 S1 H1 locs1 → W p l e R s m args below meth c H1 locs1 (cells + mc) (slots + ms) Q (F0 m (pc + 3) ls (.int r :: rest))) : W p l e R s m args below meth c H locs cells slots Q (F0 m pc ls st0) := by
  obtain ⟨L, hL, hP, hD, hS0, hA⟩ := hO
  have hF := fR_of hD (sz := H.size) (fun x hx => hA x (Nat.le_trans hS0.1 hx))
  exact va_calli (va_runS (g := F0 m pc ls st0) C.1 (cM L) cw ⟨PrO.blind, fun U hU hW => ⟨rfl, pw_lift hL hP hD C.2.1 C.2.2 U hU hW⟩⟩ rfl hn hsize hst (lv_room hW) hdg hf) hS0 (fun q _ h => hF q h) hF (fun r u t H1 locs1 ht hvm hp hq hz hk hS => by
    obtain ⟨L1, hL1, hP1, hD1⟩ := hq
    rw [ht] at hP1
    exact kk r u H1 locs1 hp ⟨L1, hL1, hP1, hD1.weaken (fun _ _ _ h => fR_of hD (fun x hx => hA x (Nat.le_trans hS0.1 hx)) _ h), hS, hA⟩)
theorem cS_wv (C : CX p m c cc nL s args Ts own D Y) (hO : HO D Y A H0 S H locs) {Post : PS → Prop} (cM : ∀ L, Met l y ws rm (va_Pc As (PrO D Y L S H.size)) (va_Qv Post (QtO D Y (fR L H.size)) (fR L H.size)) mc ms (fR L H.size)) (cw : CallB R s args own index y bytes maxL ret ws rm mc ms n ∧ (Cond.static y).before args s = true) (hn : As.length = n) (hsize : ls.size = nL) (hst : st0 = As.reverse ++ rest) (hW : (rest.map fun v => v.category).sum ≤ 8) (hdg : decode cc pc = .ok (.invokestatic index, 3)) (hf : cells + mc ≤ R.cells ∧ slots + ms ≤ R.slots)
    (kk : ∀ (S1 : PS) (H1 : Heap) (locs1 : List Loc), Post S1 → HO D Y A H0 S1 H1 locs1 → W p l e R s m args below meth c H1 locs1 (cells + mc) (slots + ms) Q (F0 m (pc + 3) ls (rest))) : W p l e R s m args below meth c H locs cells slots Q (F0 m pc ls st0) := by
  obtain ⟨L, hL, hP, hD, hS0, hA⟩ := hO
  have hF := fR_of hD (sz := H.size) (fun x hx => hA x (Nat.le_trans hS0.1 hx))
  exact va_callv (va_runS (g := F0 m pc ls st0) C.1 (cM L) cw ⟨PrO.blind, fun U hU hW => ⟨rfl, pw_lift hL hP hD C.2.1 C.2.2 U hU hW⟩⟩ rfl hn hsize hst (lv_room hW) hdg hf) hS0 (fun q _ h => hF q h) hF (fun u t H1 locs1 ht hvm hp hq hz hk hS => by
    obtain ⟨L1, hL1, hP1, hD1⟩ := hq
    rw [ht] at hP1
    exact kk u H1 locs1 hp ⟨L1, hL1, hP1, hD1.weaken (fun _ _ _ h => fR_of hD (fun x hx => hA x (Nat.le_trans hS0.1 hx)) _ h), hS, hA⟩)
theorem lp_WA {σ : Type} {body : (σ → Prop) → σ → Prop} {s0 : σ} (N dc ds : Nat) (lvOf : σ → List (Nat × Value)) (Sof : σ → PS) (h : ∃ n, n ≤ N ∧ wpL body n s0) (hl : lv_has ls nL (lvOf s0)) (hO : HO D Y A H0 (Sof s0) H locs) (step : ∀ (cz sz : Nat), cz + dc ≤ cells + N * dc → sz + ds ≤ slots + N * ds → ∀ K : σ → Prop, (∀ (q : σ) (ls : Array Slot) (H : Heap) (locs : List Loc), K q → lv_has ls nL (lvOf q) → HO D Y A H0 (Sof q) H locs → W p l e R s m args below meth c H locs (cz + dc) (sz + ds) Q (F0 m pc ls [])) → ∀ (q : σ) (ls : Array Slot) (H : Heap) (locs : List Loc), body K q → lv_has ls nL (lvOf q) → HO D Y A H0 (Sof q) H locs → W p l e R s m args below meth c H locs cz sz Q (F0 m pc ls [])) : W p l e R s m args below meth c H locs cells slots Q (F0 m pc ls []) := by
  have key : ∀ (n : Nat), n ≤ N → ∀ (q : σ) (ls : Array Slot) (H : Heap) (locs : List Loc), wpL body n q → lv_has ls nL (lvOf q) → HO D Y A H0 (Sof q) H locs → W p l e R s m args below meth c H locs (cells + (N - n) * dc) (slots + (N - n) * ds) Q (F0 m pc ls []) := by
    intro n
    induction n with
    | zero => intro hn q ls H locs h; exact h.elim
    | succ n ih =>
      intro hn q ls H locs h hl hO
      have e : N - n = (N - (n + 1)) + 1 := by omega
      have e1 : (N - n) * dc = (N - (n + 1)) * dc + dc := by rw [e, Nat.succ_mul]
      have e2 : (N - n) * ds = (N - (n + 1)) * ds + ds := by rw [e, Nat.succ_mul]
      have l1 : (N - n) * dc ≤ N * dc := Nat.mul_le_mul_right _ (Nat.sub_le _ _)
      have l2 : (N - n) * ds ≤ N * ds := Nat.mul_le_mul_right _ (Nat.sub_le _ _)
      have ih := ih (by omega)
      rw [e1, e2, ← Nat.add_assoc, ← Nat.add_assoc] at ih
      exact step _ _ (by omega) (by omega) (wpL body n) ih q ls H locs h hl hO
  obtain ⟨n, hn, h⟩ := h
  refine W.widen (k := cells + (N - n) * dc) (n := slots + (N - n) * ds) (Nat.le_add_right _ _) (Nat.le_add_right _ _) ?_
  exact key n hn s0 ls H locs h hl hO
theorem cut_WA {σ : Type} (D : va_G) (Y : Nat → ClassId) (A : Nat → Prop) (H0 : Heap) (c1 s1 : Nat) (k : σ → Prop) (lvOf : σ → List (Nat × Value)) (Sof : σ → PS) (pc1 : Nat) {g : JFrame} (h1 : ∀ (q : σ) (ls : Array Slot) (H : Heap) (locs : List Loc), k q → lv_has ls nL (lvOf q) → HO D Y A H0 (Sof q) H locs → W p l e R s m args below meth c H locs c1 s1 Q (F0 m pc1 ls [])) (h2 : (∀ (q : σ) (ls : Array Slot) (H : Heap) (locs : List Loc), k q → lv_has ls nL (lvOf q) → HO D Y A H0 (Sof q) H locs → W p l e R s m args below meth c H locs c1 s1 Q (F0 m pc1 ls [])) → W p l e R s m args below meth c H locs cells slots Q g) : W p l e R s m args below meth c H locs cells slots Q g := h2 h1
end CALLS
