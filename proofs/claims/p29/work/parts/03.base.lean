/-! ===== the heap as the proofs see it: an object of a class (its number in vwCl, its fields) or an array (its kind, length, contents) by address ===== -/
abbrev Ob : Type := (Nat × List Value) ⊕ (Nat × vp_A)
abbrev PS : Type := Nat → Ob
def oJ : Ob := .inl (99, [])
def cv (Y : Nat → ClassId) : Ob → va_E := fun o => match o with
  | .inl x => .inr x
  | .inr x => .inl (Y x.1, x.2)
def pW (Y : Nat → ClassId) (L : List Nat) (S : PS) : va_W := [] ++ va_pl L (fun a => cv Y (S a))
def pTys (Y : Nat → ClassId) : List (ClassId × FieldType) := [(Y 0, .char), (Y 1, .int), (Y 2, .long), (Y 3, .object RX0), (Y 4, .object RX1)]
abbrev aC (n : Nat) (f : Nat → Int32) : Ob := .inr (0, n, .inl f)
abbrev aI (n : Nat) (f : Nat → Int32) : Ob := .inr (1, n, .inl f)
abbrev aJ (n : Nat) (f : Nat → Int64) : Ob := .inr (2, n, .inr (.inl f))
abbrev aD (n : Nat) (f : Nat → Option Nat) : Ob := .inr (3, n, .inr (.inr (.inr (.inr f))))
abbrev aL (n : Nat) (f : Nat → Option Nat) : Ob := .inr (4, n, .inr (.inr (.inr (.inr f))))
/-- the private members of nest mates, the arrays of references: what the tables say of them -/
def nzL : List (String × Nat × MethodName × String) := [(RX1, 44, yX0_init, RX7), (RX7, 18, yX3_init, RX7), (RX7, 29, yX2_init, RX7), (RX7, 36, yX5_init, RX7), (RX7, 43, yX0_init, RX7), (RX3, 24, yX7_isBelow, RX7), (RX1, 55, yX7_isBelow, RX7), (RX1, 63, yX7_hasBit, RX7), (RX0, 19, yX7_isBelow, RX7), (RX6, 17, yX7_hasBit, RX7), (RX5, 28, yX7_isBelow, RX7), (RX5, 50, yX7_hasBit, RX7), (RX2, 25, yX7_isBelow, RX7)]
def NZ (U : State) : Prop := (∀ q ∈ nzL, va_Nw (.methodLinkNest q.1 q.2.1 q.2.2.1 q.2.2.2) U) ∧ va_AO RX0 U ∧ va_AO RX1 U
theorem NZ.warm {s U : State} (hW : s.WarmedH U.vm) (h : NZ s) : NZ U := ⟨fun q hq => va_Nw.warmM hW (h.1 q hq), va_AO.moved hW.alike h.2.1, va_AO.moved hW.alike h.2.2⟩
theorem NZ.same {u U : State} (e : u.vm = U.vm) (h : NZ u) : NZ U := ⟨fun q hq => va_Nw.same rfl e (h.1 q hq), va_AO.moved (by rw [e]; exact Vm.Alike.refl _) h.2.1, va_AO.moved (by rw [e]; exact Vm.Alike.refl _) h.2.2⟩
theorem NZ.nest {U : State} (h : NZ U) (k : Nat) {q : String × Nat × MethodName × String} (hk : nzL[k]? = some q) : va_Nw (.methodLinkNest q.1 q.2.1 q.2.2.1 q.2.2.2) U := h.1 q (List.mem_of_getElem? hk)
def fR (L : List Nat) (sz : Nat) : Nat → Prop := fun q => q ∈ L ∨ sz ≤ q
def HO (D : va_G) (Y : Nat → ClassId) (A : Nat → Prop) (H0 : Heap) (S : PS) (H : Heap) (locs : List Loc) : Prop := ∃ L : List Nat, (∀ a, S a ≠ oJ → a ∈ L) ∧ va_P D vwCl (pW Y L S) H ∧ va_D A (pW Y L S) ∧ va_S A H0 H locs ∧ ∀ q, H0.size ≤ q → A q
def PrO (D : va_G) (Y : Nat → ClassId) (L : List Nat) (S : PS) (sz : Nat) : State → Prop := fun U => U.heap.size = sz ∧ (∀ a, S a ≠ oJ → a ∈ L) ∧ va_P D vwCl (pW Y L S) U.heap ∧ va_K D vwCl (pTys Y) U ∧ va_D (fun _ => True) (pW Y L S) ∧ NZ U
def QtO (D : va_G) (Y : Nat → ClassId) (A : Nat → Prop) : PS → State → Prop := fun S t => ∃ L : List Nat, (∀ a, S a ≠ oJ → a ∈ L) ∧ va_P D vwCl (pW Y L S) t.heap ∧ va_D A (pW Y L S)
def CX (p : Program) (m : MethodId) (c : Code) (cc : ByteArray) (nL : Nat) (s : State) (args : Array Value) (Ts : List Cond) (own : String) (D : va_G) (Y : Nat → ClassId) : Prop := CallFix p m c cc nL s args Ts own ∧ va_K D vwCl (pTys Y) s ∧ NZ s
/-- loops: as often as wanted -/
def wpL {σ : Type} (body : (σ → Prop) → σ → Prop) : Nat → σ → Prop
  | 0, _ => False
  | n + 1, s => body (wpL body n) s
theorem wpL_inv {σ : Type} {body : (σ → Prop) → σ → Prop} (I : σ → Prop) (μ : σ → Nat) (hs : ∀ s, I s → ∀ K : σ → Prop, (∀ s', I s' → μ s' < μ s → K s') → body K s) {s : σ} (h : I s) : ∃ n, wpL body n s := by
  have key : ∀ n s, I s → μ s < n → wpL body n s := by
    intro n
    induction n with
    | zero => intro s _ h; exact absurd h (Nat.not_lt_zero _)
    | succ n ih =>
      intro s hI hn
      exact hs s hI _ (fun s' h1 h2 => ih s' h1 (by omega))
  exact ⟨_, key _ s h (Nat.lt_succ_self _)⟩
/-! the pool -/
theorem pW_at {Y : Nat → ClassId} {L : List Nat} {S : PS} {a : Nat} {o : Ob} (hL : a ∈ L) (h : S a = o) : ∃ k : Nat, (pW Y L S)[k]? = some (a, cv Y o) := by
  obtain ⟨k, hk⟩ := va_pl_get (X := []) (f := fun a => cv Y (S a)) hL
  exact ⟨k, by rw [← h]; exact hk⟩
theorem pW_set {Y : Nat → ClassId} {A : Nat → Prop} {L : List Nat} {S : PS} {a k : Nat} {o o' : Ob} (hD : va_D A (pW Y L S)) (hL : a ∈ L) (h : S a = o) (hk : (pW Y L S)[k]? = some (a, cv Y o)) : (pW Y L S).set k (a, cv Y o') = pW Y L (va_up S a o') := by
  subst h
  show ([] ++ va_pl L (fun a => cv Y (S a))).set k (a, cv Y o') = [] ++ va_pl L (fun b => cv Y (va_up S a o' b))
  rw [va_pl_set hD hL hk]
  refine congrArg (fun l => [] ++ l) (va_pl_congr fun b => ?_)
  by_cases hb : b = a
  · subst hb; rw [va_up_self, va_up_self]
  · rw [va_up_ne _ _ hb, va_up_ne _ _ hb]
theorem pW_push {Y : Nat → ClassId} {L : List Nat} {S : PS} {a : Nat} {o : Ob} (hL : a ∉ L) : pW Y L S ++ [(a, cv Y o)] = pW Y (L ++ [a]) (va_up S a o) := by
  show ([] ++ va_pl L (fun a => cv Y (S a))) ++ [(a, cv Y o)] = [] ++ va_pl (L ++ [a]) (fun b => cv Y (va_up S a o b))
  rw [List.append_assoc, va_pl_push hL]
  refine congrArg (fun l => [] ++ l) (va_pl_congr fun b => ?_)
  by_cases hb : b = a
  · subst hb; rw [va_up_self, va_up_self]
  · rw [va_up_ne _ _ hb, va_up_ne _ _ hb]
theorem pW_fresh {Y : Nat → ClassId} {A : Nat → Prop} {L : List Nat} {S : PS} {q : Nat} {e : va_E} (hD : va_D A (pW Y L S ++ [(q, e)])) : q ∉ L := va_pl_fresh2 hD
theorem pW_in {Y : Nat → ClassId} {L : List Nat} {S : PS} {k : Nat} {q : Nat × va_E} (h : (pW Y L S)[k]? = some q) : q.1 ∈ L := by
  have h1 : q ∈ va_pl L (fun a => cv Y (S a)) := List.mem_of_getElem? (i := k) h
  obtain ⟨a, ha, e⟩ := List.mem_map.mp h1
  rw [← e]
  exact ha
theorem up_ne_oJ {S : PS} {L : List Nat} {a : Nat} {o : Ob} (h : ∀ a, S a ≠ oJ → a ∈ L) (ha : a ∈ L) : ∀ b, va_up S a o b ≠ oJ → b ∈ L := fun b hb => by
  by_cases e : b = a
  · rw [e]; exact ha
  · rw [va_up_ne _ _ e] at hb; exact h b hb
theorem up_ne_oJ2 {S : PS} {L : List Nat} {a : Nat} {o : Ob} (h : ∀ a, S a ≠ oJ → a ∈ L) : ∀ b, va_up S a o b ≠ oJ → b ∈ L ++ [a] := fun b hb => by
  by_cases e : b = a
  · rw [e]; simp
  · rw [va_up_ne _ _ e] at hb; exact List.mem_append_left _ (h b hb)
theorem fR_of {A : Nat → Prop} {Y : Nat → ClassId} {L : List Nat} {S : PS} {sz : Nat} (hD : va_D A (pW Y L S)) (hA : ∀ q, sz ≤ q → A q) : ∀ q, fR L sz q → A q := by
  intro q h
  rcases h with h | h
  · obtain ⟨k, hk⟩ := pW_at (Y := Y) (S := S) h rfl
    exact hD.2 k _ hk
  · exact hA q h
section BASE
variable {p : Program} {l : Launch} {e : Env} {R : Room} {s : State} {m : MethodId} {args : Array Value} {below : List Frame} {meth : Method} {c : Code} {H H0 : Heap} {locs : List Loc} {cells slots : Nat} {Q : State → Prop}
variable {cc : ByteArray} {nL pc : Nat} {Ts : List Cond} {own : String} {D : va_G} {Y : Nat → ClassId} {A : Nat → Prop} {S : PS} {ls : Array Slot} {rest : List Value} {a : Nat}
theorem CX.calls (C : CX p m c cc nL s args Ts own D Y) : CallFix p m c cc nL s args Ts own := C.1
theorem CX.ts (C : CX p m c cc nL s args Ts own D Y) {w : Cond} (h : w ∈ Ts) : w.before args s = true := C.1.2.2.2.2 w h
theorem vwCl_lt {ci : Nat} {q : vw_C} (h : vwCl[ci]? = some q) : ci < 7 := Nat.lt_of_lt_of_le (List.getElem?_eq_some_iff.mp h).1 (by decide)
theorem ne_oJ {ci : Nat} {q : vw_C} {fs : List Value} {o : Ob} (h : vwCl[ci]? = some q) (e : o = .inl (ci, fs)) : o ≠ oJ := by
  rw [e]; intro h2
  have h3 : (ci, fs) = (99, ([] : List Value)) := Sum.inl.inj h2
  have := vwCl_lt h
  have h4 : ci = 99 := congrArg Prod.fst h3
  omega
theorem ne_oJr {x : Nat × vp_A} {o : Ob} (e : o = .inr x) : o ≠ oJ := by rw [e]; intro h2; cases h2
theorem r_get (C : CX p m c cc nL s args Ts own D Y) (hO : HO D Y A H0 S H locs) (ci : Nat) {q : vw_C} {fs : List Value} {v : Value} (k : Nat) (hc : vwCl[ci]? = some q) (hin : ∀ w ∈ u_ws q.1 q.2.1 q.2.2, w ∈ Ts) (hk : k < q.2.2) (he : S a = .inl (ci, fs)) (hv : fs[k]? = some v) {index : Nat} (hl : Cond.fieldLink own index (q.2.1 k).1 (q.2.1 k).2.1 (q.2.1 k).2.2.1 ∈ Ts) (hdg : decode cc pc = .ok (.getfield index, 3))
    (kk : W p l e R s m args below meth c H locs cells slots Q (F0 m (pc + 3) ls (v :: rest))) : W p l e R s m args below meth c H locs cells slots Q (F0 m pc ls (.ref a :: rest)) := by
  obtain ⟨L, hL, hP, hD, hS, hA⟩ := hO
  obtain ⟨k0, hk0⟩ := pW_at (Y := Y) (hL a (ne_oJ hc he)) he
  obtain ⟨⟨hx, hb, hml, hown, hts⟩, hK, hZ⟩ := C
  exact va_get (C := q.1) (T := q.2.1) (N := q.2.2) hx hb hts hin hown hK hP k0 hk0 hc k hk (hts _ hl) (fun x h => h) hv hdg kk
theorem r_put (C : CX p m c cc nL s args Ts own D Y) (hO : HO D Y A H0 S H locs) (ci : Nat) {q : vw_C} {fs : List Value} {v : Value} (k : Nat) (hc : vwCl[ci]? = some q) (hin : ∀ w ∈ u_ws q.1 q.2.1 q.2.2, w ∈ Ts) {ty0 : Nat → FieldType} (hty : ∀ k, k < q.2.2 → parseFieldDescriptor (q.2.1 k).2.2.1 = some (ty0 k)) (hnm : ∀ a, a < q.2.2 → ∀ b, b < q.2.2 → a ≠ b → (q.2.1 a).2.1 ≠ (q.2.1 b).2.1) (hk : k < q.2.2) (hfin : (q.2.1 k).2.2.2 = false) (hn : narrow (ty0 k) v = v) (hfit : fits (ty0 k) v = true) (he : S a = .inl (ci, fs)) (hlt : k < fs.length) {index : Nat} (hl : Cond.fieldLink own index (q.2.1 k).1 (q.2.1 k).2.1 (q.2.1 k).2.2.1 ∈ Ts) (hdg : decode cc pc = .ok (.putfield index, 3))
    (kk : ∀ (H1 : Heap) (locs1 : List Loc), HO D Y A H0 (va_up S a (.inl (ci, fs.set k v))) H1 locs1 → W p l e R s m args below meth c H1 locs1 cells slots Q (F0 m (pc + 3) ls rest)) : W p l e R s m args below meth c H locs cells slots Q (F0 m pc ls (v :: .ref a :: rest)) := by
  obtain ⟨L, hL, hP, hD, hS, hA⟩ := hO
  have ha := hL a (ne_oJ hc he)
  obtain ⟨k0, hk0⟩ := pW_at (Y := Y) ha he
  obtain ⟨⟨hx, hb, hml, hown, hts⟩, hK, hZ⟩ := C
  refine va_put (C := q.1) (T := q.2.1) (N := q.2.2) hx hb hts hin ty0 hty hnm hown hK hP hD hS k0 hk0 hc k hk (hts _ hl) (fun x h => h) hfin (hty k hk) hn hfit hlt hdg (fun H1 locs1 hP hD hS => ?_)
  have e : (pW Y L S).set k0 (a, .inr (ci, fs.set k v)) = pW Y L (va_up S a (.inl (ci, fs.set k v))) := pW_set (o' := .inl (ci, fs.set k v)) (by assumption) ha he hk0
  rw [e] at hP hD
  exact kk H1 locs1 ⟨L, up_ne_oJ hL ha, hP, hD, hS, hA⟩
theorem r_putF (C : CX p m c cc nL s args Ts own D Y) (hO : HO D Y A H0 S H locs) (ci : Nat) {q : vw_C} {fs : List Value} {v : Value} (k : Nat) (hin2 : meth.name = "<init>") (hc : vwCl[ci]? = some q) (hin : ∀ w ∈ u_ws q.1 q.2.1 q.2.2, w ∈ Ts) {ty0 : Nat → FieldType} (hty : ∀ k, k < q.2.2 → parseFieldDescriptor (q.2.1 k).2.2.1 = some (ty0 k)) (hnm : ∀ a, a < q.2.2 → ∀ b, b < q.2.2 → a ≠ b → (q.2.1 a).2.1 ≠ (q.2.1 b).2.1) (hk : k < q.2.2) (hfin : (q.2.1 k).2.2.2 = true) (hdecl : (q.2.1 k).1 = own) (hn : narrow (ty0 k) v = v) (hfit : fits (ty0 k) v = true) (he : S a = .inl (ci, fs)) (hlt : k < fs.length) {index : Nat} (hl : Cond.fieldLink own index (q.2.1 k).1 (q.2.1 k).2.1 (q.2.1 k).2.2.1 ∈ Ts) (hdg : decode cc pc = .ok (.putfield index, 3))
    (kk : ∀ (H1 : Heap) (locs1 : List Loc), HO D Y A H0 (va_up S a (.inl (ci, fs.set k v))) H1 locs1 → W p l e R s m args below meth c H1 locs1 cells slots Q (F0 m (pc + 3) ls rest)) : W p l e R s m args below meth c H locs cells slots Q (F0 m pc ls (v :: .ref a :: rest)) := by
  obtain ⟨L, hL, hP, hD, hS, hA⟩ := hO
  have ha := hL a (ne_oJ hc he)
  obtain ⟨k0, hk0⟩ := pW_at (Y := Y) ha he
  obtain ⟨⟨hx, hb, hml, hown, hts⟩, hK, hZ⟩ := C
  refine va_putF (C := q.1) (T := q.2.1) (N := q.2.2) hx hb hts hin ty0 hty hnm hown hK hP hD hS k0 hk0 hc k hk (hts _ hl) (fun x h => h) hfin hin2 hdecl (hty k hk) hn hfit hlt hdg (fun H1 locs1 hP hD hS => ?_)
  have e : (pW Y L S).set k0 (a, .inr (ci, fs.set k v)) = pW Y L (va_up S a (.inl (ci, fs.set k v))) := pW_set (o' := .inl (ci, fs.set k v)) (by assumption) ha he hk0
  rw [e] at hP hD
  exact kk H1 locs1 ⟨L, up_ne_oJ hL ha, hP, hD, hS, hA⟩
theorem r_iald (C : CX p m c cc nL s args Ts own D Y) (hO : HO D Y A H0 S H locs) {n : Nat} {f : Nat → Int32} {i : Int32} (he : S a = aI n f) (hi : vp_in i n) (hdg : decode cc pc = .ok (.iaload, 1))
    (kk : W p l e R s m args below meth c H locs cells slots Q (F0 m (pc + 1) ls (.int (f i.toNatClampNeg) :: rest))) : W p l e R s m args below meth c H locs cells slots Q (F0 m pc ls (.int i :: .ref a :: rest)) := by
  obtain ⟨L, hL, hP, hD, hS, hA⟩ := hO
  obtain ⟨k0, hk0⟩ := pW_at (Y := Y) (hL a (ne_oJr he)) he
  exact va_iald C.1.1 C.1.2.1 C.2.1 hP k0 1 hk0 rfl hi hdg kk
theorem r_cald (C : CX p m c cc nL s args Ts own D Y) (hO : HO D Y A H0 S H locs) {n : Nat} {f : Nat → Int32} {i : Int32} (he : S a = aC n f) (hi : vp_in i n) (hdg : decode cc pc = .ok (.caload, 1))
    (kk : W p l e R s m args below meth c H locs cells slots Q (F0 m (pc + 1) ls (.int (f i.toNatClampNeg) :: rest))) : W p l e R s m args below meth c H locs cells slots Q (F0 m pc ls (.int i :: .ref a :: rest)) := by
  obtain ⟨L, hL, hP, hD, hS, hA⟩ := hO
  obtain ⟨k0, hk0⟩ := pW_at (Y := Y) (hL a (ne_oJr he)) he
  exact va_cald C.1.1 C.1.2.1 C.2.1 hP k0 0 hk0 rfl hi hdg kk
theorem r_lald (C : CX p m c cc nL s args Ts own D Y) (hO : HO D Y A H0 S H locs) {n : Nat} {f : Nat → Int64} {i : Int32} (he : S a = aJ n f) (hi : vp_in i n) (hdg : decode cc pc = .ok (.laload, 1))
    (kk : W p l e R s m args below meth c H locs cells slots Q (F0 m (pc + 1) ls (.long (f i.toNatClampNeg) :: rest))) : W p l e R s m args below meth c H locs cells slots Q (F0 m pc ls (.int i :: .ref a :: rest)) := by
  obtain ⟨L, hL, hP, hD, hS, hA⟩ := hO
  obtain ⟨k0, hk0⟩ := pW_at (Y := Y) (hL a (ne_oJr he)) he
  exact va_lald C.1.1 C.1.2.1 C.2.1 hP k0 2 hk0 rfl hi hdg kk
theorem r_aaldD (C : CX p m c cc nL s args Ts own D Y) (hO : HO D Y A H0 S H locs) {n : Nat} {f : Nat → Option Nat} {i : Int32} {r : Value} (he : S a = aD n f) (hi : vp_in i n) (hr : va_rf (f i.toNatClampNeg) = r) (hdg : decode cc pc = .ok (.aaload, 1))
    (kk : W p l e R s m args below meth c H locs cells slots Q (F0 m (pc + 1) ls (r :: rest))) : W p l e R s m args below meth c H locs cells slots Q (F0 m pc ls (.int i :: .ref a :: rest)) := by
  obtain ⟨L, hL, hP, hD, hS, hA⟩ := hO
  obtain ⟨k0, hk0⟩ := pW_at (Y := Y) (hL a (ne_oJr he)) he
  subst hr
  exact va_aldq C.1.1 C.1.2.1 C.2.1 hP k0 3 hk0 rfl hi hdg kk
theorem r_aaldL (C : CX p m c cc nL s args Ts own D Y) (hO : HO D Y A H0 S H locs) {n : Nat} {f : Nat → Option Nat} {i : Int32} {r : Value} (he : S a = aL n f) (hi : vp_in i n) (hr : va_rf (f i.toNatClampNeg) = r) (hdg : decode cc pc = .ok (.aaload, 1))
    (kk : W p l e R s m args below meth c H locs cells slots Q (F0 m (pc + 1) ls (r :: rest))) : W p l e R s m args below meth c H locs cells slots Q (F0 m pc ls (.int i :: .ref a :: rest)) := by
  obtain ⟨L, hL, hP, hD, hS, hA⟩ := hO
  obtain ⟨k0, hk0⟩ := pW_at (Y := Y) (hL a (ne_oJr he)) he
  subst hr
  exact va_aldq C.1.1 C.1.2.1 C.2.1 hP k0 4 hk0 rfl hi hdg kk
theorem r_iast (C : CX p m c cc nL s args Ts own D Y) (hO : HO D Y A H0 S H locs) {n : Nat} {f : Nat → Int32} {i x : Int32} (he : S a = aI n f) (hi : vp_in i n) (hdg : decode cc pc = .ok (.iastore, 1))
    (kk : ∀ (H1 : Heap) (locs1 : List Loc), HO D Y A H0 (va_up S a (aI n (upd f i.toNatClampNeg x))) H1 locs1 → W p l e R s m args below meth c H1 locs1 cells slots Q (F0 m (pc + 1) ls rest)) : W p l e R s m args below meth c H locs cells slots Q (F0 m pc ls (.int x :: .int i :: .ref a :: rest)) := by
  obtain ⟨L, hL, hP, hD, hS, hA⟩ := hO
  have ha := hL a (ne_oJr he)
  obtain ⟨k0, hk0⟩ := pW_at (Y := Y) ha he
  refine va_iast C.1.1 C.1.2.1 C.2.1 hP hD hS k0 1 hk0 rfl hi hdg (fun H1 locs1 hP hD hS => ?_)
  have e := pW_set (o' := aI n (upd f i.toNatClampNeg x)) (by assumption) ha he hk0
  exact kk H1 locs1 ⟨L, up_ne_oJ hL ha, by rw [← e]; exact hP, by rw [← e]; exact hD, hS, hA⟩
theorem r_cast (C : CX p m c cc nL s args Ts own D Y) (hO : HO D Y A H0 S H locs) {n : Nat} {f : Nat → Int32} {i x : Int32} (he : S a = aC n f) (hi : vp_in i n) (hdg : decode cc pc = .ok (.castore, 1))
    (kk : ∀ (H1 : Heap) (locs1 : List Loc), HO D Y A H0 (va_up S a (aC n (upd f i.toNatClampNeg (vp_nar .char x)))) H1 locs1 → W p l e R s m args below meth c H1 locs1 cells slots Q (F0 m (pc + 1) ls rest)) : W p l e R s m args below meth c H locs cells slots Q (F0 m pc ls (.int x :: .int i :: .ref a :: rest)) := by
  obtain ⟨L, hL, hP, hD, hS, hA⟩ := hO
  have ha := hL a (ne_oJr he)
  obtain ⟨k0, hk0⟩ := pW_at (Y := Y) ha he
  refine va_cast C.1.1 C.1.2.1 C.2.1 hP hD hS k0 0 hk0 rfl hi hdg (fun H1 locs1 hP hD hS => ?_)
  have e := pW_set (o' := aC n (upd f i.toNatClampNeg (vp_nar .char x))) (by assumption) ha he hk0
  exact kk H1 locs1 ⟨L, up_ne_oJ hL ha, by rw [← e]; exact hP, by rw [← e]; exact hD, hS, hA⟩
theorem r_last (C : CX p m c cc nL s args Ts own D Y) (hO : HO D Y A H0 S H locs) {n : Nat} {f : Nat → Int64} {i : Int32} {x : Int64} (he : S a = aJ n f) (hi : vp_in i n) (hdg : decode cc pc = .ok (.lastore, 1))
    (kk : ∀ (H1 : Heap) (locs1 : List Loc), HO D Y A H0 (va_up S a (aJ n (vp_updL f i.toNatClampNeg x))) H1 locs1 → W p l e R s m args below meth c H1 locs1 cells slots Q (F0 m (pc + 1) ls rest)) : W p l e R s m args below meth c H locs cells slots Q (F0 m pc ls (.long x :: .int i :: .ref a :: rest)) := by
  obtain ⟨L, hL, hP, hD, hS, hA⟩ := hO
  have ha := hL a (ne_oJr he)
  obtain ⟨k0, hk0⟩ := pW_at (Y := Y) ha he
  refine va_last C.1.1 C.1.2.1 C.2.1 hP hD hS k0 2 hk0 rfl hi hdg (fun H1 locs1 hP hD hS => ?_)
  have e := pW_set (o' := aJ n (vp_updL f i.toNatClampNeg x)) (by assumption) ha he hk0
  exact kk H1 locs1 ⟨L, up_ne_oJ hL ha, by rw [← e]; exact hP, by rw [← e]; exact hD, hS, hA⟩
theorem r_aastD (C : CX p m c cc nL s args Ts own D Y) (hO : HO D Y A H0 S H locs) {n v : Nat} {vs : List Value} {f : Nat → Option Nat} {i : Int32} (he : S a = aD n f) (hi : vp_in i n) (hv : S v = .inl (0, vs)) (hdg : decode cc pc = .ok (.aastore, 1))
    (kk : ∀ (H1 : Heap) (locs1 : List Loc), HO D Y A H0 (va_up S a (aD n (va_up f i.toNatClampNeg (some v)))) H1 locs1 → W p l e R s m args below meth c H1 locs1 cells slots Q (F0 m (pc + 1) ls rest)) : W p l e R s m args below meth c H locs cells slots Q (F0 m pc ls (.ref v :: .int i :: .ref a :: rest)) := by
  obtain ⟨L, hL, hP, hD, hS, hA⟩ := hO
  have ha := hL a (ne_oJr he)
  obtain ⟨k0, hk0⟩ := pW_at (Y := Y) ha he
  obtain ⟨k1, hk1⟩ := pW_at (Y := Y) (hL v (ne_oJ (ci := 0) rfl hv)) hv
  refine va_astq (r := (RX0, TX0, 2)) C.1.1 C.1.2.1 C.2.1 hP hD hS k0 3 k1 0 hk0 rfl hk1 rfl hi hdg (fun H1 locs1 hP hD hS => ?_)
  have e := pW_set (o' := aD n (va_up f i.toNatClampNeg (some v))) (by assumption) ha he hk0
  exact kk H1 locs1 ⟨L, up_ne_oJ hL ha, by rw [← e]; exact hP, by rw [← e]; exact hD, hS, hA⟩
theorem r_aastL (C : CX p m c cc nL s args Ts own D Y) (hO : HO D Y A H0 S H locs) {n v : Nat} {vs : List Value} {f : Nat → Option Nat} {i : Int32} (he : S a = aL n f) (hi : vp_in i n) (hv : S v = .inl (1, vs)) (hdg : decode cc pc = .ok (.aastore, 1))
    (kk : ∀ (H1 : Heap) (locs1 : List Loc), HO D Y A H0 (va_up S a (aL n (va_up f i.toNatClampNeg (some v)))) H1 locs1 → W p l e R s m args below meth c H1 locs1 cells slots Q (F0 m (pc + 1) ls rest)) : W p l e R s m args below meth c H locs cells slots Q (F0 m pc ls (.ref v :: .int i :: .ref a :: rest)) := by
  obtain ⟨L, hL, hP, hD, hS, hA⟩ := hO
  have ha := hL a (ne_oJr he)
  obtain ⟨k0, hk0⟩ := pW_at (Y := Y) ha he
  obtain ⟨k1, hk1⟩ := pW_at (Y := Y) (hL v (ne_oJ (ci := 1) rfl hv)) hv
  refine va_astq (r := (RX1, TX1, 7)) C.1.1 C.1.2.1 C.2.1 hP hD hS k0 4 k1 1 hk0 rfl hk1 rfl hi hdg (fun H1 locs1 hP hD hS => ?_)
  have e := pW_set (o' := aL n (va_up f i.toNatClampNeg (some v))) (by assumption) ha he hk0
  exact kk H1 locs1 ⟨L, up_ne_oJ hL ha, by rw [← e]; exact hP, by rw [← e]; exact hD, hS, hA⟩
theorem HO.push {q : Nat} {o : Ob} {L : List Nat} {H1 : Heap} (hL : ∀ a, S a ≠ oJ → a ∈ L) (hA : ∀ q, H0.size ≤ q → A q) (hP : va_P D vwCl (pW Y L S ++ [(q, cv Y o)]) H1) (hD : va_D A (pW Y L S ++ [(q, cv Y o)])) (hS : va_S A H0 H1 locs) : S q = oJ ∧ HO D Y A H0 (va_up S q o) H1 locs := by
  have hf := pW_fresh hD
  rw [pW_push hf] at hP hD
  refine ⟨Classical.byContradiction (fun h => hf (hL q h)), L ++ [q], up_ne_oJ2 hL, hP, hD, hS, hA⟩
theorem r_new (C : CX p m c cc nL s args Ts own D Y) (hO : HO D Y A H0 S H locs) (ci : Nat) {q : vw_C} (fs : List Value) (hc : vwCl[ci]? = some q) (hin : ∀ w ∈ u_ws q.1 q.2.1 q.2.2, w ∈ Ts) {ty0 : Nat → FieldType} (hty : ∀ k, k < q.2.2 → parseFieldDescriptor (q.2.1 k).2.2.1 = some (ty0 k)) (hfs : ∀ j, j < q.2.2 → defaultValue (ty0 j) = vp_V fs j) {index N : Nat} (hN : q.2.2 = N) (h1 : Cond.classLink own index q.1 ∈ Ts) (h2 : Cond.instantiable q.1 q.2.2 ∈ Ts) (h3 : Cond.initialized q.1 ∈ Ts) (hcells : cells + 1 ≤ R.cells) (hslots : slots + N ≤ R.slots) (hdg : decode cc pc = .ok (.new index, 3))
    (kk : ∀ (q : Nat) (H1 : Heap), S q = oJ → HO D Y A H0 (va_up S q (.inl (ci, fs))) H1 locs → W p l e R s m args below meth c H1 locs (cells + 1) (slots + N) Q (F0 m (pc + 3) ls (.ref q :: rest))) : W p l e R s m args below meth c H locs cells slots Q (F0 m pc ls rest) := by
  obtain ⟨L, hL, hP, hD, hS, hA⟩ := hO
  obtain ⟨⟨hx, hb, hml, hown, hts⟩, hK, hZ⟩ := C
  subst hN
  refine va_new (C := q.1) (T := q.2.1) (N := q.2.2) hx hb hts hin ty0 hty hown (hts _ h1) (hts _ h2) (hts _ h3) hK hP hD hS hA hc hfs hcells hslots hdg (fun q H1 hP hD hS => ?_)
  obtain ⟨g1, g2⟩ := HO.push (o := .inl (ci, fs)) hL hA hP hD hS
  exact kk q H1 g1 g2
theorem va_K_one {x : ClassId × FieldType} (h : va_K D vwCl (pTys Y ++ [x]) s) : va_RA s x.1 x.2 := (h.2 5 x rfl).2
theorem r_newa {k : Nat} {ty : FieldType} (C : CX p m c cc nL s args Ts own D Y) (hO : HO D Y A H0 S H locs) {atype : ArrayType} (hprim : ∀ C, ty ≠ .object C) (ht : (pTys Y)[k]? = some (Y k, ty)) (hty : newarray.typeOf atype = ty) (hcl : Cond.arrayClass (newarray.typeOf atype) ∈ Ts) {n : Int32} {N' : Nat} (a0 : vp_A) (ha : ∀ cA : ClassId, vp_cell cA a0 = arrV cA N' (fun _ => defaultValue ty)) (hn : ¬ n < 0) (hN : n.toNatClampNeg = N') (hbytes : N' * componentBytes ty ≤ 536870912) (hcells : cells + 1 ≤ R.cells) (hslots : slots + N' ≤ R.slots) (hdg : decode cc pc = .ok (.newarray atype, 2))
    (kk : ∀ (q : Nat) (H1 : Heap), S q = oJ → HO D Y A H0 (va_up S q (.inr (k, a0))) H1 locs → W p l e R s m args below meth c H1 locs (cells + 1) (slots + N') Q (F0 m (pc + 2) ls (.ref q :: rest))) : W p l e R s m args below meth c H locs cells slots Q (F0 m pc ls (.int n :: rest)) := by
  obtain ⟨L, hL, hP, hD, hS, hA⟩ := hO
  obtain ⟨⟨hx, hb, hml, hown, hts⟩, hK, hZ⟩ := C
  refine va_newa hx hb (hts _ hcl) hty hK hP hD hS hA ha hn hN hbytes hcells hslots hdg (fun q cA H1 hK1 hP hD hS => ?_)
  have e1 := va_K_one hK1
  have e2 := (hK.2 k _ ht).2
  have e3 : cA = Y k := by
    cases ty with
    | object C => exact absurd rfl (hprim C)
    | _ => exact Option.some.inj (e1.symm.trans e2)
  subst e3
  obtain ⟨g1, g2⟩ := HO.push (o := .inr (k, a0)) hL hA hP hD hS
  exact kk q H1 g1 g2
theorem r_anew {k : Nat} {Cn : String} (C : CX p m c cc nL s args Ts own D Y) (hO : HO D Y A H0 S H locs) (ht : (pTys Y)[k]? = some (Y k, .object Cn)) (hover : va_AO Cn s) {index : Nat} (hcl : Cond.classLink own index Cn ∈ Ts) {n : Int32} {N' : Nat} (hn : ¬ n < 0) (hN : n.toNatClampNeg = N') (hbytes : N' * 4 ≤ 536870912) (hcells : cells + 1 ≤ R.cells) (hslots : slots + N' ≤ R.slots) (hdg : decode cc pc = .ok (.anewarray index, 3))
    (kk : ∀ (q : Nat) (H1 : Heap), S q = oJ → HO D Y A H0 (va_up S q (.inr (k, N', .inr (.inr (.inr (.inr (fun _ => none))))))) H1 locs → W p l e R s m args below meth c H1 locs (cells + 1) (slots + N') Q (F0 m (pc + 3) ls (.ref q :: rest))) : W p l e R s m args below meth c H locs cells slots Q (F0 m pc ls (.int n :: rest)) := by
  obtain ⟨L, hL, hP, hD, hS, hA⟩ := hO
  obtain ⟨⟨hx, hb, hml, hown, hts⟩, hK, hZ⟩ := C
  refine va_newq hx hb hown (hts _ hcl) hover hK hP hD hS hA hn hN hbytes hcells hslots hdg (fun q cA H1 hK1 hP hD hS => ?_)
  obtain ⟨kA, comp, f1, f2, f3, f4⟩ := va_K_one hK1
  obtain ⟨kB, comp2, g1, g2, g3, g4⟩ := (hK.2 k _ ht).2
  have e3 : cA = Y k := Option.some.inj (f4.symm.trans g4)
  subst e3
  obtain ⟨g1, g2⟩ := HO.push (o := .inr (k, N', .inr (.inr (.inr (.inr (fun _ => none)))))) hL hA hP hD hS
  exact kk q H1 g1 g2
theorem r_copy (C : CX p m c cc nL s args Ts own D Y) (hO : HO D Y A H0 S H locs) (hsz : ls.size = nL) {index : Nat} (hl : Cond.methodLink own index arraycopyName ∈ Ts) (hnat : Cond.native arraycopyName ∈ Ts) (hstat : Cond.static arraycopyName ∈ Ts) (hini : Cond.initialized "java/lang/System" ∈ Ts) {a0 n0 n1 : Nat} {f g : Nat → Int32} {sp dp n : Int32} (he0 : S a0 = aI n0 f) (he1 : S a = aI n1 g) (h1 : ¬ sp < 0) (h2 : ¬ dp < 0) (h3 : ¬ n < 0) (h4 : sp.toNatClampNeg + n.toNatClampNeg ≤ n0) (h5 : dp.toNatClampNeg + n.toNatClampNeg ≤ n1) (hframes : 1 ≤ R.frames) (hlocals : (rest.map fun v => v.category).sum + (nativeFrameWords "java/lang/System" "arraycopy" 5 + 11) ≤ R.locals) (hdg : decode cc pc = .ok (.invokestatic index, 3))
    (kk : ∀ (H1 : Heap) (locs1 : List Loc), HO D Y A H0 (va_up S a (aI n1 (va_cpy f g sp.toNatClampNeg dp.toNatClampNeg n.toNatClampNeg))) H1 locs1 → W p l e R s m args below meth c H1 locs1 cells slots Q (F0 m (pc + 3) ls rest)) : W p l e R s m args below meth c H locs cells slots Q (F0 m pc ls (.int n :: .int dp :: .ref a :: .int sp :: .ref a0 :: rest)) := by
  obtain ⟨L, hL, hP, hD, hS, hA⟩ := hO
  obtain ⟨⟨hx, hb, hml, hown, hts⟩, hK, hZ⟩ := C
  have ha := hL a (ne_oJr he1)
  obtain ⟨k0, hk0⟩ := pW_at (Y := Y) (hL a0 (ne_oJr he0)) he0
  obtain ⟨k1, hk1⟩ := pW_at (Y := Y) ha he1
  refine va_copyi (ty := .int) hx hb (hml.trans hsz.symm) hown (hts _ hl) (hts _ hnat) (hts _ hstat) (hts _ hini) hK hP hD hS k0 k1 1 1 hk0 hk1 rfl rfl rfl h1 h2 h3 h4 h5 (fun _ _ => rfl) hframes hlocals hdg (fun H1 locs1 hP hD hS => ?_)
  have e := pW_set (o' := aI n1 (va_cpy f g sp.toNatClampNeg dp.toNatClampNeg n.toNatClampNeg)) (by assumption) ha he1 hk1
  exact kk H1 locs1 ⟨L, up_ne_oJ hL ha, by rw [← e]; exact hP, by rw [← e]; exact hD, hS, hA⟩
end BASE
