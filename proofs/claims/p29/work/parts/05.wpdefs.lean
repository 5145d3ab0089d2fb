/-! ===== what the decompiled texts say of the heap ===== -/
def gI (S : PS) (a ci k : Nat) (P : Int32 → Prop) : Prop := ∃ (fs : List Value) (x : Int32), S a = .inl (ci, fs) ∧ fs[k]? = some (.int x) ∧ P x
def gJ (S : PS) (a ci k : Nat) (P : Int64 → Prop) : Prop := ∃ (fs : List Value) (x : Int64), S a = .inl (ci, fs) ∧ fs[k]? = some (.long x) ∧ P x
def gR (S : PS) (a ci k : Nat) (P : Nat → Prop) : Prop := ∃ (fs : List Value) (x : Nat), S a = .inl (ci, fs) ∧ fs[k]? = some (.ref x) ∧ P x
def pF (S : PS) (a ci k : Nat) (v : Value) (P : PS → Prop) : Prop := ∃ fs : List Value, S a = .inl (ci, fs) ∧ k < fs.length ∧ ∀ S1 : PS, S1 = va_up S a (.inl (ci, fs.set k v)) → P S1
def rc (S : PS) (b ci : Nat) (P : Prop) : Prop := ∃ fs : List Value, S b = .inl (ci, fs) ∧ P
def lI (S : PS) (a : Nat) (i : Int32) (P : Int32 → Prop) : Prop := ∃ (n : Nat) (f : Nat → Int32) (x : Int32), S a = aI n f ∧ vp_in i n ∧ f i.toNatClampNeg = x ∧ P x
def lC (S : PS) (a : Nat) (i : Int32) (P : Int32 → Prop) : Prop := ∃ (n : Nat) (f : Nat → Int32) (x : Int32), S a = aC n f ∧ vp_in i n ∧ f i.toNatClampNeg = x ∧ P x
def lJ (S : PS) (a : Nat) (i : Int32) (P : Int64 → Prop) : Prop := ∃ (n : Nat) (f : Nat → Int64) (x : Int64), S a = aJ n f ∧ vp_in i n ∧ f i.toNatClampNeg = x ∧ P x
def lD (S : PS) (a : Nat) (i : Int32) (P : Nat → Prop) : Prop := ∃ (n : Nat) (f : Nat → Option Nat) (x : Nat), S a = aD n f ∧ vp_in i n ∧ f i.toNatClampNeg = some x ∧ P x
def lL (S : PS) (a : Nat) (i : Int32) (P : Nat → Prop) : Prop := ∃ (n : Nat) (f : Nat → Option Nat) (x : Nat), S a = aL n f ∧ vp_in i n ∧ f i.toNatClampNeg = some x ∧ P x
def lLo (S : PS) (a : Nat) (i : Int32) (P0 : Prop) (P1 : Nat → Prop) : Prop := ∃ (n : Nat) (f : Nat → Option Nat), S a = aL n f ∧ vp_in i n ∧ (f i.toNatClampNeg = none → P0) ∧ ∀ x : Nat, f i.toNatClampNeg = some x → P1 x
def sI (S : PS) (a : Nat) (i x : Int32) (P : PS → Prop) : Prop := ∃ (n : Nat) (f : Nat → Int32), S a = aI n f ∧ vp_in i n ∧ ∀ S1 : PS, S1 = va_up S a (aI n (upd f i.toNatClampNeg x)) → P S1
def sC (S : PS) (a : Nat) (i x : Int32) (P : PS → Prop) : Prop := ∃ (n : Nat) (f : Nat → Int32), S a = aC n f ∧ vp_in i n ∧ ∀ S1 : PS, S1 = va_up S a (aC n (upd f i.toNatClampNeg (vp_nar .char x))) → P S1
def sJ (S : PS) (a : Nat) (i : Int32) (x : Int64) (P : PS → Prop) : Prop := ∃ (n : Nat) (f : Nat → Int64), S a = aJ n f ∧ vp_in i n ∧ ∀ S1 : PS, S1 = va_up S a (aJ n (vp_updL f i.toNatClampNeg x)) → P S1
def sD (S : PS) (a : Nat) (i : Int32) (v : Nat) (P : PS → Prop) : Prop := ∃ (n : Nat) (f : Nat → Option Nat) (vs : List Value), S a = aD n f ∧ vp_in i n ∧ S v = .inl (0, vs) ∧ ∀ S1 : PS, S1 = va_up S a (aD n (va_up f i.toNatClampNeg (some v))) → P S1
def sL (S : PS) (a : Nat) (i : Int32) (v : Nat) (P : PS → Prop) : Prop := ∃ (n : Nat) (f : Nat → Option Nat) (vs : List Value), S a = aL n f ∧ vp_in i n ∧ S v = .inl (1, vs) ∧ ∀ S1 : PS, S1 = va_up S a (aL n (va_up f i.toNatClampNeg (some v))) → P S1
def nw (S : PS) (o : Ob) (P : Nat → PS → Prop) : Prop := ∀ q : Nat, S q = oJ → ∀ S1 : PS, S1 = va_up S q o → P q S1
def cp (S : PS) (a0 : Nat) (sp : Int32) (a : Nat) (dp n : Int32) (P : PS → Prop) : Prop := ∃ (n0 : Nat) (f : Nat → Int32) (n1 : Nat) (g : Nat → Int32), S a0 = aI n0 f ∧ S a = aI n1 g ∧ ¬ sp < 0 ∧ ¬ dp < 0 ∧ ¬ n < 0 ∧ sp.toNatClampNeg + n.toNatClampNeg ≤ n0 ∧ dp.toNatClampNeg + n.toNatClampNeg ≤ n1 ∧ ∀ S1 : PS, S1 = va_up S a (aI n1 (va_cpy f g sp.toNatClampNeg dp.toNatClampNeg n.toNatClampNeg)) → P S1
def uShr (x y : Int32) : Int32 := (x.toUInt32 >>> (y.toUInt32 &&& Int32.toUInt32 31)).toInt32
def uShrL (x : Int64) (y : Int32) : Int64 := (x.toUInt64 >>> (y.toInt64.toUInt64 &&& Int64.toUInt64 63)).toInt64
def shlL (x : Int64) (y : Int32) : Int64 := x <<< (y.toInt64 &&& 63)
def i2c (x : Int32) : Int32 := (x.toUInt32 % 65536).toInt32
theorem sw_1 (x : Int32) : (x.toInt < 0 ∨ 1 < x.toInt) ∨ x.toInt = 0 ∨ x.toInt = 1 := by omega
theorem sw_3 (x : Int32) : (x.toInt < 0 ∨ 3 < x.toInt) ∨ x.toInt = 0 ∨ x.toInt = 1 ∨ x.toInt = 2 ∨ x.toInt = 3 := by omega
theorem sw_6 (x : Int32) : (x.toInt < 0 ∨ 6 < x.toInt) ∨ x.toInt = 0 ∨ x.toInt = 1 ∨ x.toInt = 2 ∨ x.toInt = 3 ∨ x.toInt = 4 ∨ x.toInt = 5 ∨ x.toInt = 6 := by omega
theorem lk_out {x : Int32} {a b d : Int} (h : x.toInt < 0 ∨ 1 < x.toInt) : Op.lookupswitch.offset (#[((0 : Int), a), (1, b)] : Array (Int × Int)).toList d x.toInt = d := by
  show Op.lookupswitch.offset [((0 : Int), a), (1, b)] d x.toInt = d
  rw [Op.lookupswitch.offset_cons, if_neg (by omega), Op.lookupswitch.offset_cons, if_neg (by omega)]
  rfl
