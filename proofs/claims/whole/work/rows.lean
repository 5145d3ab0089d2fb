section
-- ===== PART A: goes FIRST, ahead of the names: the tables' words, and 'selects' of the private methods out of them =====
/-- a private method of a class that the tables say can be made, by its rows of tables_1 -/
def lw_okq (q : MethodName × Nat) : Prop := (q.1.cls ≠ "java/lang/invoke/MethodHandle" ∧ q.1.cls ≠ "java/lang/invoke/VarHandle") ∧ Cond.instantiable q.1.cls q.2 ∈ tables_1 ∧ Cond.privateMethod q.1 ∈ tables_1 ∧ Cond.instanceMethod q.1 ∈ tables_1
theorem lw_p0 : lw_okq (⟨"TreadleKernels$Past", "dropOldest", "()V"⟩, 2) := ⟨⟨by decide +kernel, by decide +kernel⟩, List.mem_of_getElem? (i := 75) (by decide +kernel), List.mem_of_getElem? (i := 162) (by decide +kernel), List.mem_of_getElem? (i := 163) (by decide +kernel)⟩
theorem lw_p1 : lw_okq (⟨"TreadleKernels$Loom", "wayOfPress", "(I)J"⟩, 7) := ⟨⟨by decide +kernel, by decide +kernel⟩, List.mem_of_getElem? (i := 21) (by decide +kernel), List.mem_of_getElem? (i := 266) (by decide +kernel), List.mem_of_getElem? (i := 267) (by decide +kernel)⟩
theorem lw_p2 : lw_okq (⟨"TreadleKernels", "gatherWays", "(I)V"⟩, 6) := ⟨⟨by decide +kernel, by decide +kernel⟩, List.mem_of_getElem? (i := 13) (by decide +kernel), List.mem_of_getElem? (i := 372) (by decide +kernel), List.mem_of_getElem? (i := 373) (by decide +kernel)⟩
theorem lw_p3 : lw_okq (⟨"TreadleKernels$Search", "note", "(J)V"⟩, 5) := ⟨⟨by decide +kernel, by decide +kernel⟩, List.mem_of_getElem? (i := 106) (by decide +kernel), List.mem_of_getElem? (i := 407) (by decide +kernel), List.mem_of_getElem? (i := 408) (by decide +kernel)⟩
theorem lw_p4 : lw_okq (⟨"TreadleKernelsModel", "atHome", "()I"⟩, 15) := ⟨⟨by decide +kernel, by decide +kernel⟩, List.mem_of_getElem? (i := 461) (by decide +kernel), List.mem_of_getElem? (i := 524) (by decide +kernel), List.mem_of_getElem? (i := 525) (by decide +kernel)⟩
theorem lw_p5 : lw_okq (⟨"TreadleKernelsModel", "record", "()V"⟩, 15) := ⟨⟨by decide +kernel, by decide +kernel⟩, List.mem_of_getElem? (i := 461) (by decide +kernel), List.mem_of_getElem? (i := 532) (by decide +kernel), List.mem_of_getElem? (i := 533) (by decide +kernel)⟩
theorem lw_p6 : lw_okq (⟨"TreadleKernelsModel", "raised", "(I)I"⟩, 15) := ⟨⟨by decide +kernel, by decide +kernel⟩, List.mem_of_getElem? (i := 461) (by decide +kernel), List.mem_of_getElem? (i := 547) (by decide +kernel), List.mem_of_getElem? (i := 548) (by decide +kernel)⟩
theorem lw_p7 : lw_okq (⟨"TreadleKernelsModel", "findFault", "()I"⟩, 15) := ⟨⟨by decide +kernel, by decide +kernel⟩, List.mem_of_getElem? (i := 461) (by decide +kernel), List.mem_of_getElem? (i := 561) (by decide +kernel), List.mem_of_getElem? (i := 562) (by decide +kernel)⟩
theorem lw_p8 : lw_okq (⟨"TreadleKernelsModel", "readsPress", "()Z"⟩, 15) := ⟨⟨by decide +kernel, by decide +kernel⟩, List.mem_of_getElem? (i := 461) (by decide +kernel), List.mem_of_getElem? (i := 565) (by decide +kernel), List.mem_of_getElem? (i := 566) (by decide +kernel)⟩
theorem lw_p9 : lw_okq (⟨"TreadleKernelsModel", "next", "()I"⟩, 15) := ⟨⟨by decide +kernel, by decide +kernel⟩, List.mem_of_getElem? (i := 461) (by decide +kernel), List.mem_of_getElem? (i := 569) (by decide +kernel), List.mem_of_getElem? (i := 570) (by decide +kernel)⟩
theorem lw_p10 : lw_okq (⟨"TreadleKernelsModel", "make", "(I)I"⟩, 15) := ⟨⟨by decide +kernel, by decide +kernel⟩, List.mem_of_getElem? (i := 461) (by decide +kernel), List.mem_of_getElem? (i := 573) (by decide +kernel), List.mem_of_getElem? (i := 574) (by decide +kernel)⟩
theorem lw_p11 : lw_okq (⟨"TreadleKernelsModel", "lengthOf", "(I)I"⟩, 15) := ⟨⟨by decide +kernel, by decide +kernel⟩, List.mem_of_getElem? (i := 461) (by decide +kernel), List.mem_of_getElem? (i := 581) (by decide +kernel), List.mem_of_getElem? (i := 582) (by decide +kernel)⟩
theorem lw_p12 : lw_okq (⟨"TreadleKernelsModel", "addRow", "(I)V"⟩, 15) := ⟨⟨by decide +kernel, by decide +kernel⟩, List.mem_of_getElem? (i := 461) (by decide +kernel), List.mem_of_getElem? (i := 585) (by decide +kernel), List.mem_of_getElem? (i := 586) (by decide +kernel)⟩
theorem lw_p13 : lw_okq (⟨"TreadleKernelsModel", "pressOf", "(II)I"⟩, 15) := ⟨⟨by decide +kernel, by decide +kernel⟩, List.mem_of_getElem? (i := 461) (by decide +kernel), List.mem_of_getElem? (i := 589) (by decide +kernel), List.mem_of_getElem? (i := 590) (by decide +kernel)⟩
theorem lw_p14 : lw_okq (⟨"TreadleKernelsModel", "lay", "(I)V"⟩, 15) := ⟨⟨by decide +kernel, by decide +kernel⟩, List.mem_of_getElem? (i := 461) (by decide +kernel), List.mem_of_getElem? (i := 605) (by decide +kernel), List.mem_of_getElem? (i := 606) (by decide +kernel)⟩
theorem lw_p15 : lw_okq (⟨"TreadleKernelsModel", "pressed", "(II)I"⟩, 15) := ⟨⟨by decide +kernel, by decide +kernel⟩, List.mem_of_getElem? (i := 461) (by decide +kernel), List.mem_of_getElem? (i := 609) (by decide +kernel), List.mem_of_getElem? (i := 610) (by decide +kernel)⟩
def lw_privs_1 : List (MethodName × Nat) := [(⟨"TreadleKernels$Past", "dropOldest", "()V"⟩, 2), (⟨"TreadleKernels$Loom", "wayOfPress", "(I)J"⟩, 7), (⟨"TreadleKernels", "gatherWays", "(I)V"⟩, 6), (⟨"TreadleKernels$Search", "note", "(J)V"⟩, 5), (⟨"TreadleKernelsModel", "atHome", "()I"⟩, 15), (⟨"TreadleKernelsModel", "record", "()V"⟩, 15), (⟨"TreadleKernelsModel", "raised", "(I)I"⟩, 15), (⟨"TreadleKernelsModel", "findFault", "()I"⟩, 15), (⟨"TreadleKernelsModel", "readsPress", "()Z"⟩, 15), (⟨"TreadleKernelsModel", "next", "()I"⟩, 15), (⟨"TreadleKernelsModel", "make", "(I)I"⟩, 15), (⟨"TreadleKernelsModel", "lengthOf", "(I)I"⟩, 15), (⟨"TreadleKernelsModel", "addRow", "(I)V"⟩, 15), (⟨"TreadleKernelsModel", "pressOf", "(II)I"⟩, 15), (⟨"TreadleKernelsModel", "lay", "(I)V"⟩, 15), (⟨"TreadleKernelsModel", "pressed", "(II)I"⟩, 15)]
theorem lw_r1 : ∀ q ∈ lw_privs_1, lw_okq q := List.forall_mem_cons.mpr ⟨lw_p0, List.forall_mem_cons.mpr ⟨lw_p1, List.forall_mem_cons.mpr ⟨lw_p2, List.forall_mem_cons.mpr ⟨lw_p3, List.forall_mem_cons.mpr ⟨lw_p4, List.forall_mem_cons.mpr ⟨lw_p5, List.forall_mem_cons.mpr ⟨lw_p6, List.forall_mem_cons.mpr ⟨lw_p7, List.forall_mem_cons.mpr ⟨lw_p8, List.forall_mem_cons.mpr ⟨lw_p9, List.forall_mem_cons.mpr ⟨lw_p10, List.forall_mem_cons.mpr ⟨lw_p11, List.forall_mem_cons.mpr ⟨lw_p12, List.forall_mem_cons.mpr ⟨lw_p13, List.forall_mem_cons.mpr ⟨lw_p14, List.forall_mem_cons.mpr ⟨lw_p15, fun _ h => absurd h List.not_mem_nil⟩⟩⟩⟩⟩⟩⟩⟩⟩⟩⟩⟩⟩⟩⟩⟩
theorem lw_p16 : lw_okq (⟨"TreadleKernelsModel", "takeThreads", "()V"⟩, 15) := ⟨⟨by decide +kernel, by decide +kernel⟩, List.mem_of_getElem? (i := 461) (by decide +kernel), List.mem_of_getElem? (i := 613) (by decide +kernel), List.mem_of_getElem? (i := 614) (by decide +kernel)⟩
theorem lw_p17 : lw_okq (⟨"TreadleKernelsModel", "weaveOnce", "(I)V"⟩, 15) := ⟨⟨by decide +kernel, by decide +kernel⟩, List.mem_of_getElem? (i := 461) (by decide +kernel), List.mem_of_getElem? (i := 617) (by decide +kernel), List.mem_of_getElem? (i := 618) (by decide +kernel)⟩
theorem lw_p18 : lw_okq (⟨"TreadleKernelsModel", "comesBy", "(II)I"⟩, 15) := ⟨⟨by decide +kernel, by decide +kernel⟩, List.mem_of_getElem? (i := 461) (by decide +kernel), List.mem_of_getElem? (i := 621) (by decide +kernel), List.mem_of_getElem? (i := 622) (by decide +kernel)⟩
theorem lw_p19 : lw_okq (⟨"TreadleKernelsModel", "raising", "(I)I"⟩, 15) := ⟨⟨by decide +kernel, by decide +kernel⟩, List.mem_of_getElem? (i := 461) (by decide +kernel), List.mem_of_getElem? (i := 633) (by decide +kernel), List.mem_of_getElem? (i := 634) (by decide +kernel)⟩
theorem lw_p20 : lw_okq (⟨"TreadleKernelsModel", "orderOf", "(I)I"⟩, 15) := ⟨⟨by decide +kernel, by decide +kernel⟩, List.mem_of_getElem? (i := 461) (by decide +kernel), List.mem_of_getElem? (i := 645) (by decide +kernel), List.mem_of_getElem? (i := 646) (by decide +kernel)⟩
theorem lw_p21 : lw_okq (⟨"TreadleKernelsModel", "cycleOf", "(II)I"⟩, 15) := ⟨⟨by decide +kernel, by decide +kernel⟩, List.mem_of_getElem? (i := 461) (by decide +kernel), List.mem_of_getElem? (i := 649) (by decide +kernel), List.mem_of_getElem? (i := 650) (by decide +kernel)⟩
theorem lw_p22 : lw_okq (⟨"TreadleKernelsModel", "stays", "(I)I"⟩, 15) := ⟨⟨by decide +kernel, by decide +kernel⟩, List.mem_of_getElem? (i := 461) (by decide +kernel), List.mem_of_getElem? (i := 653) (by decide +kernel), List.mem_of_getElem? (i := 654) (by decide +kernel)⟩
theorem lw_p23 : lw_okq (⟨"TreadleKernelsModel", "cycles", "(I)I"⟩, 15) := ⟨⟨by decide +kernel, by decide +kernel⟩, List.mem_of_getElem? (i := 461) (by decide +kernel), List.mem_of_getElem? (i := 657) (by decide +kernel), List.mem_of_getElem? (i := 658) (by decide +kernel)⟩
theorem lw_p24 : lw_okq (⟨"TreadleKernelsModel", "longest", "(I)I"⟩, 15) := ⟨⟨by decide +kernel, by decide +kernel⟩, List.mem_of_getElem? (i := 461) (by decide +kernel), List.mem_of_getElem? (i := 661) (by decide +kernel), List.mem_of_getElem? (i := 662) (by decide +kernel)⟩
theorem lw_p25 : lw_okq (⟨"TreadleKernelsModel", "turnedPairs", "(I)I"⟩, 15) := ⟨⟨by decide +kernel, by decide +kernel⟩, List.mem_of_getElem? (i := 461) (by decide +kernel), List.mem_of_getElem? (i := 665) (by decide +kernel), List.mem_of_getElem? (i := 666) (by decide +kernel)⟩
theorem lw_p26 : lw_okq (⟨"TreadleKernelsModel", "repeats", "(I)I"⟩, 15) := ⟨⟨by decide +kernel, by decide +kernel⟩, List.mem_of_getElem? (i := 461) (by decide +kernel), List.mem_of_getElem? (i := 669) (by decide +kernel), List.mem_of_getElem? (i := 670) (by decide +kernel)⟩
theorem lw_p27 : lw_okq (⟨"TreadleKernelsModel", "isSameCloth", "()Z"⟩, 15) := ⟨⟨by decide +kernel, by decide +kernel⟩, List.mem_of_getElem? (i := 461) (by decide +kernel), List.mem_of_getElem? (i := 673) (by decide +kernel), List.mem_of_getElem? (i := 674) (by decide +kernel)⟩
theorem lw_p28 : lw_okq (⟨"TreadleKernelsModel", "neverRaised", "()I"⟩, 15) := ⟨⟨by decide +kernel, by decide +kernel⟩, List.mem_of_getElem? (i := 461) (by decide +kernel), List.mem_of_getElem? (i := 690) (by decide +kernel), List.mem_of_getElem? (i := 691) (by decide +kernel)⟩
theorem lw_p29 : lw_okq (⟨"TreadleKernelsModel", "pressedDrafts", "()I"⟩, 15) := ⟨⟨by decide +kernel, by decide +kernel⟩, List.mem_of_getElem? (i := 461) (by decide +kernel), List.mem_of_getElem? (i := 694) (by decide +kernel), List.mem_of_getElem? (i := 695) (by decide +kernel)⟩
theorem lw_p30 : lw_okq (⟨"TreadleKernelsModel", "layAll", "()V"⟩, 15) := ⟨⟨by decide +kernel, by decide +kernel⟩, List.mem_of_getElem? (i := 461) (by decide +kernel), List.mem_of_getElem? (i := 705) (by decide +kernel), List.mem_of_getElem? (i := 706) (by decide +kernel)⟩
theorem lw_p31 : lw_okq (⟨"TreadleKernelsModel", "unlike", "(III)I"⟩, 15) := ⟨⟨by decide +kernel, by decide +kernel⟩, List.mem_of_getElem? (i := 461) (by decide +kernel), List.mem_of_getElem? (i := 717) (by decide +kernel), List.mem_of_getElem? (i := 718) (by decide +kernel)⟩
def lw_privs_2 : List (MethodName × Nat) := [(⟨"TreadleKernelsModel", "takeThreads", "()V"⟩, 15), (⟨"TreadleKernelsModel", "weaveOnce", "(I)V"⟩, 15), (⟨"TreadleKernelsModel", "comesBy", "(II)I"⟩, 15), (⟨"TreadleKernelsModel", "raising", "(I)I"⟩, 15), (⟨"TreadleKernelsModel", "orderOf", "(I)I"⟩, 15), (⟨"TreadleKernelsModel", "cycleOf", "(II)I"⟩, 15), (⟨"TreadleKernelsModel", "stays", "(I)I"⟩, 15), (⟨"TreadleKernelsModel", "cycles", "(I)I"⟩, 15), (⟨"TreadleKernelsModel", "longest", "(I)I"⟩, 15), (⟨"TreadleKernelsModel", "turnedPairs", "(I)I"⟩, 15), (⟨"TreadleKernelsModel", "repeats", "(I)I"⟩, 15), (⟨"TreadleKernelsModel", "isSameCloth", "()Z"⟩, 15), (⟨"TreadleKernelsModel", "neverRaised", "()I"⟩, 15), (⟨"TreadleKernelsModel", "pressedDrafts", "()I"⟩, 15), (⟨"TreadleKernelsModel", "layAll", "()V"⟩, 15), (⟨"TreadleKernelsModel", "unlike", "(III)I"⟩, 15)]
theorem lw_r2 : ∀ q ∈ lw_privs_2, lw_okq q := List.forall_mem_cons.mpr ⟨lw_p16, List.forall_mem_cons.mpr ⟨lw_p17, List.forall_mem_cons.mpr ⟨lw_p18, List.forall_mem_cons.mpr ⟨lw_p19, List.forall_mem_cons.mpr ⟨lw_p20, List.forall_mem_cons.mpr ⟨lw_p21, List.forall_mem_cons.mpr ⟨lw_p22, List.forall_mem_cons.mpr ⟨lw_p23, List.forall_mem_cons.mpr ⟨lw_p24, List.forall_mem_cons.mpr ⟨lw_p25, List.forall_mem_cons.mpr ⟨lw_p26, List.forall_mem_cons.mpr ⟨lw_p27, List.forall_mem_cons.mpr ⟨lw_p28, List.forall_mem_cons.mpr ⟨lw_p29, List.forall_mem_cons.mpr ⟨lw_p30, List.forall_mem_cons.mpr ⟨lw_p31, fun _ h => absurd h List.not_mem_nil⟩⟩⟩⟩⟩⟩⟩⟩⟩⟩⟩⟩⟩⟩⟩⟩
theorem lw_p32 : lw_okq (⟨"TreadleKernelsModel", "addWay", "()V"⟩, 15) := ⟨⟨by decide +kernel, by decide +kernel⟩, List.mem_of_getElem? (i := 461) (by decide +kernel), List.mem_of_getElem? (i := 725) (by decide +kernel), List.mem_of_getElem? (i := 726) (by decide +kernel)⟩
theorem lw_p33 : lw_okq (⟨"TreadleKernelsModel", "homeNow", "()I"⟩, 15) := ⟨⟨by decide +kernel, by decide +kernel⟩, List.mem_of_getElem? (i := 461) (by decide +kernel), List.mem_of_getElem? (i := 733) (by decide +kernel), List.mem_of_getElem? (i := 734) (by decide +kernel)⟩
def lw_privs_3 : List (MethodName × Nat) := [(⟨"TreadleKernelsModel", "addWay", "()V"⟩, 15), (⟨"TreadleKernelsModel", "homeNow", "()I"⟩, 15)]
theorem lw_r3 : ∀ q ∈ lw_privs_3, lw_okq q := List.forall_mem_cons.mpr ⟨lw_p32, List.forall_mem_cons.mpr ⟨lw_p33, fun _ h => absurd h List.not_mem_nil⟩⟩
def lw_privs : List (MethodName × Nat) := lw_privs_1 ++ (lw_privs_2 ++ (lw_privs_3))
def lw_tbl : List Cond := k2_sels lw_privs ++ tables_1
theorem lw_privs_ok : ∀ q ∈ lw_privs, lw_okq q := by
  show ∀ q ∈ lw_privs_1 ++ (lw_privs_2 ++ (lw_privs_3)), lw_okq q
  exact List.forall_mem_append.mpr ⟨lw_r1, List.forall_mem_append.mpr ⟨lw_r2, lw_r3⟩⟩
-- ===== end of PART A; then your names; then what follows =====
end
section
/-! ===== BEGIN words of one list among another's, by their places ===== -/
theorem goodIn_r {big : List Cond} (ws : List Cond) (ps : List Nat) (hp : ws = ps.filterMap (fun i => big[i]?)) (h : ws.all goodWord = true) : GoodIn big ws := by
  intro w hw
  have h1 := List.all_eq_true.mp h w hw
  rw [hp] at hw
  obtain ⟨i, -, hi⟩ := List.mem_filterMap.mp hw
  have hm : w ∈ big := by first | exact List.mem_of_getElem? hi | exact List.getElem?_mem hi
  exact ⟨hm, good_of_word h1⟩
theorem goodIn_app {big a b : List Cond} (ha : GoodIn big a) (hb : GoodIn big b) : GoodIn big (a ++ b) := fun w h => (List.mem_append.mp h).elim (ha w) (hb w)
theorem goodIn_ca {big a b : List Cond} {c : Cond} (ha : GoodIn big (c :: a)) (hb : GoodIn big b) : GoodIn big (c :: (a ++ b)) := fun w h => (List.mem_cons.mp h).elim (fun e => ha w (List.mem_cons.mpr (Or.inl e))) (fun h => (List.mem_append.mp h).elim (fun h => ha w (List.mem_cons.mpr (Or.inr h))) (hb w))
theorem goodIn_sub {big ws : List Cond} (hm : ∀ w ∈ ws, w ∈ big) (h : ws.all goodWord = true) : GoodIn big ws := fun w hw => ⟨hm w hw, good_of_word (List.all_eq_true.mp h w hw)⟩
/-! ===== END ===== -/

/-! ===== BEGIN printed: names, fields, word lists, decode rows ===== -/
def RX0 : String := "TreadleKernels$Draft"
def TX0 : u_T := fun k => match k with
  | 0 => ("TreadleKernels$Draft", "presses", "[I", true)
  | _ => ("TreadleKernels$Draft", "length", "I", false)
def tyX0 : Nat → FieldType := fun k => match k with
  | 0 => .array .int
  | _ => .int
abbrev wsX00 : List Cond := u_ws RX0 TX0 2
theorem nmX0 : ∀ a, a < 2 → ∀ b, b < 2 → a ≠ b → (TX0 a).2.1 ≠ (TX0 b).2.1 := by decide +kernel
theorem tyX0_ok : ∀ k, k < 2 → parseFieldDescriptor (TX0 k).2.2.1 = some (tyX0 k) := by decide +kernel
abbrev cX0_init : ByteArray := prog_2_method_1_code
def yX0_init : MethodName := ⟨RX0, "<init>", "()V"⟩
abbrev cX0_pressAt : ByteArray := prog_2_method_2_code
def yX0_pressAt : MethodName := ⟨RX0, "pressAt", "(I)I"⟩
abbrev cX0_add : ByteArray := prog_2_method_3_code
def yX0_add : MethodName := ⟨RX0, "add", "(I)V"⟩
abbrev cX0_append : ByteArray := prog_2_method_4_code
def yX0_append : MethodName := ⟨RX0, "append", "(LTreadleKernels$Draft;)V"⟩
abbrev cX0_appendTurned : ByteArray := prog_2_method_5_code
def yX0_appendTurned : MethodName := ⟨RX0, "appendTurned", "(LTreadleKernels$Draft;)V"⟩
abbrev cX0_copyFrom : ByteArray := prog_2_method_6_code
def yX0_copyFrom : MethodName := ⟨RX0, "copyFrom", "(LTreadleKernels$Draft;)V"⟩
def RX1 : String := "TreadleKernels$Loom"
def TX1 : u_T := fun k => match k with
  | 0 => ("TreadleKernels$Loom", "shafts", "J", false)
  | 1 => ("TreadleKernels$Loom", "threads", "J", false)
  | 2 => ("TreadleKernels$Loom", "colours", "J", false)
  | 3 => ("TreadleKernels$Loom", "ties", "[I", true)
  | 4 => ("TreadleKernels$Loom", "drafts", "[LTreadleKernels$Draft;", true)
  | 5 => ("TreadleKernels$Loom", "pressed", "I", false)
  | _ => ("TreadleKernels$Loom", "picks", "I", false)
def tyX1 : Nat → FieldType := fun k => match k with
  | 0 => .long
  | 1 => .long
  | 2 => .long
  | 3 => .array .int
  | 4 => .array (.object "TreadleKernels$Draft")
  | 5 => .int
  | _ => .int
abbrev wsX10 : List Cond := u_ws RX1 TX1 7
theorem nmX1 : ∀ a, a < 7 → ∀ b, b < 7 → a ≠ b → (TX1 a).2.1 ≠ (TX1 b).2.1 := by decide +kernel
theorem tyX1_ok : ∀ k, k < 7 → parseFieldDescriptor (TX1 k).2.2.1 = some (tyX1 k) := by decide +kernel
abbrev cX1_init : ByteArray := prog_3_method_1_code
def yX1_init : MethodName := ⟨RX1, "<init>", "()V"⟩
abbrev cX1_copyFrom : ByteArray := prog_3_method_2_code
def yX1_copyFrom : MethodName := ⟨RX1, "copyFrom", "(LTreadleKernels$Loom;)V"⟩
abbrev cX1_draftAt : ByteArray := prog_3_method_3_code
def yX1_draftAt : MethodName := ⟨RX1, "draftAt", "(I)LTreadleKernels$Draft;"⟩
abbrev cX1_raisedBy : ByteArray := prog_3_method_4_code
def yX1_raisedBy : MethodName := ⟨RX1, "raisedBy", "(I)I"⟩
abbrev cX1_treadlesRaising : ByteArray := prog_3_method_5_code
def yX1_treadlesRaising : MethodName := ⟨RX1, "treadlesRaising", "(I)I"⟩
abbrev cX1_neverRaised : ByteArray := prog_3_method_6_code
def yX1_neverRaised : MethodName := ⟨RX1, "neverRaised", "()I"⟩
abbrev cX1_draftsWithPresses : ByteArray := prog_3_method_7_code
def yX1_draftsWithPresses : MethodName := ⟨RX1, "draftsWithPresses", "()I"⟩
abbrev cX1_coloursByPlace : ByteArray := prog_3_method_8_code
def yX1_coloursByPlace : MethodName := ⟨RX1, "coloursByPlace", "()J"⟩
abbrev cX1_wayOf : ByteArray := prog_3_method_9_code
def yX1_wayOf : MethodName := ⟨RX1, "wayOf", "(I)J"⟩
abbrev cX1_wayOfPress : ByteArray := prog_3_method_10_code
def yX1_wayOfPress : MethodName := ⟨RX1, "wayOfPress", "(I)J"⟩
def RX2 : String := "TreadleKernels$Pad"
def TX2 : u_T := fun k => match k with
  | 0 => ("TreadleKernels$Pad", "signs", "[C", true)
  | _ => ("TreadleKernels$Pad", "length", "I", false)
def tyX2 : Nat → FieldType := fun k => match k with
  | 0 => .array .char
  | _ => .int
abbrev wsX20 : List Cond := u_ws RX2 TX2 2
theorem nmX2 : ∀ a, a < 2 → ∀ b, b < 2 → a ≠ b → (TX2 a).2.1 ≠ (TX2 b).2.1 := by decide +kernel
theorem tyX2_ok : ∀ k, k < 2 → parseFieldDescriptor (TX2 k).2.2.1 = some (tyX2 k) := by decide +kernel
abbrev cX2_init : ByteArray := prog_4_method_1_code
def yX2_init : MethodName := ⟨RX2, "<init>", "()V"⟩
abbrev cX2_signsIn : ByteArray := prog_4_method_2_code
def yX2_signsIn : MethodName := ⟨RX2, "signsIn", "(J)I"⟩
abbrev cX2_append : ByteArray := prog_4_method_3_code
def yX2_append : MethodName := ⟨RX2, "append", "(JI)V"⟩
abbrev cX2_layOut : ByteArray := prog_4_method_4_code
def yX2_layOut : MethodName := ⟨RX2, "layOut", "(LTreadleKernels$Draft;)I"⟩
abbrev cX2_pressOf : ByteArray := prog_4_method_5_code
def yX2_pressOf : MethodName := ⟨RX2, "pressOf", "(C)I"⟩
abbrev cX2_timesOf : ByteArray := prog_4_method_6_code
def yX2_timesOf : MethodName := ⟨RX2, "timesOf", "(C)I"⟩
def RX3 : String := "TreadleKernels$Past"
def TX3 : u_T := fun k => match k with
  | 0 => ("TreadleKernels$Past", "states", "[LTreadleKernels$Loom;", true)
  | _ => ("TreadleKernels$Past", "length", "I", false)
def tyX3 : Nat → FieldType := fun k => match k with
  | 0 => .array (.object "TreadleKernels$Loom")
  | _ => .int
abbrev wsX30 : List Cond := u_ws RX3 TX3 2
theorem nmX3 : ∀ a, a < 2 → ∀ b, b < 2 → a ≠ b → (TX3 a).2.1 ≠ (TX3 b).2.1 := by decide +kernel
theorem tyX3_ok : ∀ k, k < 2 → parseFieldDescriptor (TX3 k).2.2.1 = some (tyX3 k) := by decide +kernel
abbrev cX3_init : ByteArray := prog_5_method_1_code
def yX3_init : MethodName := ⟨RX3, "<init>", "()V"⟩
abbrev cX3_keep : ByteArray := prog_5_method_2_code
def yX3_keep : MethodName := ⟨RX3, "keep", "(LTreadleKernels$Loom;)V"⟩
abbrev cX3_giveBack : ByteArray := prog_5_method_3_code
def yX3_giveBack : MethodName := ⟨RX3, "giveBack", "(LTreadleKernels$Loom;)V"⟩
abbrev cX3_dropOldest : ByteArray := prog_5_method_4_code
def yX3_dropOldest : MethodName := ⟨RX3, "dropOldest", "()V"⟩
def RX4 : String := "TreadleKernels$Row"
def TX4 : u_T := fun k => match k with
  | _ => ("", "", "", false)
def tyX4 : Nat → FieldType := fun k => match k with
  | _ => .int
abbrev wsX40 : List Cond := u_ws RX4 TX4 0
theorem nmX4 : ∀ a, a < 0 → ∀ b, b < 0 → a ≠ b → (TX4 a).2.1 ≠ (TX4 b).2.1 := by decide +kernel
theorem tyX4_ok : ∀ k, k < 0 → parseFieldDescriptor (TX4 k).2.2.1 = some (tyX4 k) := by decide +kernel
abbrev cX4_at : ByteArray := prog_6_method_2_code
def yX4_at : MethodName := ⟨RX4, "at", "(JI)I"⟩
abbrev cX4_with : ByteArray := prog_6_method_3_code
def yX4_with : MethodName := ⟨RX4, "with", "(JII)J"⟩
abbrev cX4_moved : ByteArray := prog_6_method_4_code
def yX4_moved : MethodName := ⟨RX4, "moved", "(JJ)J"⟩
def RX5 : String := "TreadleKernels$Search"
def TX5 : u_T := fun k => match k with
  | 0 => ("TreadleKernels$Search", "makerWays", "[J", true)
  | 1 => ("TreadleKernels$Search", "makers", "I", false)
  | 2 => ("TreadleKernels$Search", "found", "[J", true)
  | 3 => ("TreadleKernels$Search", "length", "I", false)
  | _ => ("TreadleKernels$Search", "spots", "[J", true)
def tyX5 : Nat → FieldType := fun k => match k with
  | 0 => .array .long
  | 1 => .int
  | 2 => .array .long
  | 3 => .int
  | _ => .array .long
abbrev wsX50 : List Cond := u_ws RX5 TX5 5
theorem nmX5 : ∀ a, a < 5 → ∀ b, b < 5 → a ≠ b → (TX5 a).2.1 ≠ (TX5 b).2.1 := by decide +kernel
theorem tyX5_ok : ∀ k, k < 5 → parseFieldDescriptor (TX5 k).2.2.1 = some (tyX5 k) := by decide +kernel
abbrev cX5_init : ByteArray := prog_7_method_1_code
def yX5_init : MethodName := ⟨RX5, "<init>", "()V"⟩
abbrev cX5_addMaker : ByteArray := prog_7_method_2_code
def yX5_addMaker : MethodName := ⟨RX5, "addMaker", "(J)V"⟩
abbrev cX5_placesFrom : ByteArray := prog_7_method_3_code
def yX5_placesFrom : MethodName := ⟨RX5, "placesFrom", "(I)I"⟩
abbrev cX5_allWays : ByteArray := prog_7_method_4_code
def yX5_allWays : MethodName := ⟨RX5, "allWays", "()I"⟩
abbrev cX5_broughtTo : ByteArray := prog_7_method_5_code
def yX5_broughtTo : MethodName := ⟨RX5, "broughtTo", "(JI)I"⟩
abbrev cX5_note : ByteArray := prog_7_method_6_code
def yX5_note : MethodName := ⟨RX5, "note", "(J)V"⟩
def RX6 : String := "TreadleKernels$Way"
def TX6 : u_T := fun k => match k with
  | _ => ("", "", "", false)
def tyX6 : Nat → FieldType := fun k => match k with
  | _ => .int
abbrev wsX60 : List Cond := u_ws RX6 TX6 0
theorem nmX6 : ∀ a, a < 0 → ∀ b, b < 0 → a ≠ b → (TX6 a).2.1 ≠ (TX6 b).2.1 := by decide +kernel
theorem tyX6_ok : ∀ k, k < 0 → parseFieldDescriptor (TX6 k).2.2.1 = some (tyX6 k) := by decide +kernel
abbrev cX6_then : ByteArray := prog_8_method_2_code
def yX6_then : MethodName := ⟨RX6, "then", "(JJ)J"⟩
abbrev cX6_round : ByteArray := prog_8_method_3_code
def yX6_round : MethodName := ⟨RX6, "round", "(I)J"⟩
abbrev cX6_back : ByteArray := prog_8_method_4_code
def yX6_back : MethodName := ⟨RX6, "back", "(J)J"⟩
abbrev cX6_power : ByteArray := prog_8_method_5_code
def yX6_power : MethodName := ⟨RX6, "power", "(JI)J"⟩
abbrev cX6_alikePlaces : ByteArray := prog_8_method_6_code
def yX6_alikePlaces : MethodName := ⟨RX6, "alikePlaces", "(JJ)I"⟩
abbrev cX6_staying : ByteArray := prog_8_method_7_code
def yX6_staying : MethodName := ⟨RX6, "staying", "(J)I"⟩
abbrev cX6_timesUntilAgain : ByteArray := prog_8_method_8_code
def yX6_timesUntilAgain : MethodName := ⟨RX6, "timesUntilAgain", "(JJ)I"⟩
abbrev cX6_cycleOf : ByteArray := prog_8_method_9_code
def yX6_cycleOf : MethodName := ⟨RX6, "cycleOf", "(JI)I"⟩
abbrev cX6_cycles : ByteArray := prog_8_method_10_code
def yX6_cycles : MethodName := ⟨RX6, "cycles", "(J)I"⟩
abbrev cX6_longestCycle : ByteArray := prog_8_method_11_code
def yX6_longestCycle : MethodName := ⟨RX6, "longestCycle", "(J)I"⟩
abbrev cX6_crossings : ByteArray := prog_8_method_12_code
def yX6_crossings : MethodName := ⟨RX6, "crossings", "(J)I"⟩
def RX7 : String := "TreadleKernels"
def TX7 : u_T := fun k => match k with
  | 0 => ("TreadleKernels", "loom", "LTreadleKernels$Loom;", true)
  | 1 => ("TreadleKernels", "past", "LTreadleKernels$Past;", true)
  | 2 => ("TreadleKernels", "saved", "[LTreadleKernels$Loom;", true)
  | 3 => ("TreadleKernels", "pad", "LTreadleKernels$Pad;", true)
  | 4 => ("TreadleKernels", "search", "LTreadleKernels$Search;", true)
  | _ => ("TreadleKernels", "fresh", "LTreadleKernels$Draft;", true)
def tyX7 : Nat → FieldType := fun k => match k with
  | 0 => .object "TreadleKernels$Loom"
  | 1 => .object "TreadleKernels$Past"
  | 2 => .array (.object "TreadleKernels$Loom")
  | 3 => .object "TreadleKernels$Pad"
  | 4 => .object "TreadleKernels$Search"
  | _ => .object "TreadleKernels$Draft"
abbrev wsX70 : List Cond := u_ws RX7 TX7 6
theorem nmX7 : ∀ a, a < 6 → ∀ b, b < 6 → a ≠ b → (TX7 a).2.1 ≠ (TX7 b).2.1 := by decide +kernel
theorem tyX7_ok : ∀ k, k < 6 → parseFieldDescriptor (TX7 k).2.2.1 = some (tyX7 k) := by decide +kernel
abbrev cX7_init : ByteArray := prog_1_method_1_code
def yX7_init : MethodName := ⟨RX7, "<init>", "()V"⟩
abbrev cX7_put : ByteArray := prog_1_method_2_code
def yX7_put : MethodName := ⟨RX7, "put", "(II)I"⟩
abbrev cX7_tie : ByteArray := prog_1_method_3_code
def yX7_tie : MethodName := ⟨RX7, "tie", "(II)I"⟩
abbrev cX7_read : ByteArray := prog_1_method_4_code
def yX7_read : MethodName := ⟨RX7, "read", "(I)I"⟩
abbrev cX7_compose : ByteArray := prog_1_method_5_code
def yX7_compose : MethodName := ⟨RX7, "compose", "(III)I"⟩
abbrev cX7_turnRound : ByteArray := prog_1_method_6_code
def yX7_turnRound : MethodName := ⟨RX7, "turnRound", "(II)I"⟩
abbrev cX7_repeat : ByteArray := prog_1_method_7_code
def yX7_repeat : MethodName := ⟨RX7, "repeat", "(III)I"⟩
abbrev cX7_weave : ByteArray := prog_1_method_8_code
def yX7_weave : MethodName := ⟨RX7, "weave", "(II)I"⟩
abbrev cX7_dye : ByteArray := prog_1_method_9_code
def yX7_dye : MethodName := ⟨RX7, "dye", "(II)I"⟩
abbrev cX7_place : ByteArray := prog_1_method_10_code
def yX7_place : MethodName := ⟨RX7, "place", "(II)I"⟩
abbrev cX7_treadle : ByteArray := prog_1_method_11_code
def yX7_treadle : MethodName := ⟨RX7, "treadle", "(II)I"⟩
abbrev cX7_draft : ByteArray := prog_1_method_12_code
def yX7_draft : MethodName := ⟨RX7, "draft", "(II)I"⟩
abbrev cX7_press : ByteArray := prog_1_method_13_code
def yX7_press : MethodName := ⟨RX7, "press", "(II)I"⟩
abbrev cX7_comesTo : ByteArray := prog_1_method_14_code
def yX7_comesTo : MethodName := ⟨RX7, "comesTo", "(III)I"⟩
abbrev cX7_count : ByteArray := prog_1_method_15_code
def yX7_count : MethodName := ⟨RX7, "count", "(I)I"⟩
abbrev cX7_kernel : ByteArray := prog_1_method_16_code
def yX7_kernel : MethodName := ⟨RX7, "kernel", "(I)I"⟩
abbrev cX7_orbit : ByteArray := prog_1_method_17_code
def yX7_orbit : MethodName := ⟨RX7, "orbit", "(II)I"⟩
abbrev cX7_pair : ByteArray := prog_1_method_18_code
def yX7_pair : MethodName := ⟨RX7, "pair", "(III)I"⟩
abbrev cX7_ways : ByteArray := prog_1_method_19_code
def yX7_ways : MethodName := ⟨RX7, "ways", "(I)I"⟩
abbrev cX7_untilHome : ByteArray := prog_1_method_20_code
def yX7_untilHome : MethodName := ⟨RX7, "untilHome", "(I)I"⟩
abbrev cX7_bestDraft : ByteArray := prog_1_method_21_code
def yX7_bestDraft : MethodName := ⟨RX7, "bestDraft", "(I)I"⟩
abbrev cX7_write : ByteArray := prog_1_method_22_code
def yX7_write : MethodName := ⟨RX7, "write", "(J)I"⟩
abbrev cX7_wipe : ByteArray := prog_1_method_23_code
def yX7_wipe : MethodName := ⟨RX7, "wipe", "()I"⟩
abbrev cX7_fault : ByteArray := prog_1_method_24_code
def yX7_fault : MethodName := ⟨RX7, "fault", "()I"⟩
abbrev cX7_undo : ByteArray := prog_1_method_25_code
def yX7_undo : MethodName := ⟨RX7, "undo", "()I"⟩
abbrev cX7_save : ByteArray := prog_1_method_26_code
def yX7_save : MethodName := ⟨RX7, "save", "(I)I"⟩
abbrev cX7_restore : ByteArray := prog_1_method_27_code
def yX7_restore : MethodName := ⟨RX7, "restore", "(I)I"⟩
abbrev cX7_gatherWays : ByteArray := prog_1_method_28_code
def yX7_gatherWays : MethodName := ⟨RX7, "gatherWays", "(I)V"⟩
abbrev cX7_isBelow : ByteArray := prog_1_method_29_code
def yX7_isBelow : MethodName := ⟨RX7, "isBelow", "(II)Z"⟩
abbrev cX7_hasBit : ByteArray := prog_1_method_30_code
def yX7_hasBit : MethodName := ⟨RX7, "hasBit", "(II)Z"⟩
abbrev cX7_asNumber : ByteArray := prog_1_method_31_code
def yX7_asNumber : MethodName := ⟨RX7, "asNumber", "(Z)I"⟩
def RX8 : String := "TreadleKernelsModel"
def TX8 : u_T := fun k => match k with
  | 0 => ("TreadleKernelsModel", "state", "[I", true)
  | 1 => ("TreadleKernelsModel", "history", "[I", true)
  | 2 => ("TreadleKernelsModel", "states", "I", false)
  | 3 => ("TreadleKernelsModel", "slots", "[I", true)
  | 4 => ("TreadleKernelsModel", "isSaved", "[I", true)
  | 5 => ("TreadleKernelsModel", "pad", "[I", true)
  | 6 => ("TreadleKernelsModel", "length", "I", false)
  | 7 => ("TreadleKernelsModel", "at", "I", false)
  | 8 => ("TreadleKernelsModel", "row", "[I", true)
  | 9 => ("TreadleKernelsModel", "rowLength", "I", false)
  | 10 => ("TreadleKernelsModel", "comes", "[I", true)
  | 11 => ("TreadleKernelsModel", "now", "[I", true)
  | 12 => ("TreadleKernelsModel", "then", "[I", true)
  | 13 => ("TreadleKernelsModel", "found", "[I", true)
  | _ => ("TreadleKernelsModel", "foundMany", "I", false)
def tyX8 : Nat → FieldType := fun k => match k with
  | 0 => .array .int
  | 1 => .array .int
  | 2 => .int
  | 3 => .array .int
  | 4 => .array .int
  | 5 => .array .int
  | 6 => .int
  | 7 => .int
  | 8 => .array .int
  | 9 => .int
  | 10 => .array .int
  | 11 => .array .int
  | 12 => .array .int
  | 13 => .array .int
  | _ => .int
abbrev wsX80 : List Cond := u_ws RX8 TX8 15
theorem nmX8 : ∀ a, a < 15 → ∀ b, b < 15 → a ≠ b → (TX8 a).2.1 ≠ (TX8 b).2.1 := by decide +kernel
theorem tyX8_ok : ∀ k, k < 15 → parseFieldDescriptor (TX8 k).2.2.1 = some (tyX8 k) := by decide +kernel
abbrev cX8_init : ByteArray := prog_10_method_1_code
def yX8_init : MethodName := ⟨RX8, "<init>", "()V"⟩
abbrev cX8_within : ByteArray := prog_10_method_2_code
def yX8_within : MethodName := ⟨RX8, "within", "(III)Z"⟩
abbrev cX8_isPlace : ByteArray := prog_10_method_3_code
def yX8_isPlace : MethodName := ⟨RX8, "isPlace", "(I)Z"⟩
abbrev cX8_isDraft : ByteArray := prog_10_method_4_code
def yX8_isDraft : MethodName := ⟨RX8, "isDraft", "(I)Z"⟩
abbrev cX8_areDrafts : ByteArray := prog_10_method_5_code
def yX8_areDrafts : MethodName := ⟨RX8, "areDrafts", "(I)Z"⟩
abbrev cX8_ones : ByteArray := prog_10_method_6_code
def yX8_ones : MethodName := ⟨RX8, "ones", "(I)I"⟩
abbrev cX8_record : ByteArray := prog_10_method_7_code
def yX8_record : MethodName := ⟨RX8, "record", "()V"⟩
abbrev cX8_undo : ByteArray := prog_10_method_8_code
def yX8_undo : MethodName := ⟨RX8, "undo", "()I"⟩
abbrev cX8_save : ByteArray := prog_10_method_9_code
def yX8_save : MethodName := ⟨RX8, "save", "(I)I"⟩
abbrev cX8_restore : ByteArray := prog_10_method_10_code
def yX8_restore : MethodName := ⟨RX8, "restore", "(I)I"⟩
abbrev cX8_raised : ByteArray := prog_10_method_11_code
def yX8_raised : MethodName := ⟨RX8, "raised", "(I)I"⟩
abbrev cX8_atHome : ByteArray := prog_10_method_12_code
def yX8_atHome : MethodName := ⟨RX8, "atHome", "()I"⟩
abbrev cX8_pressed : ByteArray := prog_10_method_13_code
def yX8_pressed : MethodName := ⟨RX8, "pressed", "(II)I"⟩
abbrev cX8_lengthOf : ByteArray := prog_10_method_14_code
def yX8_lengthOf : MethodName := ⟨RX8, "lengthOf", "(I)I"⟩
abbrev cX8_pressOf : ByteArray := prog_10_method_15_code
def yX8_pressOf : MethodName := ⟨RX8, "pressOf", "(II)I"⟩
abbrev cX8_lay : ByteArray := prog_10_method_16_code
def yX8_lay : MethodName := ⟨RX8, "lay", "(I)V"⟩
abbrev cX8_comesBy : ByteArray := prog_10_method_17_code
def yX8_comesBy : MethodName := ⟨RX8, "comesBy", "(II)I"⟩
abbrev cX8_layAll : ByteArray := prog_10_method_18_code
def yX8_layAll : MethodName := ⟨RX8, "layAll", "()V"⟩
abbrev cX8_stays : ByteArray := prog_10_method_19_code
def yX8_stays : MethodName := ⟨RX8, "stays", "(I)I"⟩
abbrev cX8_cycleOf : ByteArray := prog_10_method_20_code
def yX8_cycleOf : MethodName := ⟨RX8, "cycleOf", "(II)I"⟩
abbrev cX8_orderOf : ByteArray := prog_10_method_21_code
def yX8_orderOf : MethodName := ⟨RX8, "orderOf", "(I)I"⟩
abbrev cX8_cycles : ByteArray := prog_10_method_22_code
def yX8_cycles : MethodName := ⟨RX8, "cycles", "(I)I"⟩
abbrev cX8_longest : ByteArray := prog_10_method_23_code
def yX8_longest : MethodName := ⟨RX8, "longest", "(I)I"⟩
abbrev cX8_turnedPairs : ByteArray := prog_10_method_24_code
def yX8_turnedPairs : MethodName := ⟨RX8, "turnedPairs", "(I)I"⟩
abbrev cX8_takeThreads : ByteArray := prog_10_method_25_code
def yX8_takeThreads : MethodName := ⟨RX8, "takeThreads", "()V"⟩
abbrev cX8_weaveOnce : ByteArray := prog_10_method_26_code
def yX8_weaveOnce : MethodName := ⟨RX8, "weaveOnce", "(I)V"⟩
abbrev cX8_isSameCloth : ByteArray := prog_10_method_27_code
def yX8_isSameCloth : MethodName := ⟨RX8, "isSameCloth", "()Z"⟩
abbrev cX8_repeats : ByteArray := prog_10_method_28_code
def yX8_repeats : MethodName := ⟨RX8, "repeats", "(I)I"⟩
abbrev cX8_homeNow : ByteArray := prog_10_method_29_code
def yX8_homeNow : MethodName := ⟨RX8, "homeNow", "()I"⟩
abbrev cX8_put : ByteArray := prog_10_method_30_code
def yX8_put : MethodName := ⟨RX8, "put", "(II)I"⟩
abbrev cX8_tie : ByteArray := prog_10_method_31_code
def yX8_tie : MethodName := ⟨RX8, "tie", "(II)I"⟩
abbrev cX8_make : ByteArray := prog_10_method_32_code
def yX8_make : MethodName := ⟨RX8, "make", "(I)I"⟩
abbrev cX8_addRow : ByteArray := prog_10_method_33_code
def yX8_addRow : MethodName := ⟨RX8, "addRow", "(I)V"⟩
abbrev cX8_read : ByteArray := prog_10_method_34_code
def yX8_read : MethodName := ⟨RX8, "read", "(I)I"⟩
abbrev cX8_compose : ByteArray := prog_10_method_35_code
def yX8_compose : MethodName := ⟨RX8, "compose", "(III)I"⟩
abbrev cX8_turnRound : ByteArray := prog_10_method_36_code
def yX8_turnRound : MethodName := ⟨RX8, "turnRound", "(II)I"⟩
abbrev cX8_repeat : ByteArray := prog_10_method_37_code
def yX8_repeat : MethodName := ⟨RX8, "repeat", "(III)I"⟩
abbrev cX8_weave : ByteArray := prog_10_method_38_code
def yX8_weave : MethodName := ⟨RX8, "weave", "(II)I"⟩
abbrev cX8_dye : ByteArray := prog_10_method_39_code
def yX8_dye : MethodName := ⟨RX8, "dye", "(II)I"⟩
abbrev cX8_raising : ByteArray := prog_10_method_40_code
def yX8_raising : MethodName := ⟨RX8, "raising", "(I)I"⟩
abbrev cX8_place : ByteArray := prog_10_method_41_code
def yX8_place : MethodName := ⟨RX8, "place", "(II)I"⟩
abbrev cX8_treadle : ByteArray := prog_10_method_42_code
def yX8_treadle : MethodName := ⟨RX8, "treadle", "(II)I"⟩
abbrev cX8_draft : ByteArray := prog_10_method_43_code
def yX8_draft : MethodName := ⟨RX8, "draft", "(II)I"⟩
abbrev cX8_press : ByteArray := prog_10_method_44_code
def yX8_press : MethodName := ⟨RX8, "press", "(II)I"⟩
abbrev cX8_comesTo : ByteArray := prog_10_method_45_code
def yX8_comesTo : MethodName := ⟨RX8, "comesTo", "(III)I"⟩
abbrev cX8_neverRaised : ByteArray := prog_10_method_46_code
def yX8_neverRaised : MethodName := ⟨RX8, "neverRaised", "()I"⟩
abbrev cX8_pressedDrafts : ByteArray := prog_10_method_47_code
def yX8_pressedDrafts : MethodName := ⟨RX8, "pressedDrafts", "()I"⟩
abbrev cX8_count : ByteArray := prog_10_method_48_code
def yX8_count : MethodName := ⟨RX8, "count", "(I)I"⟩
abbrev cX8_kernel : ByteArray := prog_10_method_49_code
def yX8_kernel : MethodName := ⟨RX8, "kernel", "(I)I"⟩
abbrev cX8_orbit : ByteArray := prog_10_method_50_code
def yX8_orbit : MethodName := ⟨RX8, "orbit", "(II)I"⟩
abbrev cX8_unlike : ByteArray := prog_10_method_51_code
def yX8_unlike : MethodName := ⟨RX8, "unlike", "(III)I"⟩
abbrev cX8_pair : ByteArray := prog_10_method_52_code
def yX8_pair : MethodName := ⟨RX8, "pair", "(III)I"⟩
abbrev cX8_addWay : ByteArray := prog_10_method_53_code
def yX8_addWay : MethodName := ⟨RX8, "addWay", "()V"⟩
abbrev cX8_ways : ByteArray := prog_10_method_54_code
def yX8_ways : MethodName := ⟨RX8, "ways", "(I)I"⟩
abbrev cX8_untilHome : ByteArray := prog_10_method_55_code
def yX8_untilHome : MethodName := ⟨RX8, "untilHome", "(I)I"⟩
abbrev cX8_bestDraft : ByteArray := prog_10_method_56_code
def yX8_bestDraft : MethodName := ⟨RX8, "bestDraft", "(I)I"⟩
abbrev cX8_codeAt : ByteArray := prog_10_method_57_code
def yX8_codeAt : MethodName := ⟨RX8, "codeAt", "(JI)I"⟩
abbrev cX8_charactersIn : ByteArray := prog_10_method_58_code
def yX8_charactersIn : MethodName := ⟨RX8, "charactersIn", "(J)I"⟩
abbrev cX8_write : ByteArray := prog_10_method_59_code
def yX8_write : MethodName := ⟨RX8, "write", "(J)I"⟩
abbrev cX8_wipe : ByteArray := prog_10_method_60_code
def yX8_wipe : MethodName := ⟨RX8, "wipe", "()I"⟩
abbrev cX8_next : ByteArray := prog_10_method_61_code
def yX8_next : MethodName := ⟨RX8, "next", "()I"⟩
abbrev cX8_readsPress : ByteArray := prog_10_method_62_code
def yX8_readsPress : MethodName := ⟨RX8, "readsPress", "()Z"⟩
abbrev cX8_findFault : ByteArray := prog_10_method_63_code
def yX8_findFault : MethodName := ⟨RX8, "findFault", "()I"⟩
abbrev cX8_fault : ByteArray := prog_10_method_64_code
def yX8_fault : MethodName := ⟨RX8, "fault", "()I"⟩
def RJ6 : String := "java/lang/Integer"
def TJ6 : u_T := fun k => match k with
  | _ => ("", "", "", false)
def tyJ6 : Nat → FieldType := fun k => match k with
  | _ => .int
abbrev wsJ60 : List Cond := u_ws RJ6 TJ6 0
theorem nmJ6 : ∀ a, a < 0 → ∀ b, b < 0 → a ≠ b → (TJ6 a).2.1 ≠ (TJ6 b).2.1 := by decide +kernel
theorem tyJ6_ok : ∀ k, k < 0 → parseFieldDescriptor (TJ6 k).2.2.1 = some (tyJ6 k) := by decide +kernel
abbrev cJ6_bitCount_0f7a4 : ByteArray := prog_11_method_49_code
def yJ6_bitCount_0f7a4 : MethodName := ⟨RJ6, "bitCount", "(I)I"⟩
def RJ10 : String := "java/lang/System"
def TJ10 : u_T := fun k => match k with
  | _ => ("", "", "", false)
def tyJ10 : Nat → FieldType := fun k => match k with
  | _ => .int
abbrev wsJ100 : List Cond := u_ws RJ10 TJ10 0
theorem nmJ10 : ∀ a, a < 0 → ∀ b, b < 0 → a ≠ b → (TJ10 a).2.1 ≠ (TJ10 b).2.1 := by decide +kernel
theorem tyJ10_ok : ∀ k, k < 0 → parseFieldDescriptor (TJ10 k).2.2.1 = some (tyJ10 k) := by decide +kernel
def RL : String := "TreadleKernelsLaw"
abbrev cL_law : ByteArray := code
def yL_law : MethodName := ⟨RL, "law", "([I)Z"⟩
def wsX0_init : List Cond := .code yX0_init cX0_init 1 none :: ([.methodLink RX0 3 objectInit, .instanceMethod objectInit, .code objectInit ⟨#[0xb1]⟩ 1 none, .arrayClass .int, .fieldLink RX0 9 "TreadleKernels$Draft" "presses" "[I", .fieldLink RX0 15 "TreadleKernels$Draft" "length" "I"] ++ wsX00)
def wsX7_isBelow : List Cond := .code yX7_isBelow cX7_isBelow 2 (some .boolean) :: ([])
def wsX0_pressAt : List Cond := .code yX0_pressAt cX0_pressAt 2 (some .int) :: ([.fieldLink RX0 9 "TreadleKernels$Draft" "presses" "[I", .static yX7_isBelow, .initialized RX7, .code yX7_isBelow cX7_isBelow 2 (some .boolean)] ++ wsX00)
def wsX0_add : List Cond := .code yX0_add cX0_add 2 none :: ([.fieldLink RX0 15 "TreadleKernels$Draft" "length" "I", .fieldLink RX0 9 "TreadleKernels$Draft" "presses" "[I", .static yX7_isBelow, .initialized RX7, .code yX7_isBelow cX7_isBelow 2 (some .boolean)] ++ wsX00)
def wsX0_append : List Cond := .code yX0_append cX0_append 3 none :: ([.fieldLink RX0 15 "TreadleKernels$Draft" "length" "I", .methodLink RX0 23 yX0_pressAt, .instanceMethod yX0_pressAt, .selects RX0 yX0_pressAt yX0_pressAt, .initialized RX0, .code yX0_pressAt cX0_pressAt 2 (some .int), .fieldLink RX0 9 "TreadleKernels$Draft" "presses" "[I", .static yX7_isBelow, .initialized RX7, .code yX7_isBelow cX7_isBelow 2 (some .boolean), .methodLink RX0 27 yX0_add, .instanceMethod yX0_add, .selects RX0 yX0_add yX0_add, .code yX0_add cX0_add 2 none] ++ wsX00)
def wsX0_appendTurned : List Cond := .code yX0_appendTurned cX0_appendTurned 3 none :: ([.fieldLink RX0 15 "TreadleKernels$Draft" "length" "I", .methodLink RX0 23 yX0_pressAt, .instanceMethod yX0_pressAt, .selects RX0 yX0_pressAt yX0_pressAt, .initialized RX0, .code yX0_pressAt cX0_pressAt 2 (some .int), .fieldLink RX0 9 "TreadleKernels$Draft" "presses" "[I", .static yX7_isBelow, .initialized RX7, .code yX7_isBelow cX7_isBelow 2 (some .boolean), .methodLink RX0 27 yX0_add, .instanceMethod yX0_add, .selects RX0 yX0_add yX0_add, .code yX0_add cX0_add 2 none] ++ wsX00)
def wsX0_copyFrom : List Cond := .code yX0_copyFrom cX0_copyFrom 2 none :: ([.fieldLink RX0 9 "TreadleKernels$Draft" "presses" "[I", .methodLink RX0 31 arraycopyName, .native arraycopyName, .static arraycopyName, .initialized "java/lang/System", .fieldLink RX0 15 "TreadleKernels$Draft" "length" "I"] ++ wsX00)
def wsX1_init : List Cond := .code yX1_init cX1_init 2 none :: ([.methodLink RX1 3 objectInit, .instanceMethod objectInit, .code objectInit ⟨#[0xb1]⟩ 1 none, .constantLong RX1 11 (92573999051280), .fieldLink RX1 13 "TreadleKernels$Loom" "shafts" "J", .constantLong RX1 19 (205163983024656), .fieldLink RX1 21 "TreadleKernels$Loom" "threads" "J", .fieldLink RX1 24 "TreadleKernels$Loom" "colours" "J", .arrayClass .int, .fieldLink RX1 27 "TreadleKernels$Loom" "ties" "[I", .classLink RX1 31 RX0, .fieldLink RX1 33 "TreadleKernels$Loom" "drafts" "[LTreadleKernels$Draft;", .fieldLink RX1 37 "TreadleKernels$Loom" "pressed" "I", .fieldLink RX1 41 "TreadleKernels$Loom" "picks" "I", .instantiable RX0 2, .initialized RX0, .instanceMethod yX0_init, .code yX0_init cX0_init 1 none, .methodLink RX0 3 objectInit, .fieldLink RX0 9 "TreadleKernels$Draft" "presses" "[I", .fieldLink RX0 15 "TreadleKernels$Draft" "length" "I"] ++ wsX10 ++ wsX00)
def wsX1_copyFrom : List Cond := .code yX1_copyFrom cX1_copyFrom 5 none :: ([.fieldLink RX1 13 "TreadleKernels$Loom" "shafts" "J", .fieldLink RX1 21 "TreadleKernels$Loom" "threads" "J", .fieldLink RX1 24 "TreadleKernels$Loom" "colours" "J", .fieldLink RX1 27 "TreadleKernels$Loom" "ties" "[I", .methodLink RX1 45 arraycopyName, .native arraycopyName, .static arraycopyName, .initialized "java/lang/System", .fieldLink RX1 33 "TreadleKernels$Loom" "drafts" "[LTreadleKernels$Draft;", .fieldLink RX1 37 "TreadleKernels$Loom" "pressed" "I", .fieldLink RX1 41 "TreadleKernels$Loom" "picks" "I", .methodLink RX1 51 yX0_copyFrom, .instanceMethod yX0_copyFrom, .selects RX0 yX0_copyFrom yX0_copyFrom, .initialized RX0, .code yX0_copyFrom cX0_copyFrom 2 none, .fieldLink RX0 9 "TreadleKernels$Draft" "presses" "[I", .methodLink RX0 31 arraycopyName, .fieldLink RX0 15 "TreadleKernels$Draft" "length" "I"] ++ wsX10 ++ wsX00)
def wsX1_draftAt : List Cond := .code yX1_draftAt cX1_draftAt 2 (some (.object "TreadleKernels$Draft")) :: ([.fieldLink RX1 33 "TreadleKernels$Loom" "drafts" "[LTreadleKernels$Draft;", .static yX7_isBelow, .initialized RX7, .code yX7_isBelow cX7_isBelow 2 (some .boolean)] ++ wsX10)
def wsX4_at : List Cond := .code yX4_at cX4_at 3 (some .int) :: ([])
def wsX7_hasBit : List Cond := .code yX7_hasBit cX7_hasBit 2 (some .boolean) :: ([])
def wsX1_raisedBy : List Cond := .code yX1_raisedBy cX1_raisedBy 4 (some .int) :: ([.fieldLink RX1 27 "TreadleKernels$Loom" "ties" "[I", .fieldLink RX1 13 "TreadleKernels$Loom" "shafts" "J", .static yX7_isBelow, .initialized RX7, .code yX7_isBelow cX7_isBelow 2 (some .boolean), .methodLink RX1 59 yX4_at, .static yX4_at, .initialized RX4, .code yX4_at cX4_at 3 (some .int), .static yX7_hasBit, .code yX7_hasBit cX7_hasBit 2 (some .boolean)] ++ wsX10)
def wsX1_treadlesRaising : List Cond := .code yX1_treadlesRaising cX1_treadlesRaising 4 (some .int) :: ([.fieldLink RX1 27 "TreadleKernels$Loom" "ties" "[I", .fieldLink RX1 13 "TreadleKernels$Loom" "shafts" "J", .methodLink RX1 59 yX4_at, .static yX4_at, .initialized RX4, .code yX4_at cX4_at 3 (some .int), .static yX7_hasBit, .initialized RX7, .code yX7_hasBit cX7_hasBit 2 (some .boolean)] ++ wsX10)
def wsX1_neverRaised : List Cond := .code yX1_neverRaised cX1_neverRaised 3 (some .int) :: ([.methodLink RX1 66 yX1_raisedBy, .instanceMethod yX1_raisedBy, .selects RX1 yX1_raisedBy yX1_raisedBy, .initialized RX1, .code yX1_raisedBy cX1_raisedBy 4 (some .int), .fieldLink RX1 27 "TreadleKernels$Loom" "ties" "[I", .fieldLink RX1 13 "TreadleKernels$Loom" "shafts" "J", .static yX7_isBelow, .initialized RX7, .code yX7_isBelow cX7_isBelow 2 (some .boolean), .methodLink RX1 59 yX4_at, .static yX4_at, .initialized RX4, .code yX4_at cX4_at 3 (some .int), .static yX7_hasBit, .code yX7_hasBit cX7_hasBit 2 (some .boolean)] ++ wsX10)
def wsX1_draftsWithPresses : List Cond := .code yX1_draftsWithPresses cX1_draftsWithPresses 4 (some .int) :: ([.fieldLink RX1 33 "TreadleKernels$Loom" "drafts" "[LTreadleKernels$Draft;", .fieldLink RX1 70 "TreadleKernels$Draft" "length" "I"] ++ wsX10 ++ wsX00)
def wsX6_then : List Cond := .code yX6_then cX6_then 7 (some .long) :: ([.methodLink RX6 9 yX4_at, .static yX4_at, .initialized RX4, .code yX4_at cX4_at 3 (some .int)])
def wsX1_coloursByPlace : List Cond := .code yX1_coloursByPlace cX1_coloursByPlace 1 (some .long) :: ([.fieldLink RX1 21 "TreadleKernels$Loom" "threads" "J", .fieldLink RX1 24 "TreadleKernels$Loom" "colours" "J", .methodLink RX1 73 yX6_then, .static yX6_then, .initialized RX6, .code yX6_then cX6_then 7 (some .long), .methodLink RX6 9 yX4_at, .static yX4_at, .initialized RX4, .code yX4_at cX4_at 3 (some .int)] ++ wsX10)
def wsX4_with : List Cond := .code yX4_with cX4_with 4 (some .long) :: ([.constantLong RX4 9 (15), .constantLong RX4 11 (-1)])
def wsX6_round : List Cond := .code yX6_round cX6_round 6 (some .long) :: ([.constantLong RX6 15 (205163983024656), .static yX7_hasBit, .initialized RX7, .code yX7_hasBit cX7_hasBit 2 (some .boolean), .methodLink RX6 21 yX4_with, .static yX4_with, .initialized RX4, .code yX4_with cX4_with 4 (some .long), .constantLong RX4 9 (15), .constantLong RX4 11 (-1)])
def wsX4_moved : List Cond := .code yX4_moved cX4_moved 7 (some .long) :: ([.methodLink RX4 13 yX4_at, .static yX4_at, .initialized RX4, .code yX4_at cX4_at 3 (some .int)])
def wsX6_back : List Cond := .code yX6_back cX6_back 2 (some .long) :: ([.constantLong RX6 15 (205163983024656), .methodLink RX6 25 yX4_moved, .static yX4_moved, .initialized RX4, .code yX4_moved cX4_moved 7 (some .long), .methodLink RX4 13 yX4_at, .static yX4_at, .code yX4_at cX4_at 3 (some .int)])
def wsX1_wayOfPress_r1 : List Cond := [Cond.methodLink RX1 66 yX1_raisedBy, Cond.instanceMethod yX1_raisedBy, Cond.selects RX1 yX1_raisedBy yX1_raisedBy, Cond.initialized RX1, Cond.code yX1_raisedBy cX1_raisedBy 4 (some .int), Cond.fieldLink RX1 27 "TreadleKernels$Loom" "ties" "[I", Cond.fieldLink RX1 13 "TreadleKernels$Loom" "shafts" "J", Cond.static yX7_isBelow, Cond.initialized RX7, Cond.code yX7_isBelow cX7_isBelow 2 (some .boolean), Cond.methodLink RX1 59 yX4_at, Cond.static yX4_at, Cond.initialized RX4, Cond.code yX4_at cX4_at 3 (some .int), Cond.static yX7_hasBit, Cond.code yX7_hasBit cX7_hasBit 2 (some .boolean), Cond.methodLink RX1 90 yX6_round, Cond.static yX6_round, Cond.initialized RX6, Cond.code yX6_round cX6_round 6 (some .long), Cond.constantLong RX6 15 (205163983024656), Cond.methodLink RX6 21 yX4_with, Cond.static yX4_with, Cond.code yX4_with cX4_with 4 (some .long)]
def wsX1_wayOfPress_r2 : List Cond := [Cond.constantLong RX4 9 (15), Cond.constantLong RX4 11 (-1), Cond.methodLink RX1 93 yX6_back, Cond.static yX6_back, Cond.code yX6_back cX6_back 2 (some .long), Cond.methodLink RX6 25 yX4_moved, Cond.static yX4_moved, Cond.code yX4_moved cX4_moved 7 (some .long), Cond.methodLink RX4 13 yX4_at]
def wsX1_wayOfPress : List Cond := .code yX1_wayOfPress cX1_wayOfPress 4 (some .long) :: ((wsX1_wayOfPress_r1 ++ wsX1_wayOfPress_r2) ++ wsX10)
def wsX1_wayOf_r1 : List Cond := [Cond.constantLong RX1 19 (205163983024656), Cond.fieldLink RX1 70 "TreadleKernels$Draft" "length" "I", Cond.methodLink RX1 79 yX1_draftAt, Cond.instanceMethod yX1_draftAt, Cond.selects RX1 yX1_draftAt yX1_draftAt, Cond.initialized RX1, Cond.code yX1_draftAt cX1_draftAt 2 (some (.object "TreadleKernels$Draft")), Cond.fieldLink RX1 33 "TreadleKernels$Loom" "drafts" "[LTreadleKernels$Draft;", Cond.static yX7_isBelow, Cond.initialized RX7, Cond.code yX7_isBelow cX7_isBelow 2 (some .boolean), Cond.methodLink RX1 83 yX0_pressAt, Cond.instanceMethod yX0_pressAt, Cond.selects RX0 yX0_pressAt yX0_pressAt, Cond.initialized RX0, Cond.code yX0_pressAt cX0_pressAt 2 (some .int), Cond.fieldLink RX0 9 "TreadleKernels$Draft" "presses" "[I", Cond.methodLink RX1 86 yX1_wayOfPress, Cond.instanceMethod yX1_wayOfPress, Cond.selects RX1 yX1_wayOfPress yX1_wayOfPress, Cond.code yX1_wayOfPress cX1_wayOfPress 4 (some .long), Cond.methodLink RX1 66 yX1_raisedBy, Cond.instanceMethod yX1_raisedBy, Cond.selects RX1 yX1_raisedBy yX1_raisedBy]
def wsX1_wayOf_r2 : List Cond := [Cond.code yX1_raisedBy cX1_raisedBy 4 (some .int), Cond.fieldLink RX1 27 "TreadleKernels$Loom" "ties" "[I", Cond.fieldLink RX1 13 "TreadleKernels$Loom" "shafts" "J", Cond.methodLink RX1 59 yX4_at, Cond.static yX4_at, Cond.initialized RX4, Cond.code yX4_at cX4_at 3 (some .int), Cond.static yX7_hasBit, Cond.code yX7_hasBit cX7_hasBit 2 (some .boolean), Cond.methodLink RX1 90 yX6_round, Cond.static yX6_round, Cond.initialized RX6, Cond.code yX6_round cX6_round 6 (some .long), Cond.constantLong RX6 15 (205163983024656), Cond.methodLink RX6 21 yX4_with, Cond.static yX4_with, Cond.code yX4_with cX4_with 4 (some .long), Cond.constantLong RX4 9 (15), Cond.constantLong RX4 11 (-1), Cond.methodLink RX1 93 yX6_back, Cond.static yX6_back, Cond.code yX6_back cX6_back 2 (some .long), Cond.methodLink RX6 25 yX4_moved, Cond.static yX4_moved]
def wsX1_wayOf_r3 : List Cond := [Cond.code yX4_moved cX4_moved 7 (some .long), Cond.methodLink RX4 13 yX4_at, Cond.methodLink RX1 73 yX6_then, Cond.static yX6_then, Cond.code yX6_then cX6_then 7 (some .long), Cond.methodLink RX6 9 yX4_at]
def wsX1_wayOf : List Cond := .code yX1_wayOf cX1_wayOf 6 (some .long) :: ((wsX1_wayOf_r1 ++ (wsX1_wayOf_r2 ++ wsX1_wayOf_r3)) ++ wsX00 ++ wsX10)
def wsX2_init : List Cond := .code yX2_init cX2_init 1 none :: ([.methodLink RX2 3 objectInit, .instanceMethod objectInit, .code objectInit ⟨#[0xb1]⟩ 1 none, .arrayClass .char, .fieldLink RX2 9 "TreadleKernels$Pad" "signs" "[C", .fieldLink RX2 15 "TreadleKernels$Pad" "length" "I"] ++ wsX20)
def wsX2_signsIn : List Cond := .code yX2_signsIn cX2_signsIn 7 (some .int) :: ([.constantLong RX2 19 (255), .constantLong RX2 21 (33), .constantLong RX2 23 (126)])
def wsX2_append : List Cond := .code yX2_append cX2_append 5 none :: ([.fieldLink RX2 15 "TreadleKernels$Pad" "length" "I", .fieldLink RX2 9 "TreadleKernels$Pad" "signs" "[C", .constantLong RX2 19 (255), .static yX7_isBelow, .initialized RX7, .code yX7_isBelow cX7_isBelow 2 (some .boolean)] ++ wsX20)
def wsX2_pressOf : List Cond := .code yX2_pressOf cX2_pressOf 1 (some .int) :: ([])
def wsX2_timesOf : List Cond := .code yX2_timesOf cX2_timesOf 1 (some .int) :: ([])
def wsX2_layOut : List Cond := .code yX2_layOut cX2_layOut 9 (some .int) :: ([.fieldLink RX2 29 "TreadleKernels$Draft" "length" "I", .fieldLink RX2 15 "TreadleKernels$Pad" "length" "I", .fieldLink RX2 9 "TreadleKernels$Pad" "signs" "[C", .methodLink RX2 32 yX2_pressOf, .static yX2_pressOf, .initialized RX2, .code yX2_pressOf cX2_pressOf 1 (some .int), .methodLink RX2 36 yX2_timesOf, .static yX2_timesOf, .code yX2_timesOf cX2_timesOf 1 (some .int), .methodLink RX2 39 yX0_add, .instanceMethod yX0_add, .selects RX0 yX0_add yX0_add, .initialized RX0, .code yX0_add cX0_add 2 none, .fieldLink RX0 15 "TreadleKernels$Draft" "length" "I", .fieldLink RX0 9 "TreadleKernels$Draft" "presses" "[I", .static yX7_isBelow, .initialized RX7, .code yX7_isBelow cX7_isBelow 2 (some .boolean)] ++ wsX00 ++ wsX20)
def wsX3_init : List Cond := .code yX3_init cX3_init 1 none :: ([.methodLink RX3 3 objectInit, .instanceMethod objectInit, .code objectInit ⟨#[0xb1]⟩ 1 none, .classLink RX3 9 RX1, .fieldLink RX3 11 "TreadleKernels$Past" "states" "[LTreadleKernels$Loom;", .fieldLink RX3 17 "TreadleKernels$Past" "length" "I"] ++ wsX30)
def wsX3_dropOldest : List Cond := .code yX3_dropOldest cX3_dropOldest 3 none :: ([.fieldLink RX3 11 "TreadleKernels$Past" "states" "[LTreadleKernels$Loom;", .fieldLink RX3 17 "TreadleKernels$Past" "length" "I"] ++ wsX30)
def wsX3_keep_r1 : List Cond := [Cond.fieldLink RX3 17 "TreadleKernels$Past" "length" "I", Cond.fieldLink RX3 11 "TreadleKernels$Past" "states" "[LTreadleKernels$Loom;", Cond.classLink RX3 9 RX1, Cond.instantiable RX1 7, Cond.initialized RX1, Cond.methodLink RX3 21 yX3_dropOldest, Cond.instanceMethod yX3_dropOldest, Cond.selects RX3 yX3_dropOldest yX3_dropOldest, Cond.initialized RX3, Cond.code yX3_dropOldest cX3_dropOldest 3 none, Cond.static yX7_isBelow, Cond.initialized RX7, Cond.code yX7_isBelow cX7_isBelow 2 (some .boolean), Cond.methodLink RX3 28 yX1_init, Cond.instanceMethod yX1_init, Cond.code yX1_init cX1_init 2 none, Cond.methodLink RX1 3 objectInit, Cond.instanceMethod objectInit, Cond.code objectInit ⟨#[0xb1]⟩ 1 none, Cond.constantLong RX1 11 (92573999051280), Cond.fieldLink RX1 13 "TreadleKernels$Loom" "shafts" "J", Cond.constantLong RX1 19 (205163983024656), Cond.fieldLink RX1 21 "TreadleKernels$Loom" "threads" "J", Cond.fieldLink RX1 24 "TreadleKernels$Loom" "colours" "J"]
def wsX3_keep_r2 : List Cond := [Cond.arrayClass .int, Cond.fieldLink RX1 27 "TreadleKernels$Loom" "ties" "[I", Cond.classLink RX1 31 RX0, Cond.fieldLink RX1 33 "TreadleKernels$Loom" "drafts" "[LTreadleKernels$Draft;", Cond.fieldLink RX1 37 "TreadleKernels$Loom" "pressed" "I", Cond.fieldLink RX1 41 "TreadleKernels$Loom" "picks" "I", Cond.instantiable RX0 2, Cond.initialized RX0, Cond.instanceMethod yX0_init, Cond.code yX0_init cX0_init 1 none, Cond.methodLink RX0 3 objectInit, Cond.fieldLink RX0 9 "TreadleKernels$Draft" "presses" "[I", Cond.fieldLink RX0 15 "TreadleKernels$Draft" "length" "I", Cond.methodLink RX3 29 yX1_copyFrom, Cond.instanceMethod yX1_copyFrom, Cond.selects RX1 yX1_copyFrom yX1_copyFrom, Cond.code yX1_copyFrom cX1_copyFrom 5 none, Cond.methodLink RX1 45 arraycopyName, Cond.native arraycopyName, Cond.static arraycopyName, Cond.initialized "java/lang/System", Cond.methodLink RX1 51 yX0_copyFrom, Cond.instanceMethod yX0_copyFrom, Cond.selects RX0 yX0_copyFrom yX0_copyFrom]
def wsX3_keep_r3 : List Cond := [Cond.code yX0_copyFrom cX0_copyFrom 2 none, Cond.methodLink RX0 31 arraycopyName]
def wsX3_keep : List Cond := .code yX3_keep cX3_keep 3 none :: ((wsX3_keep_r1 ++ (wsX3_keep_r2 ++ wsX3_keep_r3)) ++ wsX30 ++ wsX10 ++ wsX00)
def wsX3_giveBack_r1 : List Cond := [Cond.fieldLink RX3 17 "TreadleKernels$Past" "length" "I", Cond.fieldLink RX3 11 "TreadleKernels$Past" "states" "[LTreadleKernels$Loom;", Cond.static yX7_isBelow, Cond.initialized RX7, Cond.code yX7_isBelow cX7_isBelow 2 (some .boolean), Cond.methodLink RX3 29 yX1_copyFrom, Cond.instanceMethod yX1_copyFrom, Cond.selects RX1 yX1_copyFrom yX1_copyFrom, Cond.initialized RX1, Cond.code yX1_copyFrom cX1_copyFrom 5 none, Cond.fieldLink RX1 13 "TreadleKernels$Loom" "shafts" "J", Cond.fieldLink RX1 21 "TreadleKernels$Loom" "threads" "J", Cond.fieldLink RX1 24 "TreadleKernels$Loom" "colours" "J", Cond.fieldLink RX1 27 "TreadleKernels$Loom" "ties" "[I", Cond.methodLink RX1 45 arraycopyName, Cond.native arraycopyName, Cond.static arraycopyName, Cond.initialized "java/lang/System", Cond.fieldLink RX1 33 "TreadleKernels$Loom" "drafts" "[LTreadleKernels$Draft;", Cond.fieldLink RX1 37 "TreadleKernels$Loom" "pressed" "I", Cond.fieldLink RX1 41 "TreadleKernels$Loom" "picks" "I", Cond.methodLink RX1 51 yX0_copyFrom, Cond.instanceMethod yX0_copyFrom, Cond.selects RX0 yX0_copyFrom yX0_copyFrom]
def wsX3_giveBack_r2 : List Cond := [Cond.initialized RX0, Cond.code yX0_copyFrom cX0_copyFrom 2 none, Cond.fieldLink RX0 9 "TreadleKernels$Draft" "presses" "[I", Cond.methodLink RX0 31 arraycopyName, Cond.fieldLink RX0 15 "TreadleKernels$Draft" "length" "I"]
def wsX3_giveBack : List Cond := .code yX3_giveBack cX3_giveBack 3 none :: ((wsX3_giveBack_r1 ++ wsX3_giveBack_r2) ++ wsX30 ++ wsX10 ++ wsX00)
def wsX5_init : List Cond := .code yX5_init cX5_init 1 none :: ([.methodLink RX5 3 objectInit, .instanceMethod objectInit, .code objectInit ⟨#[0xb1]⟩ 1 none, .arrayClass .long, .fieldLink RX5 9 "TreadleKernels$Search" "makerWays" "[J", .fieldLink RX5 15 "TreadleKernels$Search" "makers" "I", .fieldLink RX5 19 "TreadleKernels$Search" "found" "[J", .fieldLink RX5 22 "TreadleKernels$Search" "length" "I", .fieldLink RX5 25 "TreadleKernels$Search" "spots" "[J"] ++ wsX50)
def wsX5_addMaker : List Cond := .code yX5_addMaker cX5_addMaker 3 none :: ([.fieldLink RX5 15 "TreadleKernels$Search" "makers" "I", .fieldLink RX5 9 "TreadleKernels$Search" "makerWays" "[J", .static yX7_isBelow, .initialized RX7, .code yX7_isBelow cX7_isBelow 2 (some .boolean)] ++ wsX50)
def wsX5_broughtTo : List Cond := .code yX5_broughtTo cX5_broughtTo 5 (some .int) :: ([.static yX7_hasBit, .initialized RX7, .code yX7_hasBit cX7_hasBit 2 (some .boolean), .methodLink RX5 53 yX4_at, .static yX4_at, .initialized RX4, .code yX4_at cX4_at 3 (some .int)])
def wsX5_placesFrom : List Cond := .code yX5_placesFrom cX5_placesFrom 5 (some .int) :: ([.fieldLink RX5 15 "TreadleKernels$Search" "makers" "I", .fieldLink RX5 9 "TreadleKernels$Search" "makerWays" "[J", .methodLink RX5 32 yX5_broughtTo, .static yX5_broughtTo, .initialized RX5, .code yX5_broughtTo cX5_broughtTo 5 (some .int), .static yX7_hasBit, .initialized RX7, .code yX7_hasBit cX7_hasBit 2 (some .boolean), .methodLink RX5 53 yX4_at, .static yX4_at, .initialized RX4, .code yX4_at cX4_at 3 (some .int)] ++ wsX50)
def wsX5_note : List Cond := .code yX5_note cX5_note 7 none :: ([.fieldLink RX5 22 "TreadleKernels$Search" "length" "I", .constantLong RX5 56 (-7046029254386353131), .fieldLink RX5 25 "TreadleKernels$Search" "spots" "[J", .fieldLink RX5 19 "TreadleKernels$Search" "found" "[J", .static yX7_isBelow, .initialized RX7, .code yX7_isBelow cX7_isBelow 2 (some .boolean)] ++ wsX50)
def wsX5_allWays : List Cond := .code yX5_allWays cX5_allWays 3 (some .int) :: ([.fieldLink RX5 25 "TreadleKernels$Search" "spots" "[J", .fieldLink RX5 22 "TreadleKernels$Search" "length" "I", .constantLong RX5 38 (205163983024656), .fieldLink RX5 15 "TreadleKernels$Search" "makers" "I", .fieldLink RX5 19 "TreadleKernels$Search" "found" "[J", .fieldLink RX5 9 "TreadleKernels$Search" "makerWays" "[J", .methodLink RX5 40 yX5_note, .instanceMethod yX5_note, .selects RX5 yX5_note yX5_note, .initialized RX5, .code yX5_note cX5_note 7 none, .constantLong RX5 56 (-7046029254386353131), .static yX7_isBelow, .initialized RX7, .code yX7_isBelow cX7_isBelow 2 (some .boolean), .methodLink RX5 44 yX6_then, .static yX6_then, .initialized RX6, .code yX6_then cX6_then 7 (some .long), .methodLink RX6 9 yX4_at, .static yX4_at, .initialized RX4, .code yX4_at cX4_at 3 (some .int)] ++ wsX50)
def wsX6_power : List Cond := .code yX6_power cX6_power 8 (some .long) :: ([.constantLong RX6 15 (205163983024656), .methodLink RX6 29 yX6_then, .static yX6_then, .initialized RX6, .code yX6_then cX6_then 7 (some .long), .methodLink RX6 9 yX4_at, .static yX4_at, .initialized RX4, .code yX4_at cX4_at 3 (some .int)])
def wsX6_alikePlaces : List Cond := .code yX6_alikePlaces cX6_alikePlaces 6 (some .int) :: ([.methodLink RX6 9 yX4_at, .static yX4_at, .initialized RX4, .code yX4_at cX4_at 3 (some .int)])
def wsJ6_bitCount_0f7a4 : List Cond := .code yJ6_bitCount_0f7a4 cJ6_bitCount_0f7a4 1 (some .int) :: ([.constant RJ6 265 (1431655765), .constant RJ6 266 (858993459), .constant RJ6 267 (252645135)])
def wsX6_staying : List Cond := .code yX6_staying cX6_staying 2 (some .int) :: ([.constantLong RX6 15 (205163983024656), .methodLink RX6 34 yX6_alikePlaces, .static yX6_alikePlaces, .initialized RX6, .code yX6_alikePlaces cX6_alikePlaces 6 (some .int), .methodLink RX6 9 yX4_at, .static yX4_at, .initialized RX4, .code yX4_at cX4_at 3 (some .int), .methodLink RX6 38 yJ6_bitCount_0f7a4, .static yJ6_bitCount_0f7a4, .initialized RJ6, .code yJ6_bitCount_0f7a4 cJ6_bitCount_0f7a4 1 (some .int), .constant RJ6 265 (1431655765), .constant RJ6 266 (858993459), .constant RJ6 267 (252645135)])
def wsX6_timesUntilAgain : List Cond := .code yX6_timesUntilAgain cX6_timesUntilAgain 7 (some .int) :: ([.methodLink RX6 25 yX4_moved, .static yX4_moved, .initialized RX4, .code yX4_moved cX4_moved 7 (some .long), .methodLink RX4 13 yX4_at, .static yX4_at, .code yX4_at cX4_at 3 (some .int)])
def wsX6_cycleOf : List Cond := .code yX6_cycleOf cX6_cycleOf 6 (some .int) :: ([.methodLink RX6 9 yX4_at, .static yX4_at, .initialized RX4, .code yX4_at cX4_at 3 (some .int)])
def wsX6_cycles : List Cond := .code yX6_cycles cX6_cycles 6 (some .int) :: ([.methodLink RX6 44 yX6_cycleOf, .static yX6_cycleOf, .initialized RX6, .code yX6_cycleOf cX6_cycleOf 6 (some .int), .methodLink RX6 9 yX4_at, .static yX4_at, .initialized RX4, .code yX4_at cX4_at 3 (some .int)])
def wsX6_longestCycle : List Cond := .code yX6_longestCycle cX6_longestCycle 5 (some .int) :: ([.methodLink RX6 44 yX6_cycleOf, .static yX6_cycleOf, .initialized RX6, .code yX6_cycleOf cX6_cycleOf 6 (some .int), .methodLink RX6 9 yX4_at, .static yX4_at, .initialized RX4, .code yX4_at cX4_at 3 (some .int), .methodLink RX6 38 yJ6_bitCount_0f7a4, .static yJ6_bitCount_0f7a4, .initialized RJ6, .code yJ6_bitCount_0f7a4 cJ6_bitCount_0f7a4 1 (some .int), .constant RJ6 265 (1431655765), .constant RJ6 266 (858993459), .constant RJ6 267 (252645135)])
def wsX6_crossings : List Cond := .code yX6_crossings cX6_crossings 5 (some .int) :: ([.methodLink RX6 9 yX4_at, .static yX4_at, .initialized RX4, .code yX4_at cX4_at 3 (some .int)])
def wsX7_init_r1 : List Cond := [Cond.methodLink RX7 1 objectInit, Cond.instanceMethod objectInit, Cond.code objectInit ⟨#[0xb1]⟩ 1 none, Cond.classLink RX7 7 RX1, Cond.instantiable RX1 7, Cond.initialized RX1, Cond.fieldLink RX7 10 "TreadleKernels" "loom" "LTreadleKernels$Loom;", Cond.classLink RX7 16 RX3, Cond.instantiable RX3 2, Cond.initialized RX3, Cond.fieldLink RX7 19 "TreadleKernels" "past" "LTreadleKernels$Past;", Cond.fieldLink RX7 23 "TreadleKernels" "saved" "[LTreadleKernels$Loom;", Cond.classLink RX7 27 RX2, Cond.instantiable RX2 2, Cond.initialized RX2, Cond.fieldLink RX7 30 "TreadleKernels" "pad" "LTreadleKernels$Pad;", Cond.classLink RX7 34 RX5, Cond.instantiable RX5 5, Cond.initialized RX5, Cond.fieldLink RX7 37 "TreadleKernels" "search" "LTreadleKernels$Search;", Cond.classLink RX7 41 RX0, Cond.instantiable RX0 2, Cond.initialized RX0, Cond.fieldLink RX7 44 "TreadleKernels" "fresh" "LTreadleKernels$Draft;"]
def wsX7_init_r2 : List Cond := [Cond.methodLink RX7 9 yX1_init, Cond.instanceMethod yX1_init, Cond.code yX1_init cX1_init 2 none, Cond.methodLink RX1 3 objectInit, Cond.constantLong RX1 11 (92573999051280), Cond.fieldLink RX1 13 "TreadleKernels$Loom" "shafts" "J", Cond.constantLong RX1 19 (205163983024656), Cond.fieldLink RX1 21 "TreadleKernels$Loom" "threads" "J", Cond.fieldLink RX1 24 "TreadleKernels$Loom" "colours" "J", Cond.arrayClass .int, Cond.fieldLink RX1 27 "TreadleKernels$Loom" "ties" "[I", Cond.classLink RX1 31 RX0, Cond.fieldLink RX1 33 "TreadleKernels$Loom" "drafts" "[LTreadleKernels$Draft;", Cond.fieldLink RX1 37 "TreadleKernels$Loom" "pressed" "I", Cond.fieldLink RX1 41 "TreadleKernels$Loom" "picks" "I", Cond.instanceMethod yX0_init, Cond.code yX0_init cX0_init 1 none, Cond.methodLink RX0 3 objectInit, Cond.fieldLink RX0 9 "TreadleKernels$Draft" "presses" "[I", Cond.fieldLink RX0 15 "TreadleKernels$Draft" "length" "I", Cond.instanceMethod yX3_init, Cond.code yX3_init cX3_init 1 none, Cond.methodLink RX3 3 objectInit, Cond.classLink RX3 9 RX1]
def wsX7_init_r3 : List Cond := [Cond.fieldLink RX3 11 "TreadleKernels$Past" "states" "[LTreadleKernels$Loom;", Cond.fieldLink RX3 17 "TreadleKernels$Past" "length" "I", Cond.instanceMethod yX2_init, Cond.code yX2_init cX2_init 1 none, Cond.methodLink RX2 3 objectInit, Cond.arrayClass .char, Cond.fieldLink RX2 9 "TreadleKernels$Pad" "signs" "[C", Cond.fieldLink RX2 15 "TreadleKernels$Pad" "length" "I", Cond.instanceMethod yX5_init, Cond.code yX5_init cX5_init 1 none, Cond.methodLink RX5 3 objectInit, Cond.arrayClass .long, Cond.fieldLink RX5 9 "TreadleKernels$Search" "makerWays" "[J", Cond.fieldLink RX5 15 "TreadleKernels$Search" "makers" "I", Cond.fieldLink RX5 19 "TreadleKernels$Search" "found" "[J", Cond.fieldLink RX5 22 "TreadleKernels$Search" "length" "I", Cond.fieldLink RX5 25 "TreadleKernels$Search" "spots" "[J"]
def wsX7_init : List Cond := .code yX7_init cX7_init 1 none :: ((wsX7_init_r1 ++ (wsX7_init_r2 ++ wsX7_init_r3)) ++ wsX10 ++ wsX70 ++ wsX30 ++ wsX20 ++ wsX50 ++ wsX00)
def wsX7_put_r1 : List Cond := [Cond.fieldLink RX7 19 "TreadleKernels" "past" "LTreadleKernels$Past;", Cond.fieldLink RX7 10 "TreadleKernels" "loom" "LTreadleKernels$Loom;", Cond.fieldLink RX7 56 "TreadleKernels$Loom" "shafts" "J", Cond.methodLink RX7 48 yX7_isBelow, Cond.static yX7_isBelow, Cond.initialized RX7, Cond.code yX7_isBelow cX7_isBelow 2 (some .boolean), Cond.methodLink RX7 52 yX3_keep, Cond.instanceMethod yX3_keep, Cond.selects RX3 yX3_keep yX3_keep, Cond.initialized RX3, Cond.code yX3_keep cX3_keep 3 none, Cond.fieldLink RX3 17 "TreadleKernels$Past" "length" "I", Cond.fieldLink RX3 11 "TreadleKernels$Past" "states" "[LTreadleKernels$Loom;", Cond.classLink RX3 9 RX1, Cond.instantiable RX1 7, Cond.initialized RX1, Cond.methodLink RX3 21 yX3_dropOldest, Cond.instanceMethod yX3_dropOldest, Cond.selects RX3 yX3_dropOldest yX3_dropOldest, Cond.code yX3_dropOldest cX3_dropOldest 3 none, Cond.methodLink RX3 28 yX1_init, Cond.instanceMethod yX1_init, Cond.code yX1_init cX1_init 2 none]
def wsX7_put_r2 : List Cond := [Cond.methodLink RX1 3 objectInit, Cond.instanceMethod objectInit, Cond.code objectInit ⟨#[0xb1]⟩ 1 none, Cond.constantLong RX1 11 (92573999051280), Cond.fieldLink RX1 13 "TreadleKernels$Loom" "shafts" "J", Cond.constantLong RX1 19 (205163983024656), Cond.fieldLink RX1 21 "TreadleKernels$Loom" "threads" "J", Cond.fieldLink RX1 24 "TreadleKernels$Loom" "colours" "J", Cond.arrayClass .int, Cond.fieldLink RX1 27 "TreadleKernels$Loom" "ties" "[I", Cond.classLink RX1 31 RX0, Cond.fieldLink RX1 33 "TreadleKernels$Loom" "drafts" "[LTreadleKernels$Draft;", Cond.fieldLink RX1 37 "TreadleKernels$Loom" "pressed" "I", Cond.fieldLink RX1 41 "TreadleKernels$Loom" "picks" "I", Cond.instantiable RX0 2, Cond.initialized RX0, Cond.instanceMethod yX0_init, Cond.code yX0_init cX0_init 1 none, Cond.methodLink RX0 3 objectInit, Cond.fieldLink RX0 9 "TreadleKernels$Draft" "presses" "[I", Cond.fieldLink RX0 15 "TreadleKernels$Draft" "length" "I", Cond.methodLink RX3 29 yX1_copyFrom, Cond.instanceMethod yX1_copyFrom, Cond.selects RX1 yX1_copyFrom yX1_copyFrom]
def wsX7_put_r3 : List Cond := [Cond.code yX1_copyFrom cX1_copyFrom 5 none, Cond.methodLink RX1 45 arraycopyName, Cond.native arraycopyName, Cond.static arraycopyName, Cond.initialized "java/lang/System", Cond.methodLink RX1 51 yX0_copyFrom, Cond.instanceMethod yX0_copyFrom, Cond.selects RX0 yX0_copyFrom yX0_copyFrom, Cond.code yX0_copyFrom cX0_copyFrom 2 none, Cond.methodLink RX0 31 arraycopyName, Cond.methodLink RX7 60 yX4_at, Cond.static yX4_at, Cond.initialized RX4, Cond.code yX4_at cX4_at 3 (some .int), Cond.methodLink RX7 66 yX4_with, Cond.static yX4_with, Cond.code yX4_with cX4_with 4 (some .long), Cond.constantLong RX4 9 (15), Cond.constantLong RX4 11 (-1)]
def wsX7_put : List Cond := .code yX7_put cX7_put 4 (some .int) :: ((wsX7_put_r1 ++ (wsX7_put_r2 ++ wsX7_put_r3)) ++ wsX70 ++ wsX10 ++ wsX30 ++ wsX00)
def wsX7_tie_r1 : List Cond := [Cond.fieldLink RX7 19 "TreadleKernels" "past" "LTreadleKernels$Past;", Cond.fieldLink RX7 10 "TreadleKernels" "loom" "LTreadleKernels$Loom;", Cond.fieldLink RX7 70 "TreadleKernels$Loom" "ties" "[I", Cond.methodLink RX7 48 yX7_isBelow, Cond.static yX7_isBelow, Cond.initialized RX7, Cond.code yX7_isBelow cX7_isBelow 2 (some .boolean), Cond.methodLink RX7 52 yX3_keep, Cond.instanceMethod yX3_keep, Cond.selects RX3 yX3_keep yX3_keep, Cond.initialized RX3, Cond.code yX3_keep cX3_keep 3 none, Cond.fieldLink RX3 17 "TreadleKernels$Past" "length" "I", Cond.fieldLink RX3 11 "TreadleKernels$Past" "states" "[LTreadleKernels$Loom;", Cond.classLink RX3 9 RX1, Cond.instantiable RX1 7, Cond.initialized RX1, Cond.methodLink RX3 21 yX3_dropOldest, Cond.instanceMethod yX3_dropOldest, Cond.selects RX3 yX3_dropOldest yX3_dropOldest, Cond.code yX3_dropOldest cX3_dropOldest 3 none, Cond.methodLink RX3 28 yX1_init, Cond.instanceMethod yX1_init, Cond.code yX1_init cX1_init 2 none]
def wsX7_tie_r2 : List Cond := [Cond.methodLink RX1 3 objectInit, Cond.instanceMethod objectInit, Cond.code objectInit ⟨#[0xb1]⟩ 1 none, Cond.constantLong RX1 11 (92573999051280), Cond.fieldLink RX1 13 "TreadleKernels$Loom" "shafts" "J", Cond.constantLong RX1 19 (205163983024656), Cond.fieldLink RX1 21 "TreadleKernels$Loom" "threads" "J", Cond.fieldLink RX1 24 "TreadleKernels$Loom" "colours" "J", Cond.arrayClass .int, Cond.fieldLink RX1 27 "TreadleKernels$Loom" "ties" "[I", Cond.classLink RX1 31 RX0, Cond.fieldLink RX1 33 "TreadleKernels$Loom" "drafts" "[LTreadleKernels$Draft;", Cond.fieldLink RX1 37 "TreadleKernels$Loom" "pressed" "I", Cond.fieldLink RX1 41 "TreadleKernels$Loom" "picks" "I", Cond.instantiable RX0 2, Cond.initialized RX0, Cond.instanceMethod yX0_init, Cond.code yX0_init cX0_init 1 none, Cond.methodLink RX0 3 objectInit, Cond.fieldLink RX0 9 "TreadleKernels$Draft" "presses" "[I", Cond.fieldLink RX0 15 "TreadleKernels$Draft" "length" "I", Cond.methodLink RX3 29 yX1_copyFrom, Cond.instanceMethod yX1_copyFrom, Cond.selects RX1 yX1_copyFrom yX1_copyFrom]
def wsX7_tie_r3 : List Cond := [Cond.code yX1_copyFrom cX1_copyFrom 5 none, Cond.methodLink RX1 45 arraycopyName, Cond.native arraycopyName, Cond.static arraycopyName, Cond.initialized "java/lang/System", Cond.methodLink RX1 51 yX0_copyFrom, Cond.instanceMethod yX0_copyFrom, Cond.selects RX0 yX0_copyFrom yX0_copyFrom, Cond.code yX0_copyFrom cX0_copyFrom 2 none, Cond.methodLink RX0 31 arraycopyName, Cond.methodLink RX7 74 yX1_raisedBy, Cond.instanceMethod yX1_raisedBy, Cond.selects RX1 yX1_raisedBy yX1_raisedBy, Cond.code yX1_raisedBy cX1_raisedBy 4 (some .int), Cond.methodLink RX1 59 yX4_at, Cond.static yX4_at, Cond.initialized RX4, Cond.code yX4_at cX4_at 3 (some .int), Cond.static yX7_hasBit, Cond.code yX7_hasBit cX7_hasBit 2 (some .boolean), Cond.methodLink RX7 78 yJ6_bitCount_0f7a4, Cond.static yJ6_bitCount_0f7a4, Cond.initialized RJ6, Cond.code yJ6_bitCount_0f7a4 cJ6_bitCount_0f7a4 1 (some .int)]
def wsX7_tie_r4 : List Cond := [Cond.constant RJ6 265 (1431655765), Cond.constant RJ6 266 (858993459), Cond.constant RJ6 267 (252645135)]
def wsX7_tie : List Cond := .code yX7_tie cX7_tie 3 (some .int) :: ((wsX7_tie_r1 ++ (wsX7_tie_r2 ++ (wsX7_tie_r3 ++ wsX7_tie_r4))) ++ wsX70 ++ wsX10 ++ wsX30 ++ wsX00)
def wsX7_read_r1 : List Cond := [Cond.fieldLink RX7 10 "TreadleKernels" "loom" "LTreadleKernels$Loom;", Cond.fieldLink RX7 30 "TreadleKernels" "pad" "LTreadleKernels$Pad;", Cond.fieldLink RX7 44 "TreadleKernels" "fresh" "LTreadleKernels$Draft;", Cond.fieldLink RX7 19 "TreadleKernels" "past" "LTreadleKernels$Past;", Cond.fieldLink RX7 95 "TreadleKernels$Pad" "length" "I", Cond.fieldLink RX7 99 "TreadleKernels$Draft" "length" "I", Cond.methodLink RX7 83 yX1_draftAt, Cond.instanceMethod yX1_draftAt, Cond.selects RX1 yX1_draftAt yX1_draftAt, Cond.initialized RX1, Cond.code yX1_draftAt cX1_draftAt 2 (some (.object "TreadleKernels$Draft")), Cond.fieldLink RX1 33 "TreadleKernels$Loom" "drafts" "[LTreadleKernels$Draft;", Cond.static yX7_isBelow, Cond.initialized RX7, Cond.code yX7_isBelow cX7_isBelow 2 (some .boolean), Cond.methodLink RX7 87 yX2_layOut, Cond.instanceMethod yX2_layOut, Cond.selects RX2 yX2_layOut yX2_layOut, Cond.initialized RX2, Cond.code yX2_layOut cX2_layOut 9 (some .int), Cond.fieldLink RX2 29 "TreadleKernels$Draft" "length" "I", Cond.fieldLink RX2 15 "TreadleKernels$Pad" "length" "I", Cond.fieldLink RX2 9 "TreadleKernels$Pad" "signs" "[C", Cond.methodLink RX2 32 yX2_pressOf]
def wsX7_read_r2 : List Cond := [Cond.static yX2_pressOf, Cond.code yX2_pressOf cX2_pressOf 1 (some .int), Cond.methodLink RX2 36 yX2_timesOf, Cond.static yX2_timesOf, Cond.code yX2_timesOf cX2_timesOf 1 (some .int), Cond.methodLink RX2 39 yX0_add, Cond.instanceMethod yX0_add, Cond.selects RX0 yX0_add yX0_add, Cond.initialized RX0, Cond.code yX0_add cX0_add 2 none, Cond.fieldLink RX0 15 "TreadleKernels$Draft" "length" "I", Cond.fieldLink RX0 9 "TreadleKernels$Draft" "presses" "[I", Cond.methodLink RX7 52 yX3_keep, Cond.instanceMethod yX3_keep, Cond.selects RX3 yX3_keep yX3_keep, Cond.initialized RX3, Cond.code yX3_keep cX3_keep 3 none, Cond.fieldLink RX3 17 "TreadleKernels$Past" "length" "I", Cond.fieldLink RX3 11 "TreadleKernels$Past" "states" "[LTreadleKernels$Loom;", Cond.classLink RX3 9 RX1, Cond.instantiable RX1 7, Cond.methodLink RX3 21 yX3_dropOldest, Cond.instanceMethod yX3_dropOldest, Cond.selects RX3 yX3_dropOldest yX3_dropOldest]
def wsX7_read_r3 : List Cond := [Cond.code yX3_dropOldest cX3_dropOldest 3 none, Cond.methodLink RX3 28 yX1_init, Cond.instanceMethod yX1_init, Cond.code yX1_init cX1_init 2 none, Cond.methodLink RX1 3 objectInit, Cond.instanceMethod objectInit, Cond.code objectInit ⟨#[0xb1]⟩ 1 none, Cond.constantLong RX1 11 (92573999051280), Cond.fieldLink RX1 13 "TreadleKernels$Loom" "shafts" "J", Cond.constantLong RX1 19 (205163983024656), Cond.fieldLink RX1 21 "TreadleKernels$Loom" "threads" "J", Cond.fieldLink RX1 24 "TreadleKernels$Loom" "colours" "J", Cond.arrayClass .int, Cond.fieldLink RX1 27 "TreadleKernels$Loom" "ties" "[I", Cond.classLink RX1 31 RX0, Cond.fieldLink RX1 37 "TreadleKernels$Loom" "pressed" "I", Cond.fieldLink RX1 41 "TreadleKernels$Loom" "picks" "I", Cond.instantiable RX0 2, Cond.instanceMethod yX0_init, Cond.code yX0_init cX0_init 1 none, Cond.methodLink RX0 3 objectInit, Cond.methodLink RX3 29 yX1_copyFrom, Cond.instanceMethod yX1_copyFrom, Cond.selects RX1 yX1_copyFrom yX1_copyFrom]
def wsX7_read_r4 : List Cond := [Cond.code yX1_copyFrom cX1_copyFrom 5 none, Cond.methodLink RX1 45 arraycopyName, Cond.native arraycopyName, Cond.static arraycopyName, Cond.initialized "java/lang/System", Cond.methodLink RX1 51 yX0_copyFrom, Cond.instanceMethod yX0_copyFrom, Cond.selects RX0 yX0_copyFrom yX0_copyFrom, Cond.code yX0_copyFrom cX0_copyFrom 2 none, Cond.methodLink RX0 31 arraycopyName, Cond.methodLink RX7 91 yX0_copyFrom]
def wsX7_read : List Cond := .code yX7_read cX7_read 3 (some .int) :: ((wsX7_read_r1 ++ (wsX7_read_r2 ++ (wsX7_read_r3 ++ wsX7_read_r4))) ++ wsX70 ++ wsX20 ++ wsX00 ++ wsX10 ++ wsX30)
def wsX7_compose_r1 : List Cond := [Cond.fieldLink RX7 10 "TreadleKernels" "loom" "LTreadleKernels$Loom;", Cond.fieldLink RX7 99 "TreadleKernels$Draft" "length" "I", Cond.fieldLink RX7 19 "TreadleKernels" "past" "LTreadleKernels$Past;", Cond.fieldLink RX7 44 "TreadleKernels" "fresh" "LTreadleKernels$Draft;", Cond.methodLink RX7 83 yX1_draftAt, Cond.instanceMethod yX1_draftAt, Cond.selects RX1 yX1_draftAt yX1_draftAt, Cond.initialized RX1, Cond.code yX1_draftAt cX1_draftAt 2 (some (.object "TreadleKernels$Draft")), Cond.fieldLink RX1 33 "TreadleKernels$Loom" "drafts" "[LTreadleKernels$Draft;", Cond.static yX7_isBelow, Cond.initialized RX7, Cond.code yX7_isBelow cX7_isBelow 2 (some .boolean), Cond.methodLink RX7 52 yX3_keep, Cond.instanceMethod yX3_keep, Cond.selects RX3 yX3_keep yX3_keep, Cond.initialized RX3, Cond.code yX3_keep cX3_keep 3 none, Cond.fieldLink RX3 17 "TreadleKernels$Past" "length" "I", Cond.fieldLink RX3 11 "TreadleKernels$Past" "states" "[LTreadleKernels$Loom;", Cond.classLink RX3 9 RX1, Cond.instantiable RX1 7, Cond.methodLink RX3 21 yX3_dropOldest, Cond.instanceMethod yX3_dropOldest]
def wsX7_compose_r2 : List Cond := [Cond.selects RX3 yX3_dropOldest yX3_dropOldest, Cond.code yX3_dropOldest cX3_dropOldest 3 none, Cond.methodLink RX3 28 yX1_init, Cond.instanceMethod yX1_init, Cond.code yX1_init cX1_init 2 none, Cond.methodLink RX1 3 objectInit, Cond.instanceMethod objectInit, Cond.code objectInit ⟨#[0xb1]⟩ 1 none, Cond.constantLong RX1 11 (92573999051280), Cond.fieldLink RX1 13 "TreadleKernels$Loom" "shafts" "J", Cond.constantLong RX1 19 (205163983024656), Cond.fieldLink RX1 21 "TreadleKernels$Loom" "threads" "J", Cond.fieldLink RX1 24 "TreadleKernels$Loom" "colours" "J", Cond.arrayClass .int, Cond.fieldLink RX1 27 "TreadleKernels$Loom" "ties" "[I", Cond.classLink RX1 31 RX0, Cond.fieldLink RX1 37 "TreadleKernels$Loom" "pressed" "I", Cond.fieldLink RX1 41 "TreadleKernels$Loom" "picks" "I", Cond.instantiable RX0 2, Cond.initialized RX0, Cond.instanceMethod yX0_init, Cond.code yX0_init cX0_init 1 none, Cond.methodLink RX0 3 objectInit, Cond.fieldLink RX0 9 "TreadleKernels$Draft" "presses" "[I"]
def wsX7_compose_r3 : List Cond := [Cond.fieldLink RX0 15 "TreadleKernels$Draft" "length" "I", Cond.methodLink RX3 29 yX1_copyFrom, Cond.instanceMethod yX1_copyFrom, Cond.selects RX1 yX1_copyFrom yX1_copyFrom, Cond.code yX1_copyFrom cX1_copyFrom 5 none, Cond.methodLink RX1 45 arraycopyName, Cond.native arraycopyName, Cond.static arraycopyName, Cond.initialized "java/lang/System", Cond.methodLink RX1 51 yX0_copyFrom, Cond.instanceMethod yX0_copyFrom, Cond.selects RX0 yX0_copyFrom yX0_copyFrom, Cond.code yX0_copyFrom cX0_copyFrom 2 none, Cond.methodLink RX0 31 arraycopyName, Cond.methodLink RX7 100 yX0_append, Cond.instanceMethod yX0_append, Cond.selects RX0 yX0_append yX0_append, Cond.code yX0_append cX0_append 3 none, Cond.methodLink RX0 23 yX0_pressAt, Cond.instanceMethod yX0_pressAt, Cond.selects RX0 yX0_pressAt yX0_pressAt, Cond.code yX0_pressAt cX0_pressAt 2 (some .int), Cond.methodLink RX0 27 yX0_add, Cond.instanceMethod yX0_add]
def wsX7_compose_r4 : List Cond := [Cond.selects RX0 yX0_add yX0_add, Cond.code yX0_add cX0_add 2 none, Cond.methodLink RX7 91 yX0_copyFrom]
def wsX7_compose : List Cond := .code yX7_compose cX7_compose 7 (some .int) :: ((wsX7_compose_r1 ++ (wsX7_compose_r2 ++ (wsX7_compose_r3 ++ wsX7_compose_r4))) ++ wsX70 ++ wsX00 ++ wsX10 ++ wsX30)
def wsX7_turnRound_r1 : List Cond := [Cond.fieldLink RX7 10 "TreadleKernels" "loom" "LTreadleKernels$Loom;", Cond.fieldLink RX7 19 "TreadleKernels" "past" "LTreadleKernels$Past;", Cond.fieldLink RX7 44 "TreadleKernels" "fresh" "LTreadleKernels$Draft;", Cond.fieldLink RX7 99 "TreadleKernels$Draft" "length" "I", Cond.methodLink RX7 83 yX1_draftAt, Cond.instanceMethod yX1_draftAt, Cond.selects RX1 yX1_draftAt yX1_draftAt, Cond.initialized RX1, Cond.code yX1_draftAt cX1_draftAt 2 (some (.object "TreadleKernels$Draft")), Cond.fieldLink RX1 33 "TreadleKernels$Loom" "drafts" "[LTreadleKernels$Draft;", Cond.static yX7_isBelow, Cond.initialized RX7, Cond.code yX7_isBelow cX7_isBelow 2 (some .boolean), Cond.methodLink RX7 52 yX3_keep, Cond.instanceMethod yX3_keep, Cond.selects RX3 yX3_keep yX3_keep, Cond.initialized RX3, Cond.code yX3_keep cX3_keep 3 none, Cond.fieldLink RX3 17 "TreadleKernels$Past" "length" "I", Cond.fieldLink RX3 11 "TreadleKernels$Past" "states" "[LTreadleKernels$Loom;", Cond.classLink RX3 9 RX1, Cond.instantiable RX1 7, Cond.methodLink RX3 21 yX3_dropOldest, Cond.instanceMethod yX3_dropOldest]
def wsX7_turnRound_r2 : List Cond := [Cond.selects RX3 yX3_dropOldest yX3_dropOldest, Cond.code yX3_dropOldest cX3_dropOldest 3 none, Cond.methodLink RX3 28 yX1_init, Cond.instanceMethod yX1_init, Cond.code yX1_init cX1_init 2 none, Cond.methodLink RX1 3 objectInit, Cond.instanceMethod objectInit, Cond.code objectInit ⟨#[0xb1]⟩ 1 none, Cond.constantLong RX1 11 (92573999051280), Cond.fieldLink RX1 13 "TreadleKernels$Loom" "shafts" "J", Cond.constantLong RX1 19 (205163983024656), Cond.fieldLink RX1 21 "TreadleKernels$Loom" "threads" "J", Cond.fieldLink RX1 24 "TreadleKernels$Loom" "colours" "J", Cond.arrayClass .int, Cond.fieldLink RX1 27 "TreadleKernels$Loom" "ties" "[I", Cond.classLink RX1 31 RX0, Cond.fieldLink RX1 37 "TreadleKernels$Loom" "pressed" "I", Cond.fieldLink RX1 41 "TreadleKernels$Loom" "picks" "I", Cond.instantiable RX0 2, Cond.initialized RX0, Cond.instanceMethod yX0_init, Cond.code yX0_init cX0_init 1 none, Cond.methodLink RX0 3 objectInit, Cond.fieldLink RX0 9 "TreadleKernels$Draft" "presses" "[I"]
def wsX7_turnRound_r3 : List Cond := [Cond.fieldLink RX0 15 "TreadleKernels$Draft" "length" "I", Cond.methodLink RX3 29 yX1_copyFrom, Cond.instanceMethod yX1_copyFrom, Cond.selects RX1 yX1_copyFrom yX1_copyFrom, Cond.code yX1_copyFrom cX1_copyFrom 5 none, Cond.methodLink RX1 45 arraycopyName, Cond.native arraycopyName, Cond.static arraycopyName, Cond.initialized "java/lang/System", Cond.methodLink RX1 51 yX0_copyFrom, Cond.instanceMethod yX0_copyFrom, Cond.selects RX0 yX0_copyFrom yX0_copyFrom, Cond.code yX0_copyFrom cX0_copyFrom 2 none, Cond.methodLink RX0 31 arraycopyName, Cond.methodLink RX7 103 yX0_appendTurned, Cond.instanceMethod yX0_appendTurned, Cond.selects RX0 yX0_appendTurned yX0_appendTurned, Cond.code yX0_appendTurned cX0_appendTurned 3 none, Cond.methodLink RX0 23 yX0_pressAt, Cond.instanceMethod yX0_pressAt, Cond.selects RX0 yX0_pressAt yX0_pressAt, Cond.code yX0_pressAt cX0_pressAt 2 (some .int), Cond.methodLink RX0 27 yX0_add, Cond.instanceMethod yX0_add]
def wsX7_turnRound_r4 : List Cond := [Cond.selects RX0 yX0_add yX0_add, Cond.code yX0_add cX0_add 2 none, Cond.methodLink RX7 91 yX0_copyFrom]
def wsX7_turnRound : List Cond := .code yX7_turnRound cX7_turnRound 5 (some .int) :: ((wsX7_turnRound_r1 ++ (wsX7_turnRound_r2 ++ (wsX7_turnRound_r3 ++ wsX7_turnRound_r4))) ++ wsX70 ++ wsX00 ++ wsX10 ++ wsX30)
def wsX7_repeat_r1 : List Cond := [Cond.fieldLink RX7 10 "TreadleKernels" "loom" "LTreadleKernels$Loom;", Cond.fieldLink RX7 99 "TreadleKernels$Draft" "length" "I", Cond.fieldLink RX7 19 "TreadleKernels" "past" "LTreadleKernels$Past;", Cond.fieldLink RX7 44 "TreadleKernels" "fresh" "LTreadleKernels$Draft;", Cond.methodLink RX7 83 yX1_draftAt, Cond.instanceMethod yX1_draftAt, Cond.selects RX1 yX1_draftAt yX1_draftAt, Cond.initialized RX1, Cond.code yX1_draftAt cX1_draftAt 2 (some (.object "TreadleKernels$Draft")), Cond.fieldLink RX1 33 "TreadleKernels$Loom" "drafts" "[LTreadleKernels$Draft;", Cond.static yX7_isBelow, Cond.initialized RX7, Cond.code yX7_isBelow cX7_isBelow 2 (some .boolean), Cond.methodLink RX7 52 yX3_keep, Cond.instanceMethod yX3_keep, Cond.selects RX3 yX3_keep yX3_keep, Cond.initialized RX3, Cond.code yX3_keep cX3_keep 3 none, Cond.fieldLink RX3 17 "TreadleKernels$Past" "length" "I", Cond.fieldLink RX3 11 "TreadleKernels$Past" "states" "[LTreadleKernels$Loom;", Cond.classLink RX3 9 RX1, Cond.instantiable RX1 7, Cond.methodLink RX3 21 yX3_dropOldest, Cond.instanceMethod yX3_dropOldest]
def wsX7_repeat_r2 : List Cond := [Cond.selects RX3 yX3_dropOldest yX3_dropOldest, Cond.code yX3_dropOldest cX3_dropOldest 3 none, Cond.methodLink RX3 28 yX1_init, Cond.instanceMethod yX1_init, Cond.code yX1_init cX1_init 2 none, Cond.methodLink RX1 3 objectInit, Cond.instanceMethod objectInit, Cond.code objectInit ⟨#[0xb1]⟩ 1 none, Cond.constantLong RX1 11 (92573999051280), Cond.fieldLink RX1 13 "TreadleKernels$Loom" "shafts" "J", Cond.constantLong RX1 19 (205163983024656), Cond.fieldLink RX1 21 "TreadleKernels$Loom" "threads" "J", Cond.fieldLink RX1 24 "TreadleKernels$Loom" "colours" "J", Cond.arrayClass .int, Cond.fieldLink RX1 27 "TreadleKernels$Loom" "ties" "[I", Cond.classLink RX1 31 RX0, Cond.fieldLink RX1 37 "TreadleKernels$Loom" "pressed" "I", Cond.fieldLink RX1 41 "TreadleKernels$Loom" "picks" "I", Cond.instantiable RX0 2, Cond.initialized RX0, Cond.instanceMethod yX0_init, Cond.code yX0_init cX0_init 1 none, Cond.methodLink RX0 3 objectInit, Cond.fieldLink RX0 9 "TreadleKernels$Draft" "presses" "[I"]
def wsX7_repeat_r3 : List Cond := [Cond.fieldLink RX0 15 "TreadleKernels$Draft" "length" "I", Cond.methodLink RX3 29 yX1_copyFrom, Cond.instanceMethod yX1_copyFrom, Cond.selects RX1 yX1_copyFrom yX1_copyFrom, Cond.code yX1_copyFrom cX1_copyFrom 5 none, Cond.methodLink RX1 45 arraycopyName, Cond.native arraycopyName, Cond.static arraycopyName, Cond.initialized "java/lang/System", Cond.methodLink RX1 51 yX0_copyFrom, Cond.instanceMethod yX0_copyFrom, Cond.selects RX0 yX0_copyFrom yX0_copyFrom, Cond.code yX0_copyFrom cX0_copyFrom 2 none, Cond.methodLink RX0 31 arraycopyName, Cond.methodLink RX7 100 yX0_append, Cond.instanceMethod yX0_append, Cond.selects RX0 yX0_append yX0_append, Cond.code yX0_append cX0_append 3 none, Cond.methodLink RX0 23 yX0_pressAt, Cond.instanceMethod yX0_pressAt, Cond.selects RX0 yX0_pressAt yX0_pressAt, Cond.code yX0_pressAt cX0_pressAt 2 (some .int), Cond.methodLink RX0 27 yX0_add, Cond.instanceMethod yX0_add]
def wsX7_repeat_r4 : List Cond := [Cond.selects RX0 yX0_add yX0_add, Cond.code yX0_add cX0_add 2 none, Cond.methodLink RX7 91 yX0_copyFrom]
def wsX7_repeat : List Cond := .code yX7_repeat cX7_repeat 7 (some .int) :: ((wsX7_repeat_r1 ++ (wsX7_repeat_r2 ++ (wsX7_repeat_r3 ++ wsX7_repeat_r4))) ++ wsX70 ++ wsX00 ++ wsX10 ++ wsX30)
def wsX7_weave_r1 : List Cond := [Cond.fieldLink RX7 10 "TreadleKernels" "loom" "LTreadleKernels$Loom;", Cond.fieldLink RX7 19 "TreadleKernels" "past" "LTreadleKernels$Past;", Cond.fieldLink RX7 106 "TreadleKernels$Loom" "threads" "J", Cond.fieldLink RX7 123 "TreadleKernels$Loom" "pressed" "I", Cond.fieldLink RX7 99 "TreadleKernels$Draft" "length" "I", Cond.fieldLink RX7 126 "TreadleKernels$Loom" "picks" "I", Cond.methodLink RX7 83 yX1_draftAt, Cond.instanceMethod yX1_draftAt, Cond.selects RX1 yX1_draftAt yX1_draftAt, Cond.initialized RX1, Cond.code yX1_draftAt cX1_draftAt 2 (some (.object "TreadleKernels$Draft")), Cond.fieldLink RX1 33 "TreadleKernels$Loom" "drafts" "[LTreadleKernels$Draft;", Cond.static yX7_isBelow, Cond.initialized RX7, Cond.code yX7_isBelow cX7_isBelow 2 (some .boolean), Cond.methodLink RX7 52 yX3_keep, Cond.instanceMethod yX3_keep, Cond.selects RX3 yX3_keep yX3_keep, Cond.initialized RX3, Cond.code yX3_keep cX3_keep 3 none, Cond.fieldLink RX3 17 "TreadleKernels$Past" "length" "I", Cond.fieldLink RX3 11 "TreadleKernels$Past" "states" "[LTreadleKernels$Loom;", Cond.classLink RX3 9 RX1, Cond.instantiable RX1 7]
def wsX7_weave_r2 : List Cond := [Cond.methodLink RX3 21 yX3_dropOldest, Cond.instanceMethod yX3_dropOldest, Cond.selects RX3 yX3_dropOldest yX3_dropOldest, Cond.code yX3_dropOldest cX3_dropOldest 3 none, Cond.methodLink RX3 28 yX1_init, Cond.instanceMethod yX1_init, Cond.code yX1_init cX1_init 2 none, Cond.methodLink RX1 3 objectInit, Cond.instanceMethod objectInit, Cond.code objectInit ⟨#[0xb1]⟩ 1 none, Cond.constantLong RX1 11 (92573999051280), Cond.fieldLink RX1 13 "TreadleKernels$Loom" "shafts" "J", Cond.constantLong RX1 19 (205163983024656), Cond.fieldLink RX1 21 "TreadleKernels$Loom" "threads" "J", Cond.fieldLink RX1 24 "TreadleKernels$Loom" "colours" "J", Cond.arrayClass .int, Cond.fieldLink RX1 27 "TreadleKernels$Loom" "ties" "[I", Cond.classLink RX1 31 RX0, Cond.fieldLink RX1 37 "TreadleKernels$Loom" "pressed" "I", Cond.fieldLink RX1 41 "TreadleKernels$Loom" "picks" "I", Cond.instantiable RX0 2, Cond.initialized RX0, Cond.instanceMethod yX0_init, Cond.code yX0_init cX0_init 1 none]
def wsX7_weave_r3 : List Cond := [Cond.methodLink RX0 3 objectInit, Cond.fieldLink RX0 9 "TreadleKernels$Draft" "presses" "[I", Cond.fieldLink RX0 15 "TreadleKernels$Draft" "length" "I", Cond.methodLink RX3 29 yX1_copyFrom, Cond.instanceMethod yX1_copyFrom, Cond.selects RX1 yX1_copyFrom yX1_copyFrom, Cond.code yX1_copyFrom cX1_copyFrom 5 none, Cond.methodLink RX1 45 arraycopyName, Cond.native arraycopyName, Cond.static arraycopyName, Cond.initialized "java/lang/System", Cond.methodLink RX1 51 yX0_copyFrom, Cond.instanceMethod yX0_copyFrom, Cond.selects RX0 yX0_copyFrom yX0_copyFrom, Cond.code yX0_copyFrom cX0_copyFrom 2 none, Cond.methodLink RX0 31 arraycopyName, Cond.methodLink RX7 109 yX1_wayOf, Cond.instanceMethod yX1_wayOf, Cond.selects RX1 yX1_wayOf yX1_wayOf, Cond.code yX1_wayOf cX1_wayOf 6 (some .long), Cond.fieldLink RX1 70 "TreadleKernels$Draft" "length" "I", Cond.methodLink RX1 79 yX1_draftAt, Cond.methodLink RX1 83 yX0_pressAt, Cond.instanceMethod yX0_pressAt]
def wsX7_weave_r4 : List Cond := [Cond.selects RX0 yX0_pressAt yX0_pressAt, Cond.code yX0_pressAt cX0_pressAt 2 (some .int), Cond.methodLink RX1 86 yX1_wayOfPress, Cond.instanceMethod yX1_wayOfPress, Cond.selects RX1 yX1_wayOfPress yX1_wayOfPress, Cond.code yX1_wayOfPress cX1_wayOfPress 4 (some .long), Cond.methodLink RX1 66 yX1_raisedBy, Cond.instanceMethod yX1_raisedBy, Cond.selects RX1 yX1_raisedBy yX1_raisedBy, Cond.code yX1_raisedBy cX1_raisedBy 4 (some .int), Cond.methodLink RX1 59 yX4_at, Cond.static yX4_at, Cond.initialized RX4, Cond.code yX4_at cX4_at 3 (some .int), Cond.static yX7_hasBit, Cond.code yX7_hasBit cX7_hasBit 2 (some .boolean), Cond.methodLink RX1 90 yX6_round, Cond.static yX6_round, Cond.initialized RX6, Cond.code yX6_round cX6_round 6 (some .long), Cond.constantLong RX6 15 (205163983024656), Cond.methodLink RX6 21 yX4_with, Cond.static yX4_with, Cond.code yX4_with cX4_with 4 (some .long)]
def wsX7_weave_r5 : List Cond := [Cond.constantLong RX4 9 (15), Cond.constantLong RX4 11 (-1), Cond.methodLink RX1 93 yX6_back, Cond.static yX6_back, Cond.code yX6_back cX6_back 2 (some .long), Cond.methodLink RX6 25 yX4_moved, Cond.static yX4_moved, Cond.code yX4_moved cX4_moved 7 (some .long), Cond.methodLink RX4 13 yX4_at, Cond.methodLink RX1 73 yX6_then, Cond.static yX6_then, Cond.code yX6_then cX6_then 7 (some .long), Cond.methodLink RX6 9 yX4_at, Cond.methodLink RX7 113 yX6_power, Cond.static yX6_power, Cond.code yX6_power cX6_power 8 (some .long), Cond.methodLink RX6 29 yX6_then, Cond.methodLink RX7 119 yX4_moved, Cond.methodLink RX7 129 yX6_staying, Cond.static yX6_staying, Cond.code yX6_staying cX6_staying 2 (some .int), Cond.methodLink RX6 34 yX6_alikePlaces, Cond.static yX6_alikePlaces, Cond.code yX6_alikePlaces cX6_alikePlaces 6 (some .int)]
def wsX7_weave_r6 : List Cond := [Cond.methodLink RX6 38 yJ6_bitCount_0f7a4, Cond.static yJ6_bitCount_0f7a4, Cond.initialized RJ6, Cond.code yJ6_bitCount_0f7a4 cJ6_bitCount_0f7a4 1 (some .int), Cond.constant RJ6 265 (1431655765), Cond.constant RJ6 266 (858993459), Cond.constant RJ6 267 (252645135)]
def wsX7_weave : List Cond := .code yX7_weave cX7_weave 4 (some .int) :: ((wsX7_weave_r1 ++ (wsX7_weave_r2 ++ (wsX7_weave_r3 ++ (wsX7_weave_r4 ++ (wsX7_weave_r5 ++ wsX7_weave_r6))))) ++ wsX70 ++ wsX10 ++ wsX00 ++ wsX30)
def wsX7_dye_r1 : List Cond := [Cond.fieldLink RX7 19 "TreadleKernels" "past" "LTreadleKernels$Past;", Cond.fieldLink RX7 10 "TreadleKernels" "loom" "LTreadleKernels$Loom;", Cond.fieldLink RX7 133 "TreadleKernels$Loom" "colours" "J", Cond.methodLink RX7 48 yX7_isBelow, Cond.static yX7_isBelow, Cond.initialized RX7, Cond.code yX7_isBelow cX7_isBelow 2 (some .boolean), Cond.methodLink RX7 52 yX3_keep, Cond.instanceMethod yX3_keep, Cond.selects RX3 yX3_keep yX3_keep, Cond.initialized RX3, Cond.code yX3_keep cX3_keep 3 none, Cond.fieldLink RX3 17 "TreadleKernels$Past" "length" "I", Cond.fieldLink RX3 11 "TreadleKernels$Past" "states" "[LTreadleKernels$Loom;", Cond.classLink RX3 9 RX1, Cond.instantiable RX1 7, Cond.initialized RX1, Cond.methodLink RX3 21 yX3_dropOldest, Cond.instanceMethod yX3_dropOldest, Cond.selects RX3 yX3_dropOldest yX3_dropOldest, Cond.code yX3_dropOldest cX3_dropOldest 3 none, Cond.methodLink RX3 28 yX1_init, Cond.instanceMethod yX1_init, Cond.code yX1_init cX1_init 2 none]
def wsX7_dye_r2 : List Cond := [Cond.methodLink RX1 3 objectInit, Cond.instanceMethod objectInit, Cond.code objectInit ⟨#[0xb1]⟩ 1 none, Cond.constantLong RX1 11 (92573999051280), Cond.fieldLink RX1 13 "TreadleKernels$Loom" "shafts" "J", Cond.constantLong RX1 19 (205163983024656), Cond.fieldLink RX1 21 "TreadleKernels$Loom" "threads" "J", Cond.fieldLink RX1 24 "TreadleKernels$Loom" "colours" "J", Cond.arrayClass .int, Cond.fieldLink RX1 27 "TreadleKernels$Loom" "ties" "[I", Cond.classLink RX1 31 RX0, Cond.fieldLink RX1 33 "TreadleKernels$Loom" "drafts" "[LTreadleKernels$Draft;", Cond.fieldLink RX1 37 "TreadleKernels$Loom" "pressed" "I", Cond.fieldLink RX1 41 "TreadleKernels$Loom" "picks" "I", Cond.instantiable RX0 2, Cond.initialized RX0, Cond.instanceMethod yX0_init, Cond.code yX0_init cX0_init 1 none, Cond.methodLink RX0 3 objectInit, Cond.fieldLink RX0 9 "TreadleKernels$Draft" "presses" "[I", Cond.fieldLink RX0 15 "TreadleKernels$Draft" "length" "I", Cond.methodLink RX3 29 yX1_copyFrom, Cond.instanceMethod yX1_copyFrom, Cond.selects RX1 yX1_copyFrom yX1_copyFrom]
def wsX7_dye_r3 : List Cond := [Cond.code yX1_copyFrom cX1_copyFrom 5 none, Cond.methodLink RX1 45 arraycopyName, Cond.native arraycopyName, Cond.static arraycopyName, Cond.initialized "java/lang/System", Cond.methodLink RX1 51 yX0_copyFrom, Cond.instanceMethod yX0_copyFrom, Cond.selects RX0 yX0_copyFrom yX0_copyFrom, Cond.code yX0_copyFrom cX0_copyFrom 2 none, Cond.methodLink RX0 31 arraycopyName, Cond.methodLink RX7 60 yX4_at, Cond.static yX4_at, Cond.initialized RX4, Cond.code yX4_at cX4_at 3 (some .int), Cond.methodLink RX7 66 yX4_with, Cond.static yX4_with, Cond.code yX4_with cX4_with 4 (some .long), Cond.constantLong RX4 9 (15), Cond.constantLong RX4 11 (-1)]
def wsX7_dye : List Cond := .code yX7_dye cX7_dye 4 (some .int) :: ((wsX7_dye_r1 ++ (wsX7_dye_r2 ++ wsX7_dye_r3)) ++ wsX70 ++ wsX10 ++ wsX30 ++ wsX00)
def wsX7_place_r1 : List Cond := [Cond.fieldLink RX7 10 "TreadleKernels" "loom" "LTreadleKernels$Loom;", Cond.fieldLink RX7 56 "TreadleKernels$Loom" "shafts" "J", Cond.fieldLink RX7 106 "TreadleKernels$Loom" "threads" "J", Cond.methodLink RX7 48 yX7_isBelow, Cond.static yX7_isBelow, Cond.initialized RX7, Cond.code yX7_isBelow cX7_isBelow 2 (some .boolean), Cond.methodLink RX7 60 yX4_at, Cond.static yX4_at, Cond.initialized RX4, Cond.code yX4_at cX4_at 3 (some .int), Cond.methodLink RX7 136 yX1_coloursByPlace, Cond.instanceMethod yX1_coloursByPlace, Cond.selects RX1 yX1_coloursByPlace yX1_coloursByPlace, Cond.initialized RX1, Cond.code yX1_coloursByPlace cX1_coloursByPlace 1 (some .long), Cond.fieldLink RX1 21 "TreadleKernels$Loom" "threads" "J", Cond.fieldLink RX1 24 "TreadleKernels$Loom" "colours" "J", Cond.methodLink RX1 73 yX6_then, Cond.static yX6_then, Cond.initialized RX6, Cond.code yX6_then cX6_then 7 (some .long), Cond.methodLink RX6 9 yX4_at, Cond.methodLink RX7 140 yX1_treadlesRaising]
def wsX7_place_r2 : List Cond := [Cond.instanceMethod yX1_treadlesRaising, Cond.selects RX1 yX1_treadlesRaising yX1_treadlesRaising, Cond.code yX1_treadlesRaising cX1_treadlesRaising 4 (some .int), Cond.fieldLink RX1 27 "TreadleKernels$Loom" "ties" "[I", Cond.fieldLink RX1 13 "TreadleKernels$Loom" "shafts" "J", Cond.methodLink RX1 59 yX4_at, Cond.static yX7_hasBit, Cond.code yX7_hasBit cX7_hasBit 2 (some .boolean)]
def wsX7_place : List Cond := .code yX7_place cX7_place 3 (some .int) :: ((wsX7_place_r1 ++ wsX7_place_r2) ++ wsX70 ++ wsX10)
def wsX7_treadle : List Cond := .code yX7_treadle cX7_treadle 3 (some .int) :: ([.fieldLink RX7 10 "TreadleKernels" "loom" "LTreadleKernels$Loom;", .fieldLink RX7 70 "TreadleKernels$Loom" "ties" "[I", .methodLink RX7 48 yX7_isBelow, .static yX7_isBelow, .initialized RX7, .code yX7_isBelow cX7_isBelow 2 (some .boolean), .methodLink RX7 74 yX1_raisedBy, .instanceMethod yX1_raisedBy, .selects RX1 yX1_raisedBy yX1_raisedBy, .initialized RX1, .code yX1_raisedBy cX1_raisedBy 4 (some .int), .fieldLink RX1 27 "TreadleKernels$Loom" "ties" "[I", .fieldLink RX1 13 "TreadleKernels$Loom" "shafts" "J", .methodLink RX1 59 yX4_at, .static yX4_at, .initialized RX4, .code yX4_at cX4_at 3 (some .int), .static yX7_hasBit, .code yX7_hasBit cX7_hasBit 2 (some .boolean)] ++ wsX70 ++ wsX10)
def wsX7_draft_r1 : List Cond := [Cond.fieldLink RX7 10 "TreadleKernels" "loom" "LTreadleKernels$Loom;", Cond.fieldLink RX7 99 "TreadleKernels$Draft" "length" "I", Cond.constantLong RX7 143 (205163983024656), Cond.methodLink RX7 83 yX1_draftAt, Cond.instanceMethod yX1_draftAt, Cond.selects RX1 yX1_draftAt yX1_draftAt, Cond.initialized RX1, Cond.code yX1_draftAt cX1_draftAt 2 (some (.object "TreadleKernels$Draft")), Cond.fieldLink RX1 33 "TreadleKernels$Loom" "drafts" "[LTreadleKernels$Draft;", Cond.static yX7_isBelow, Cond.initialized RX7, Cond.code yX7_isBelow cX7_isBelow 2 (some .boolean), Cond.methodLink RX7 109 yX1_wayOf, Cond.instanceMethod yX1_wayOf, Cond.selects RX1 yX1_wayOf yX1_wayOf, Cond.code yX1_wayOf cX1_wayOf 6 (some .long), Cond.constantLong RX1 19 (205163983024656), Cond.fieldLink RX1 70 "TreadleKernels$Draft" "length" "I", Cond.methodLink RX1 79 yX1_draftAt, Cond.methodLink RX1 83 yX0_pressAt, Cond.instanceMethod yX0_pressAt, Cond.selects RX0 yX0_pressAt yX0_pressAt, Cond.initialized RX0, Cond.code yX0_pressAt cX0_pressAt 2 (some .int)]
def wsX7_draft_r2 : List Cond := [Cond.fieldLink RX0 9 "TreadleKernels$Draft" "presses" "[I", Cond.methodLink RX1 86 yX1_wayOfPress, Cond.instanceMethod yX1_wayOfPress, Cond.selects RX1 yX1_wayOfPress yX1_wayOfPress, Cond.code yX1_wayOfPress cX1_wayOfPress 4 (some .long), Cond.methodLink RX1 66 yX1_raisedBy, Cond.instanceMethod yX1_raisedBy, Cond.selects RX1 yX1_raisedBy yX1_raisedBy, Cond.code yX1_raisedBy cX1_raisedBy 4 (some .int), Cond.fieldLink RX1 27 "TreadleKernels$Loom" "ties" "[I", Cond.fieldLink RX1 13 "TreadleKernels$Loom" "shafts" "J", Cond.methodLink RX1 59 yX4_at, Cond.static yX4_at, Cond.initialized RX4, Cond.code yX4_at cX4_at 3 (some .int), Cond.static yX7_hasBit, Cond.code yX7_hasBit cX7_hasBit 2 (some .boolean), Cond.methodLink RX1 90 yX6_round, Cond.static yX6_round, Cond.initialized RX6, Cond.code yX6_round cX6_round 6 (some .long), Cond.constantLong RX6 15 (205163983024656), Cond.methodLink RX6 21 yX4_with, Cond.static yX4_with]
def wsX7_draft_r3 : List Cond := [Cond.code yX4_with cX4_with 4 (some .long), Cond.constantLong RX4 9 (15), Cond.constantLong RX4 11 (-1), Cond.methodLink RX1 93 yX6_back, Cond.static yX6_back, Cond.code yX6_back cX6_back 2 (some .long), Cond.methodLink RX6 25 yX4_moved, Cond.static yX4_moved, Cond.code yX4_moved cX4_moved 7 (some .long), Cond.methodLink RX4 13 yX4_at, Cond.methodLink RX1 73 yX6_then, Cond.static yX6_then, Cond.code yX6_then cX6_then 7 (some .long), Cond.methodLink RX6 9 yX4_at, Cond.methodLink RX7 145 yX6_timesUntilAgain, Cond.static yX6_timesUntilAgain, Cond.code yX6_timesUntilAgain cX6_timesUntilAgain 7 (some .int), Cond.methodLink RX7 149 yX6_alikePlaces, Cond.static yX6_alikePlaces, Cond.code yX6_alikePlaces cX6_alikePlaces 6 (some .int), Cond.methodLink RX7 152 yX6_cycles, Cond.static yX6_cycles, Cond.code yX6_cycles cX6_cycles 6 (some .int), Cond.methodLink RX6 44 yX6_cycleOf]
def wsX7_draft_r4 : List Cond := [Cond.static yX6_cycleOf, Cond.code yX6_cycleOf cX6_cycleOf 6 (some .int), Cond.methodLink RX7 155 yX6_longestCycle, Cond.static yX6_longestCycle, Cond.code yX6_longestCycle cX6_longestCycle 5 (some .int), Cond.methodLink RX6 38 yJ6_bitCount_0f7a4, Cond.static yJ6_bitCount_0f7a4, Cond.initialized RJ6, Cond.code yJ6_bitCount_0f7a4 cJ6_bitCount_0f7a4 1 (some .int), Cond.constant RJ6 265 (1431655765), Cond.constant RJ6 266 (858993459), Cond.constant RJ6 267 (252645135), Cond.methodLink RX7 158 yX6_crossings, Cond.static yX6_crossings, Cond.code yX6_crossings cX6_crossings 5 (some .int), Cond.methodLink RX7 136 yX1_coloursByPlace, Cond.instanceMethod yX1_coloursByPlace, Cond.selects RX1 yX1_coloursByPlace yX1_coloursByPlace, Cond.code yX1_coloursByPlace cX1_coloursByPlace 1 (some .long), Cond.fieldLink RX1 21 "TreadleKernels$Loom" "threads" "J", Cond.fieldLink RX1 24 "TreadleKernels$Loom" "colours" "J"]
def wsX7_draft : List Cond := .code yX7_draft cX7_draft 6 (some .int) :: ((wsX7_draft_r1 ++ (wsX7_draft_r2 ++ (wsX7_draft_r3 ++ wsX7_draft_r4))) ++ wsX70 ++ wsX00 ++ wsX10)
def wsX7_press : List Cond := .code yX7_press cX7_press 4 (some .int) :: ([.fieldLink RX7 10 "TreadleKernels" "loom" "LTreadleKernels$Loom;", .fieldLink RX7 99 "TreadleKernels$Draft" "length" "I", .methodLink RX7 83 yX1_draftAt, .instanceMethod yX1_draftAt, .selects RX1 yX1_draftAt yX1_draftAt, .initialized RX1, .code yX1_draftAt cX1_draftAt 2 (some (.object "TreadleKernels$Draft")), .fieldLink RX1 33 "TreadleKernels$Loom" "drafts" "[LTreadleKernels$Draft;", .static yX7_isBelow, .initialized RX7, .code yX7_isBelow cX7_isBelow 2 (some .boolean), .methodLink RX7 48 yX7_isBelow, .methodLink RX7 161 yX0_pressAt, .instanceMethod yX0_pressAt, .selects RX0 yX0_pressAt yX0_pressAt, .initialized RX0, .code yX0_pressAt cX0_pressAt 2 (some .int), .fieldLink RX0 9 "TreadleKernels$Draft" "presses" "[I"] ++ wsX70 ++ wsX00 ++ wsX10)
def wsX7_comesTo_r1 : List Cond := [Cond.constant RX7 164 (1000000), Cond.fieldLink RX7 10 "TreadleKernels" "loom" "LTreadleKernels$Loom;", Cond.methodLink RX7 48 yX7_isBelow, Cond.static yX7_isBelow, Cond.initialized RX7, Cond.code yX7_isBelow cX7_isBelow 2 (some .boolean), Cond.methodLink RX7 109 yX1_wayOf, Cond.instanceMethod yX1_wayOf, Cond.selects RX1 yX1_wayOf yX1_wayOf, Cond.initialized RX1, Cond.code yX1_wayOf cX1_wayOf 6 (some .long), Cond.constantLong RX1 19 (205163983024656), Cond.fieldLink RX1 70 "TreadleKernels$Draft" "length" "I", Cond.methodLink RX1 79 yX1_draftAt, Cond.instanceMethod yX1_draftAt, Cond.selects RX1 yX1_draftAt yX1_draftAt, Cond.code yX1_draftAt cX1_draftAt 2 (some (.object "TreadleKernels$Draft")), Cond.fieldLink RX1 33 "TreadleKernels$Loom" "drafts" "[LTreadleKernels$Draft;", Cond.methodLink RX1 83 yX0_pressAt, Cond.instanceMethod yX0_pressAt, Cond.selects RX0 yX0_pressAt yX0_pressAt, Cond.initialized RX0, Cond.code yX0_pressAt cX0_pressAt 2 (some .int), Cond.fieldLink RX0 9 "TreadleKernels$Draft" "presses" "[I"]
def wsX7_comesTo_r2 : List Cond := [Cond.methodLink RX1 86 yX1_wayOfPress, Cond.instanceMethod yX1_wayOfPress, Cond.selects RX1 yX1_wayOfPress yX1_wayOfPress, Cond.code yX1_wayOfPress cX1_wayOfPress 4 (some .long), Cond.methodLink RX1 66 yX1_raisedBy, Cond.instanceMethod yX1_raisedBy, Cond.selects RX1 yX1_raisedBy yX1_raisedBy, Cond.code yX1_raisedBy cX1_raisedBy 4 (some .int), Cond.fieldLink RX1 27 "TreadleKernels$Loom" "ties" "[I", Cond.fieldLink RX1 13 "TreadleKernels$Loom" "shafts" "J", Cond.methodLink RX1 59 yX4_at, Cond.static yX4_at, Cond.initialized RX4, Cond.code yX4_at cX4_at 3 (some .int), Cond.static yX7_hasBit, Cond.code yX7_hasBit cX7_hasBit 2 (some .boolean), Cond.methodLink RX1 90 yX6_round, Cond.static yX6_round, Cond.initialized RX6, Cond.code yX6_round cX6_round 6 (some .long), Cond.constantLong RX6 15 (205163983024656), Cond.methodLink RX6 21 yX4_with, Cond.static yX4_with, Cond.code yX4_with cX4_with 4 (some .long)]
def wsX7_comesTo_r3 : List Cond := [Cond.constantLong RX4 9 (15), Cond.constantLong RX4 11 (-1), Cond.methodLink RX1 93 yX6_back, Cond.static yX6_back, Cond.code yX6_back cX6_back 2 (some .long), Cond.methodLink RX6 25 yX4_moved, Cond.static yX4_moved, Cond.code yX4_moved cX4_moved 7 (some .long), Cond.methodLink RX4 13 yX4_at, Cond.methodLink RX1 73 yX6_then, Cond.static yX6_then, Cond.code yX6_then cX6_then 7 (some .long), Cond.methodLink RX6 9 yX4_at, Cond.methodLink RX7 113 yX6_power, Cond.static yX6_power, Cond.code yX6_power cX6_power 8 (some .long), Cond.methodLink RX6 29 yX6_then, Cond.methodLink RX7 60 yX4_at]
def wsX7_comesTo : List Cond := .code yX7_comesTo cX7_comesTo 4 (some .int) :: ((wsX7_comesTo_r1 ++ (wsX7_comesTo_r2 ++ wsX7_comesTo_r3)) ++ wsX70 ++ wsX00 ++ wsX10)
def wsX7_count_r1 : List Cond := [Cond.fieldLink RX7 10 "TreadleKernels" "loom" "LTreadleKernels$Loom;", Cond.fieldLink RX7 106 "TreadleKernels$Loom" "threads" "J", Cond.fieldLink RX7 123 "TreadleKernels$Loom" "pressed" "I", Cond.fieldLink RX7 126 "TreadleKernels$Loom" "picks" "I", Cond.fieldLink RX7 30 "TreadleKernels" "pad" "LTreadleKernels$Pad;", Cond.fieldLink RX7 95 "TreadleKernels$Pad" "length" "I", Cond.fieldLink RX7 19 "TreadleKernels" "past" "LTreadleKernels$Past;", Cond.fieldLink RX7 172 "TreadleKernels$Past" "length" "I", Cond.methodLink RX7 129 yX6_staying, Cond.static yX6_staying, Cond.initialized RX6, Cond.code yX6_staying cX6_staying 2 (some .int), Cond.constantLong RX6 15 (205163983024656), Cond.methodLink RX6 34 yX6_alikePlaces, Cond.static yX6_alikePlaces, Cond.code yX6_alikePlaces cX6_alikePlaces 6 (some .int), Cond.methodLink RX6 9 yX4_at, Cond.static yX4_at, Cond.initialized RX4, Cond.code yX4_at cX4_at 3 (some .int), Cond.methodLink RX6 38 yJ6_bitCount_0f7a4, Cond.static yJ6_bitCount_0f7a4, Cond.initialized RJ6, Cond.code yJ6_bitCount_0f7a4 cJ6_bitCount_0f7a4 1 (some .int)]
def wsX7_count_r2 : List Cond := [Cond.constant RJ6 265 (1431655765), Cond.constant RJ6 266 (858993459), Cond.constant RJ6 267 (252645135), Cond.methodLink RX7 165 yX1_neverRaised, Cond.instanceMethod yX1_neverRaised, Cond.selects RX1 yX1_neverRaised yX1_neverRaised, Cond.initialized RX1, Cond.code yX1_neverRaised cX1_neverRaised 3 (some .int), Cond.methodLink RX1 66 yX1_raisedBy, Cond.instanceMethod yX1_raisedBy, Cond.selects RX1 yX1_raisedBy yX1_raisedBy, Cond.code yX1_raisedBy cX1_raisedBy 4 (some .int), Cond.fieldLink RX1 27 "TreadleKernels$Loom" "ties" "[I", Cond.fieldLink RX1 13 "TreadleKernels$Loom" "shafts" "J", Cond.static yX7_isBelow, Cond.initialized RX7, Cond.code yX7_isBelow cX7_isBelow 2 (some .boolean), Cond.methodLink RX1 59 yX4_at, Cond.static yX7_hasBit, Cond.code yX7_hasBit cX7_hasBit 2 (some .boolean), Cond.methodLink RX7 169 yX1_draftsWithPresses, Cond.instanceMethod yX1_draftsWithPresses, Cond.selects RX1 yX1_draftsWithPresses yX1_draftsWithPresses, Cond.code yX1_draftsWithPresses cX1_draftsWithPresses 4 (some .int)]
def wsX7_count_r3 : List Cond := [Cond.fieldLink RX1 33 "TreadleKernels$Loom" "drafts" "[LTreadleKernels$Draft;", Cond.fieldLink RX1 70 "TreadleKernels$Draft" "length" "I"]
def wsX7_count : List Cond := .code yX7_count cX7_count 2 (some .int) :: ((wsX7_count_r1 ++ (wsX7_count_r2 ++ wsX7_count_r3)) ++ wsX70 ++ wsX10 ++ wsX20 ++ wsX30 ++ wsX00)
def wsX7_kernel_r1 : List Cond := [Cond.fieldLink RX7 10 "TreadleKernels" "loom" "LTreadleKernels$Loom;", Cond.constantLong RX7 143 (205163983024656), Cond.methodLink RX7 48 yX7_isBelow, Cond.static yX7_isBelow, Cond.initialized RX7, Cond.code yX7_isBelow cX7_isBelow 2 (some .boolean), Cond.methodLink RX7 173 yX7_hasBit, Cond.static yX7_hasBit, Cond.code yX7_hasBit cX7_hasBit 2 (some .boolean), Cond.methodLink RX7 109 yX1_wayOf, Cond.instanceMethod yX1_wayOf, Cond.selects RX1 yX1_wayOf yX1_wayOf, Cond.initialized RX1, Cond.code yX1_wayOf cX1_wayOf 6 (some .long), Cond.constantLong RX1 19 (205163983024656), Cond.fieldLink RX1 70 "TreadleKernels$Draft" "length" "I", Cond.methodLink RX1 79 yX1_draftAt, Cond.instanceMethod yX1_draftAt, Cond.selects RX1 yX1_draftAt yX1_draftAt, Cond.code yX1_draftAt cX1_draftAt 2 (some (.object "TreadleKernels$Draft")), Cond.fieldLink RX1 33 "TreadleKernels$Loom" "drafts" "[LTreadleKernels$Draft;", Cond.methodLink RX1 83 yX0_pressAt, Cond.instanceMethod yX0_pressAt, Cond.selects RX0 yX0_pressAt yX0_pressAt]
def wsX7_kernel_r2 : List Cond := [Cond.initialized RX0, Cond.code yX0_pressAt cX0_pressAt 2 (some .int), Cond.fieldLink RX0 9 "TreadleKernels$Draft" "presses" "[I", Cond.methodLink RX1 86 yX1_wayOfPress, Cond.instanceMethod yX1_wayOfPress, Cond.selects RX1 yX1_wayOfPress yX1_wayOfPress, Cond.code yX1_wayOfPress cX1_wayOfPress 4 (some .long), Cond.methodLink RX1 66 yX1_raisedBy, Cond.instanceMethod yX1_raisedBy, Cond.selects RX1 yX1_raisedBy yX1_raisedBy, Cond.code yX1_raisedBy cX1_raisedBy 4 (some .int), Cond.fieldLink RX1 27 "TreadleKernels$Loom" "ties" "[I", Cond.fieldLink RX1 13 "TreadleKernels$Loom" "shafts" "J", Cond.methodLink RX1 59 yX4_at, Cond.static yX4_at, Cond.initialized RX4, Cond.code yX4_at cX4_at 3 (some .int), Cond.methodLink RX1 90 yX6_round, Cond.static yX6_round, Cond.initialized RX6, Cond.code yX6_round cX6_round 6 (some .long), Cond.constantLong RX6 15 (205163983024656), Cond.methodLink RX6 21 yX4_with, Cond.static yX4_with]
def wsX7_kernel_r3 : List Cond := [Cond.code yX4_with cX4_with 4 (some .long), Cond.constantLong RX4 9 (15), Cond.constantLong RX4 11 (-1), Cond.methodLink RX1 93 yX6_back, Cond.static yX6_back, Cond.code yX6_back cX6_back 2 (some .long), Cond.methodLink RX6 25 yX4_moved, Cond.static yX4_moved, Cond.code yX4_moved cX4_moved 7 (some .long), Cond.methodLink RX4 13 yX4_at, Cond.methodLink RX1 73 yX6_then, Cond.static yX6_then, Cond.code yX6_then cX6_then 7 (some .long), Cond.methodLink RX6 9 yX4_at, Cond.methodLink RX7 149 yX6_alikePlaces, Cond.static yX6_alikePlaces, Cond.code yX6_alikePlaces cX6_alikePlaces 6 (some .int)]
def wsX7_kernel : List Cond := .code yX7_kernel cX7_kernel 4 (some .int) :: ((wsX7_kernel_r1 ++ (wsX7_kernel_r2 ++ wsX7_kernel_r3)) ++ wsX70 ++ wsX00 ++ wsX10)
def wsX7_gatherWays_r1 : List Cond := [Cond.fieldLink RX7 37 "TreadleKernels" "search" "LTreadleKernels$Search;", Cond.fieldLink RX7 204 "TreadleKernels$Search" "makers" "I", Cond.fieldLink RX7 10 "TreadleKernels" "loom" "LTreadleKernels$Loom;", Cond.methodLink RX7 173 yX7_hasBit, Cond.static yX7_hasBit, Cond.initialized RX7, Cond.code yX7_hasBit cX7_hasBit 2 (some .boolean), Cond.methodLink RX7 109 yX1_wayOf, Cond.instanceMethod yX1_wayOf, Cond.selects RX1 yX1_wayOf yX1_wayOf, Cond.initialized RX1, Cond.code yX1_wayOf cX1_wayOf 6 (some .long), Cond.constantLong RX1 19 (205163983024656), Cond.fieldLink RX1 70 "TreadleKernels$Draft" "length" "I", Cond.methodLink RX1 79 yX1_draftAt, Cond.instanceMethod yX1_draftAt, Cond.selects RX1 yX1_draftAt yX1_draftAt, Cond.code yX1_draftAt cX1_draftAt 2 (some (.object "TreadleKernels$Draft")), Cond.fieldLink RX1 33 "TreadleKernels$Loom" "drafts" "[LTreadleKernels$Draft;", Cond.static yX7_isBelow, Cond.code yX7_isBelow cX7_isBelow 2 (some .boolean), Cond.methodLink RX1 83 yX0_pressAt, Cond.instanceMethod yX0_pressAt, Cond.selects RX0 yX0_pressAt yX0_pressAt]
def wsX7_gatherWays_r2 : List Cond := [Cond.initialized RX0, Cond.code yX0_pressAt cX0_pressAt 2 (some .int), Cond.fieldLink RX0 9 "TreadleKernels$Draft" "presses" "[I", Cond.methodLink RX1 86 yX1_wayOfPress, Cond.instanceMethod yX1_wayOfPress, Cond.selects RX1 yX1_wayOfPress yX1_wayOfPress, Cond.code yX1_wayOfPress cX1_wayOfPress 4 (some .long), Cond.methodLink RX1 66 yX1_raisedBy, Cond.instanceMethod yX1_raisedBy, Cond.selects RX1 yX1_raisedBy yX1_raisedBy, Cond.code yX1_raisedBy cX1_raisedBy 4 (some .int), Cond.fieldLink RX1 27 "TreadleKernels$Loom" "ties" "[I", Cond.fieldLink RX1 13 "TreadleKernels$Loom" "shafts" "J", Cond.methodLink RX1 59 yX4_at, Cond.static yX4_at, Cond.initialized RX4, Cond.code yX4_at cX4_at 3 (some .int), Cond.methodLink RX1 90 yX6_round, Cond.static yX6_round, Cond.initialized RX6, Cond.code yX6_round cX6_round 6 (some .long), Cond.constantLong RX6 15 (205163983024656), Cond.methodLink RX6 21 yX4_with, Cond.static yX4_with]
def wsX7_gatherWays_r3 : List Cond := [Cond.code yX4_with cX4_with 4 (some .long), Cond.constantLong RX4 9 (15), Cond.constantLong RX4 11 (-1), Cond.methodLink RX1 93 yX6_back, Cond.static yX6_back, Cond.code yX6_back cX6_back 2 (some .long), Cond.methodLink RX6 25 yX4_moved, Cond.static yX4_moved, Cond.code yX4_moved cX4_moved 7 (some .long), Cond.methodLink RX4 13 yX4_at, Cond.methodLink RX1 73 yX6_then, Cond.static yX6_then, Cond.code yX6_then cX6_then 7 (some .long), Cond.methodLink RX6 9 yX4_at, Cond.methodLink RX7 207 yX5_addMaker, Cond.instanceMethod yX5_addMaker, Cond.selects RX5 yX5_addMaker yX5_addMaker, Cond.initialized RX5, Cond.code yX5_addMaker cX5_addMaker 3 none, Cond.fieldLink RX5 15 "TreadleKernels$Search" "makers" "I", Cond.fieldLink RX5 9 "TreadleKernels$Search" "makerWays" "[J"]
def wsX7_gatherWays : List Cond := .code yX7_gatherWays cX7_gatherWays 3 none :: ((wsX7_gatherWays_r1 ++ (wsX7_gatherWays_r2 ++ wsX7_gatherWays_r3)) ++ wsX70 ++ wsX50 ++ wsX00 ++ wsX10)
def wsX7_orbit_r1 : List Cond := [Cond.fieldLink RX7 37 "TreadleKernels" "search" "LTreadleKernels$Search;", Cond.methodLink RX7 48 yX7_isBelow, Cond.static yX7_isBelow, Cond.initialized RX7, Cond.code yX7_isBelow cX7_isBelow 2 (some .boolean), Cond.methodLink RX7 176 yX7_gatherWays, Cond.instanceMethod yX7_gatherWays, Cond.selects RX7 yX7_gatherWays yX7_gatherWays, Cond.code yX7_gatherWays cX7_gatherWays 3 none, Cond.fieldLink RX7 204 "TreadleKernels$Search" "makers" "I", Cond.fieldLink RX7 10 "TreadleKernels" "loom" "LTreadleKernels$Loom;", Cond.methodLink RX7 173 yX7_hasBit, Cond.static yX7_hasBit, Cond.code yX7_hasBit cX7_hasBit 2 (some .boolean), Cond.methodLink RX7 109 yX1_wayOf, Cond.instanceMethod yX1_wayOf, Cond.selects RX1 yX1_wayOf yX1_wayOf, Cond.initialized RX1, Cond.code yX1_wayOf cX1_wayOf 6 (some .long), Cond.constantLong RX1 19 (205163983024656), Cond.fieldLink RX1 70 "TreadleKernels$Draft" "length" "I", Cond.methodLink RX1 79 yX1_draftAt, Cond.instanceMethod yX1_draftAt, Cond.selects RX1 yX1_draftAt yX1_draftAt]
def wsX7_orbit_r2 : List Cond := [Cond.code yX1_draftAt cX1_draftAt 2 (some (.object "TreadleKernels$Draft")), Cond.fieldLink RX1 33 "TreadleKernels$Loom" "drafts" "[LTreadleKernels$Draft;", Cond.methodLink RX1 83 yX0_pressAt, Cond.instanceMethod yX0_pressAt, Cond.selects RX0 yX0_pressAt yX0_pressAt, Cond.initialized RX0, Cond.code yX0_pressAt cX0_pressAt 2 (some .int), Cond.fieldLink RX0 9 "TreadleKernels$Draft" "presses" "[I", Cond.methodLink RX1 86 yX1_wayOfPress, Cond.instanceMethod yX1_wayOfPress, Cond.selects RX1 yX1_wayOfPress yX1_wayOfPress, Cond.code yX1_wayOfPress cX1_wayOfPress 4 (some .long), Cond.methodLink RX1 66 yX1_raisedBy, Cond.instanceMethod yX1_raisedBy, Cond.selects RX1 yX1_raisedBy yX1_raisedBy, Cond.code yX1_raisedBy cX1_raisedBy 4 (some .int), Cond.fieldLink RX1 27 "TreadleKernels$Loom" "ties" "[I", Cond.fieldLink RX1 13 "TreadleKernels$Loom" "shafts" "J", Cond.methodLink RX1 59 yX4_at, Cond.static yX4_at, Cond.initialized RX4, Cond.code yX4_at cX4_at 3 (some .int), Cond.methodLink RX1 90 yX6_round, Cond.static yX6_round]
def wsX7_orbit_r3 : List Cond := [Cond.initialized RX6, Cond.code yX6_round cX6_round 6 (some .long), Cond.constantLong RX6 15 (205163983024656), Cond.methodLink RX6 21 yX4_with, Cond.static yX4_with, Cond.code yX4_with cX4_with 4 (some .long), Cond.constantLong RX4 9 (15), Cond.constantLong RX4 11 (-1), Cond.methodLink RX1 93 yX6_back, Cond.static yX6_back, Cond.code yX6_back cX6_back 2 (some .long), Cond.methodLink RX6 25 yX4_moved, Cond.static yX4_moved, Cond.code yX4_moved cX4_moved 7 (some .long), Cond.methodLink RX4 13 yX4_at, Cond.methodLink RX1 73 yX6_then, Cond.static yX6_then, Cond.code yX6_then cX6_then 7 (some .long), Cond.methodLink RX6 9 yX4_at, Cond.methodLink RX7 207 yX5_addMaker, Cond.instanceMethod yX5_addMaker, Cond.selects RX5 yX5_addMaker yX5_addMaker, Cond.initialized RX5, Cond.code yX5_addMaker cX5_addMaker 3 none]
def wsX7_orbit_r4 : List Cond := [Cond.fieldLink RX5 15 "TreadleKernels$Search" "makers" "I", Cond.fieldLink RX5 9 "TreadleKernels$Search" "makerWays" "[J", Cond.methodLink RX7 180 yX5_placesFrom, Cond.instanceMethod yX5_placesFrom, Cond.selects RX5 yX5_placesFrom yX5_placesFrom, Cond.code yX5_placesFrom cX5_placesFrom 5 (some .int), Cond.methodLink RX5 32 yX5_broughtTo, Cond.static yX5_broughtTo, Cond.code yX5_broughtTo cX5_broughtTo 5 (some .int), Cond.methodLink RX5 53 yX4_at]
def wsX7_orbit : List Cond := .code yX7_orbit cX7_orbit 3 (some .int) :: ((wsX7_orbit_r1 ++ (wsX7_orbit_r2 ++ (wsX7_orbit_r3 ++ wsX7_orbit_r4))) ++ wsX70 ++ wsX50 ++ wsX00 ++ wsX10)
def wsX7_asNumber : List Cond := .code yX7_asNumber cX7_asNumber 1 (some .int) :: ([])
def wsX7_pair_r1 : List Cond := [Cond.fieldLink RX7 10 "TreadleKernels" "loom" "LTreadleKernels$Loom;", Cond.constantLong RX7 143 (205163983024656), Cond.methodLink RX7 48 yX7_isBelow, Cond.static yX7_isBelow, Cond.initialized RX7, Cond.code yX7_isBelow cX7_isBelow 2 (some .boolean), Cond.methodLink RX7 109 yX1_wayOf, Cond.instanceMethod yX1_wayOf, Cond.selects RX1 yX1_wayOf yX1_wayOf, Cond.initialized RX1, Cond.code yX1_wayOf cX1_wayOf 6 (some .long), Cond.constantLong RX1 19 (205163983024656), Cond.fieldLink RX1 70 "TreadleKernels$Draft" "length" "I", Cond.methodLink RX1 79 yX1_draftAt, Cond.instanceMethod yX1_draftAt, Cond.selects RX1 yX1_draftAt yX1_draftAt, Cond.code yX1_draftAt cX1_draftAt 2 (some (.object "TreadleKernels$Draft")), Cond.fieldLink RX1 33 "TreadleKernels$Loom" "drafts" "[LTreadleKernels$Draft;", Cond.methodLink RX1 83 yX0_pressAt, Cond.instanceMethod yX0_pressAt, Cond.selects RX0 yX0_pressAt yX0_pressAt, Cond.initialized RX0, Cond.code yX0_pressAt cX0_pressAt 2 (some .int), Cond.fieldLink RX0 9 "TreadleKernels$Draft" "presses" "[I"]
def wsX7_pair_r2 : List Cond := [Cond.methodLink RX1 86 yX1_wayOfPress, Cond.instanceMethod yX1_wayOfPress, Cond.selects RX1 yX1_wayOfPress yX1_wayOfPress, Cond.code yX1_wayOfPress cX1_wayOfPress 4 (some .long), Cond.methodLink RX1 66 yX1_raisedBy, Cond.instanceMethod yX1_raisedBy, Cond.selects RX1 yX1_raisedBy yX1_raisedBy, Cond.code yX1_raisedBy cX1_raisedBy 4 (some .int), Cond.fieldLink RX1 27 "TreadleKernels$Loom" "ties" "[I", Cond.fieldLink RX1 13 "TreadleKernels$Loom" "shafts" "J", Cond.methodLink RX1 59 yX4_at, Cond.static yX4_at, Cond.initialized RX4, Cond.code yX4_at cX4_at 3 (some .int), Cond.static yX7_hasBit, Cond.code yX7_hasBit cX7_hasBit 2 (some .boolean), Cond.methodLink RX1 90 yX6_round, Cond.static yX6_round, Cond.initialized RX6, Cond.code yX6_round cX6_round 6 (some .long), Cond.constantLong RX6 15 (205163983024656), Cond.methodLink RX6 21 yX4_with, Cond.static yX4_with, Cond.code yX4_with cX4_with 4 (some .long)]
def wsX7_pair_r3 : List Cond := [Cond.constantLong RX4 9 (15), Cond.constantLong RX4 11 (-1), Cond.methodLink RX1 93 yX6_back, Cond.static yX6_back, Cond.code yX6_back cX6_back 2 (some .long), Cond.methodLink RX6 25 yX4_moved, Cond.static yX4_moved, Cond.code yX4_moved cX4_moved 7 (some .long), Cond.methodLink RX4 13 yX4_at, Cond.methodLink RX1 73 yX6_then, Cond.static yX6_then, Cond.code yX6_then cX6_then 7 (some .long), Cond.methodLink RX6 9 yX4_at, Cond.methodLink RX7 183 yX7_asNumber, Cond.static yX7_asNumber, Cond.code yX7_asNumber cX7_asNumber 1 (some .int), Cond.methodLink RX7 187 yX6_then, Cond.methodLink RX7 149 yX6_alikePlaces, Cond.static yX6_alikePlaces, Cond.code yX6_alikePlaces cX6_alikePlaces 6 (some .int)]
def wsX7_pair : List Cond := .code yX7_pair cX7_pair 8 (some .int) :: ((wsX7_pair_r1 ++ (wsX7_pair_r2 ++ wsX7_pair_r3)) ++ wsX70 ++ wsX00 ++ wsX10)
def wsX7_ways_r1 : List Cond := [Cond.fieldLink RX7 37 "TreadleKernels" "search" "LTreadleKernels$Search;", Cond.methodLink RX7 48 yX7_isBelow, Cond.static yX7_isBelow, Cond.initialized RX7, Cond.code yX7_isBelow cX7_isBelow 2 (some .boolean), Cond.methodLink RX7 176 yX7_gatherWays, Cond.instanceMethod yX7_gatherWays, Cond.selects RX7 yX7_gatherWays yX7_gatherWays, Cond.code yX7_gatherWays cX7_gatherWays 3 none, Cond.fieldLink RX7 204 "TreadleKernels$Search" "makers" "I", Cond.fieldLink RX7 10 "TreadleKernels" "loom" "LTreadleKernels$Loom;", Cond.methodLink RX7 173 yX7_hasBit, Cond.static yX7_hasBit, Cond.code yX7_hasBit cX7_hasBit 2 (some .boolean), Cond.methodLink RX7 109 yX1_wayOf, Cond.instanceMethod yX1_wayOf, Cond.selects RX1 yX1_wayOf yX1_wayOf, Cond.initialized RX1, Cond.code yX1_wayOf cX1_wayOf 6 (some .long), Cond.constantLong RX1 19 (205163983024656), Cond.fieldLink RX1 70 "TreadleKernels$Draft" "length" "I", Cond.methodLink RX1 79 yX1_draftAt, Cond.instanceMethod yX1_draftAt, Cond.selects RX1 yX1_draftAt yX1_draftAt]
def wsX7_ways_r2 : List Cond := [Cond.code yX1_draftAt cX1_draftAt 2 (some (.object "TreadleKernels$Draft")), Cond.fieldLink RX1 33 "TreadleKernels$Loom" "drafts" "[LTreadleKernels$Draft;", Cond.methodLink RX1 83 yX0_pressAt, Cond.instanceMethod yX0_pressAt, Cond.selects RX0 yX0_pressAt yX0_pressAt, Cond.initialized RX0, Cond.code yX0_pressAt cX0_pressAt 2 (some .int), Cond.fieldLink RX0 9 "TreadleKernels$Draft" "presses" "[I", Cond.methodLink RX1 86 yX1_wayOfPress, Cond.instanceMethod yX1_wayOfPress, Cond.selects RX1 yX1_wayOfPress yX1_wayOfPress, Cond.code yX1_wayOfPress cX1_wayOfPress 4 (some .long), Cond.methodLink RX1 66 yX1_raisedBy, Cond.instanceMethod yX1_raisedBy, Cond.selects RX1 yX1_raisedBy yX1_raisedBy, Cond.code yX1_raisedBy cX1_raisedBy 4 (some .int), Cond.fieldLink RX1 27 "TreadleKernels$Loom" "ties" "[I", Cond.fieldLink RX1 13 "TreadleKernels$Loom" "shafts" "J", Cond.methodLink RX1 59 yX4_at, Cond.static yX4_at, Cond.initialized RX4, Cond.code yX4_at cX4_at 3 (some .int), Cond.methodLink RX1 90 yX6_round, Cond.static yX6_round]
def wsX7_ways_r3 : List Cond := [Cond.initialized RX6, Cond.code yX6_round cX6_round 6 (some .long), Cond.constantLong RX6 15 (205163983024656), Cond.methodLink RX6 21 yX4_with, Cond.static yX4_with, Cond.code yX4_with cX4_with 4 (some .long), Cond.constantLong RX4 9 (15), Cond.constantLong RX4 11 (-1), Cond.methodLink RX1 93 yX6_back, Cond.static yX6_back, Cond.code yX6_back cX6_back 2 (some .long), Cond.methodLink RX6 25 yX4_moved, Cond.static yX4_moved, Cond.code yX4_moved cX4_moved 7 (some .long), Cond.methodLink RX4 13 yX4_at, Cond.methodLink RX1 73 yX6_then, Cond.static yX6_then, Cond.code yX6_then cX6_then 7 (some .long), Cond.methodLink RX6 9 yX4_at, Cond.methodLink RX7 207 yX5_addMaker, Cond.instanceMethod yX5_addMaker, Cond.selects RX5 yX5_addMaker yX5_addMaker, Cond.initialized RX5, Cond.code yX5_addMaker cX5_addMaker 3 none]
def wsX7_ways_r4 : List Cond := [Cond.fieldLink RX5 15 "TreadleKernels$Search" "makers" "I", Cond.fieldLink RX5 9 "TreadleKernels$Search" "makerWays" "[J", Cond.methodLink RX7 190 yX5_allWays, Cond.instanceMethod yX5_allWays, Cond.selects RX5 yX5_allWays yX5_allWays, Cond.code yX5_allWays cX5_allWays 3 (some .int), Cond.fieldLink RX5 25 "TreadleKernels$Search" "spots" "[J", Cond.fieldLink RX5 22 "TreadleKernels$Search" "length" "I", Cond.constantLong RX5 38 (205163983024656), Cond.fieldLink RX5 19 "TreadleKernels$Search" "found" "[J", Cond.methodLink RX5 40 yX5_note, Cond.instanceMethod yX5_note, Cond.selects RX5 yX5_note yX5_note, Cond.code yX5_note cX5_note 7 none, Cond.constantLong RX5 56 (-7046029254386353131), Cond.methodLink RX5 44 yX6_then]
def wsX7_ways : List Cond := .code yX7_ways cX7_ways 2 (some .int) :: ((wsX7_ways_r1 ++ (wsX7_ways_r2 ++ (wsX7_ways_r3 ++ wsX7_ways_r4))) ++ wsX70 ++ wsX50 ++ wsX00 ++ wsX10)
def wsX7_untilHome_r1 : List Cond := [Cond.fieldLink RX7 10 "TreadleKernels" "loom" "LTreadleKernels$Loom;", Cond.fieldLink RX7 106 "TreadleKernels$Loom" "threads" "J", Cond.constantLong RX7 143 (205163983024656), Cond.methodLink RX7 48 yX7_isBelow, Cond.static yX7_isBelow, Cond.initialized RX7, Cond.code yX7_isBelow cX7_isBelow 2 (some .boolean), Cond.methodLink RX7 109 yX1_wayOf, Cond.instanceMethod yX1_wayOf, Cond.selects RX1 yX1_wayOf yX1_wayOf, Cond.initialized RX1, Cond.code yX1_wayOf cX1_wayOf 6 (some .long), Cond.constantLong RX1 19 (205163983024656), Cond.fieldLink RX1 70 "TreadleKernels$Draft" "length" "I", Cond.methodLink RX1 79 yX1_draftAt, Cond.instanceMethod yX1_draftAt, Cond.selects RX1 yX1_draftAt yX1_draftAt, Cond.code yX1_draftAt cX1_draftAt 2 (some (.object "TreadleKernels$Draft")), Cond.fieldLink RX1 33 "TreadleKernels$Loom" "drafts" "[LTreadleKernels$Draft;", Cond.methodLink RX1 83 yX0_pressAt, Cond.instanceMethod yX0_pressAt, Cond.selects RX0 yX0_pressAt yX0_pressAt, Cond.initialized RX0, Cond.code yX0_pressAt cX0_pressAt 2 (some .int)]
def wsX7_untilHome_r2 : List Cond := [Cond.fieldLink RX0 9 "TreadleKernels$Draft" "presses" "[I", Cond.methodLink RX1 86 yX1_wayOfPress, Cond.instanceMethod yX1_wayOfPress, Cond.selects RX1 yX1_wayOfPress yX1_wayOfPress, Cond.code yX1_wayOfPress cX1_wayOfPress 4 (some .long), Cond.methodLink RX1 66 yX1_raisedBy, Cond.instanceMethod yX1_raisedBy, Cond.selects RX1 yX1_raisedBy yX1_raisedBy, Cond.code yX1_raisedBy cX1_raisedBy 4 (some .int), Cond.fieldLink RX1 27 "TreadleKernels$Loom" "ties" "[I", Cond.fieldLink RX1 13 "TreadleKernels$Loom" "shafts" "J", Cond.methodLink RX1 59 yX4_at, Cond.static yX4_at, Cond.initialized RX4, Cond.code yX4_at cX4_at 3 (some .int), Cond.static yX7_hasBit, Cond.code yX7_hasBit cX7_hasBit 2 (some .boolean), Cond.methodLink RX1 90 yX6_round, Cond.static yX6_round, Cond.initialized RX6, Cond.code yX6_round cX6_round 6 (some .long), Cond.constantLong RX6 15 (205163983024656), Cond.methodLink RX6 21 yX4_with, Cond.static yX4_with]
def wsX7_untilHome_r3 : List Cond := [Cond.code yX4_with cX4_with 4 (some .long), Cond.constantLong RX4 9 (15), Cond.constantLong RX4 11 (-1), Cond.methodLink RX1 93 yX6_back, Cond.static yX6_back, Cond.code yX6_back cX6_back 2 (some .long), Cond.methodLink RX6 25 yX4_moved, Cond.static yX4_moved, Cond.code yX4_moved cX4_moved 7 (some .long), Cond.methodLink RX4 13 yX4_at, Cond.methodLink RX1 73 yX6_then, Cond.static yX6_then, Cond.code yX6_then cX6_then 7 (some .long), Cond.methodLink RX6 9 yX4_at, Cond.methodLink RX7 119 yX4_moved]
def wsX7_untilHome : List Cond := .code yX7_untilHome cX7_untilHome 7 (some .int) :: ((wsX7_untilHome_r1 ++ (wsX7_untilHome_r2 ++ wsX7_untilHome_r3)) ++ wsX70 ++ wsX10 ++ wsX00)
def wsX7_bestDraft_r1 : List Cond := [Cond.fieldLink RX7 10 "TreadleKernels" "loom" "LTreadleKernels$Loom;", Cond.fieldLink RX7 106 "TreadleKernels$Loom" "threads" "J", Cond.methodLink RX7 109 yX1_wayOf, Cond.instanceMethod yX1_wayOf, Cond.selects RX1 yX1_wayOf yX1_wayOf, Cond.initialized RX1, Cond.code yX1_wayOf cX1_wayOf 6 (some .long), Cond.constantLong RX1 19 (205163983024656), Cond.fieldLink RX1 70 "TreadleKernels$Draft" "length" "I", Cond.methodLink RX1 79 yX1_draftAt, Cond.instanceMethod yX1_draftAt, Cond.selects RX1 yX1_draftAt yX1_draftAt, Cond.code yX1_draftAt cX1_draftAt 2 (some (.object "TreadleKernels$Draft")), Cond.fieldLink RX1 33 "TreadleKernels$Loom" "drafts" "[LTreadleKernels$Draft;", Cond.static yX7_isBelow, Cond.initialized RX7, Cond.code yX7_isBelow cX7_isBelow 2 (some .boolean), Cond.methodLink RX1 83 yX0_pressAt, Cond.instanceMethod yX0_pressAt, Cond.selects RX0 yX0_pressAt yX0_pressAt, Cond.initialized RX0, Cond.code yX0_pressAt cX0_pressAt 2 (some .int), Cond.fieldLink RX0 9 "TreadleKernels$Draft" "presses" "[I", Cond.methodLink RX1 86 yX1_wayOfPress]
def wsX7_bestDraft_r2 : List Cond := [Cond.instanceMethod yX1_wayOfPress, Cond.selects RX1 yX1_wayOfPress yX1_wayOfPress, Cond.code yX1_wayOfPress cX1_wayOfPress 4 (some .long), Cond.methodLink RX1 66 yX1_raisedBy, Cond.instanceMethod yX1_raisedBy, Cond.selects RX1 yX1_raisedBy yX1_raisedBy, Cond.code yX1_raisedBy cX1_raisedBy 4 (some .int), Cond.fieldLink RX1 27 "TreadleKernels$Loom" "ties" "[I", Cond.fieldLink RX1 13 "TreadleKernels$Loom" "shafts" "J", Cond.methodLink RX1 59 yX4_at, Cond.static yX4_at, Cond.initialized RX4, Cond.code yX4_at cX4_at 3 (some .int), Cond.static yX7_hasBit, Cond.code yX7_hasBit cX7_hasBit 2 (some .boolean), Cond.methodLink RX1 90 yX6_round, Cond.static yX6_round, Cond.initialized RX6, Cond.code yX6_round cX6_round 6 (some .long), Cond.constantLong RX6 15 (205163983024656), Cond.methodLink RX6 21 yX4_with, Cond.static yX4_with, Cond.code yX4_with cX4_with 4 (some .long), Cond.constantLong RX4 9 (15)]
def wsX7_bestDraft_r3 : List Cond := [Cond.constantLong RX4 11 (-1), Cond.methodLink RX1 93 yX6_back, Cond.static yX6_back, Cond.code yX6_back cX6_back 2 (some .long), Cond.methodLink RX6 25 yX4_moved, Cond.static yX4_moved, Cond.code yX4_moved cX4_moved 7 (some .long), Cond.methodLink RX4 13 yX4_at, Cond.methodLink RX1 73 yX6_then, Cond.static yX6_then, Cond.code yX6_then cX6_then 7 (some .long), Cond.methodLink RX6 9 yX4_at, Cond.methodLink RX7 119 yX4_moved, Cond.methodLink RX7 129 yX6_staying, Cond.static yX6_staying, Cond.code yX6_staying cX6_staying 2 (some .int), Cond.methodLink RX6 34 yX6_alikePlaces, Cond.static yX6_alikePlaces, Cond.code yX6_alikePlaces cX6_alikePlaces 6 (some .int), Cond.methodLink RX6 38 yJ6_bitCount_0f7a4, Cond.static yJ6_bitCount_0f7a4, Cond.initialized RJ6, Cond.code yJ6_bitCount_0f7a4 cJ6_bitCount_0f7a4 1 (some .int), Cond.constant RJ6 265 (1431655765)]
def wsX7_bestDraft_r4 : List Cond := [Cond.constant RJ6 266 (858993459), Cond.constant RJ6 267 (252645135)]
def wsX7_bestDraft : List Cond := .code yX7_bestDraft cX7_bestDraft 6 (some .int) :: ((wsX7_bestDraft_r1 ++ (wsX7_bestDraft_r2 ++ (wsX7_bestDraft_r3 ++ wsX7_bestDraft_r4))) ++ wsX70 ++ wsX10 ++ wsX00)
def wsX7_write : List Cond := .code yX7_write cX7_write 4 (some .int) :: ([.fieldLink RX7 30 "TreadleKernels" "pad" "LTreadleKernels$Pad;", .fieldLink RX7 95 "TreadleKernels$Pad" "length" "I", .methodLink RX7 193 yX2_signsIn, .static yX2_signsIn, .initialized RX2, .code yX2_signsIn cX2_signsIn 7 (some .int), .constantLong RX2 19 (255), .constantLong RX2 21 (33), .constantLong RX2 23 (126), .methodLink RX7 196 yX2_append, .instanceMethod yX2_append, .selects RX2 yX2_append yX2_append, .code yX2_append cX2_append 5 none, .fieldLink RX2 15 "TreadleKernels$Pad" "length" "I", .fieldLink RX2 9 "TreadleKernels$Pad" "signs" "[C", .static yX7_isBelow, .initialized RX7, .code yX7_isBelow cX7_isBelow 2 (some .boolean)] ++ wsX70 ++ wsX20)
def wsX7_wipe : List Cond := .code yX7_wipe cX7_wipe 2 (some .int) :: ([.fieldLink RX7 30 "TreadleKernels" "pad" "LTreadleKernels$Pad;", .fieldLink RX7 95 "TreadleKernels$Pad" "length" "I"] ++ wsX70 ++ wsX20)
def wsX7_fault_r1 : List Cond := [Cond.fieldLink RX7 30 "TreadleKernels" "pad" "LTreadleKernels$Pad;", Cond.fieldLink RX7 44 "TreadleKernels" "fresh" "LTreadleKernels$Draft;", Cond.methodLink RX7 87 yX2_layOut, Cond.instanceMethod yX2_layOut, Cond.selects RX2 yX2_layOut yX2_layOut, Cond.initialized RX2, Cond.code yX2_layOut cX2_layOut 9 (some .int), Cond.fieldLink RX2 29 "TreadleKernels$Draft" "length" "I", Cond.fieldLink RX2 15 "TreadleKernels$Pad" "length" "I", Cond.fieldLink RX2 9 "TreadleKernels$Pad" "signs" "[C", Cond.methodLink RX2 32 yX2_pressOf, Cond.static yX2_pressOf, Cond.code yX2_pressOf cX2_pressOf 1 (some .int), Cond.methodLink RX2 36 yX2_timesOf, Cond.static yX2_timesOf, Cond.code yX2_timesOf cX2_timesOf 1 (some .int), Cond.methodLink RX2 39 yX0_add, Cond.instanceMethod yX0_add, Cond.selects RX0 yX0_add yX0_add, Cond.initialized RX0, Cond.code yX0_add cX0_add 2 none, Cond.fieldLink RX0 15 "TreadleKernels$Draft" "length" "I", Cond.fieldLink RX0 9 "TreadleKernels$Draft" "presses" "[I", Cond.static yX7_isBelow]
def wsX7_fault_r2 : List Cond := [Cond.initialized RX7, Cond.code yX7_isBelow cX7_isBelow 2 (some .boolean)]
def wsX7_fault : List Cond := .code yX7_fault cX7_fault 1 (some .int) :: ((wsX7_fault_r1 ++ wsX7_fault_r2) ++ wsX70 ++ wsX00 ++ wsX20)
def wsX7_undo_r1 : List Cond := [Cond.fieldLink RX7 19 "TreadleKernels" "past" "LTreadleKernels$Past;", Cond.fieldLink RX7 172 "TreadleKernels$Past" "length" "I", Cond.fieldLink RX7 10 "TreadleKernels" "loom" "LTreadleKernels$Loom;", Cond.methodLink RX7 199 yX3_giveBack, Cond.instanceMethod yX3_giveBack, Cond.selects RX3 yX3_giveBack yX3_giveBack, Cond.initialized RX3, Cond.code yX3_giveBack cX3_giveBack 3 none, Cond.fieldLink RX3 17 "TreadleKernels$Past" "length" "I", Cond.fieldLink RX3 11 "TreadleKernels$Past" "states" "[LTreadleKernels$Loom;", Cond.static yX7_isBelow, Cond.initialized RX7, Cond.code yX7_isBelow cX7_isBelow 2 (some .boolean), Cond.methodLink RX3 29 yX1_copyFrom, Cond.instanceMethod yX1_copyFrom, Cond.selects RX1 yX1_copyFrom yX1_copyFrom, Cond.initialized RX1, Cond.code yX1_copyFrom cX1_copyFrom 5 none, Cond.fieldLink RX1 13 "TreadleKernels$Loom" "shafts" "J", Cond.fieldLink RX1 21 "TreadleKernels$Loom" "threads" "J", Cond.fieldLink RX1 24 "TreadleKernels$Loom" "colours" "J", Cond.fieldLink RX1 27 "TreadleKernels$Loom" "ties" "[I", Cond.methodLink RX1 45 arraycopyName, Cond.native arraycopyName]
def wsX7_undo_r2 : List Cond := [Cond.static arraycopyName, Cond.initialized "java/lang/System", Cond.fieldLink RX1 33 "TreadleKernels$Loom" "drafts" "[LTreadleKernels$Draft;", Cond.fieldLink RX1 37 "TreadleKernels$Loom" "pressed" "I", Cond.fieldLink RX1 41 "TreadleKernels$Loom" "picks" "I", Cond.methodLink RX1 51 yX0_copyFrom, Cond.instanceMethod yX0_copyFrom, Cond.selects RX0 yX0_copyFrom yX0_copyFrom, Cond.initialized RX0, Cond.code yX0_copyFrom cX0_copyFrom 2 none, Cond.fieldLink RX0 9 "TreadleKernels$Draft" "presses" "[I", Cond.methodLink RX0 31 arraycopyName, Cond.fieldLink RX0 15 "TreadleKernels$Draft" "length" "I"]
def wsX7_undo : List Cond := .code yX7_undo cX7_undo 1 (some .int) :: ((wsX7_undo_r1 ++ wsX7_undo_r2) ++ wsX70 ++ wsX30 ++ wsX10 ++ wsX00)
def wsX7_save_r1 : List Cond := [Cond.fieldLink RX7 23 "TreadleKernels" "saved" "[LTreadleKernels$Loom;", Cond.classLink RX7 7 RX1, Cond.instantiable RX1 7, Cond.initialized RX1, Cond.fieldLink RX7 10 "TreadleKernels" "loom" "LTreadleKernels$Loom;", Cond.fieldLink RX7 106 "TreadleKernels$Loom" "threads" "J", Cond.methodLink RX7 48 yX7_isBelow, Cond.static yX7_isBelow, Cond.initialized RX7, Cond.code yX7_isBelow cX7_isBelow 2 (some .boolean), Cond.methodLink RX7 9 yX1_init, Cond.instanceMethod yX1_init, Cond.code yX1_init cX1_init 2 none, Cond.methodLink RX1 3 objectInit, Cond.instanceMethod objectInit, Cond.code objectInit ⟨#[0xb1]⟩ 1 none, Cond.constantLong RX1 11 (92573999051280), Cond.fieldLink RX1 13 "TreadleKernels$Loom" "shafts" "J", Cond.constantLong RX1 19 (205163983024656), Cond.fieldLink RX1 21 "TreadleKernels$Loom" "threads" "J", Cond.fieldLink RX1 24 "TreadleKernels$Loom" "colours" "J", Cond.arrayClass .int, Cond.fieldLink RX1 27 "TreadleKernels$Loom" "ties" "[I", Cond.classLink RX1 31 RX0]
def wsX7_save_r2 : List Cond := [Cond.fieldLink RX1 33 "TreadleKernels$Loom" "drafts" "[LTreadleKernels$Draft;", Cond.fieldLink RX1 37 "TreadleKernels$Loom" "pressed" "I", Cond.fieldLink RX1 41 "TreadleKernels$Loom" "picks" "I", Cond.instantiable RX0 2, Cond.initialized RX0, Cond.instanceMethod yX0_init, Cond.code yX0_init cX0_init 1 none, Cond.methodLink RX0 3 objectInit, Cond.fieldLink RX0 9 "TreadleKernels$Draft" "presses" "[I", Cond.fieldLink RX0 15 "TreadleKernels$Draft" "length" "I", Cond.methodLink RX7 202 yX1_copyFrom, Cond.instanceMethod yX1_copyFrom, Cond.selects RX1 yX1_copyFrom yX1_copyFrom, Cond.code yX1_copyFrom cX1_copyFrom 5 none, Cond.methodLink RX1 45 arraycopyName, Cond.native arraycopyName, Cond.static arraycopyName, Cond.initialized "java/lang/System", Cond.methodLink RX1 51 yX0_copyFrom, Cond.instanceMethod yX0_copyFrom, Cond.selects RX0 yX0_copyFrom yX0_copyFrom, Cond.code yX0_copyFrom cX0_copyFrom 2 none, Cond.methodLink RX0 31 arraycopyName, Cond.methodLink RX7 129 yX6_staying]
def wsX7_save_r3 : List Cond := [Cond.static yX6_staying, Cond.initialized RX6, Cond.code yX6_staying cX6_staying 2 (some .int), Cond.constantLong RX6 15 (205163983024656), Cond.methodLink RX6 34 yX6_alikePlaces, Cond.static yX6_alikePlaces, Cond.code yX6_alikePlaces cX6_alikePlaces 6 (some .int), Cond.methodLink RX6 9 yX4_at, Cond.static yX4_at, Cond.initialized RX4, Cond.code yX4_at cX4_at 3 (some .int), Cond.methodLink RX6 38 yJ6_bitCount_0f7a4, Cond.static yJ6_bitCount_0f7a4, Cond.initialized RJ6, Cond.code yJ6_bitCount_0f7a4 cJ6_bitCount_0f7a4 1 (some .int), Cond.constant RJ6 265 (1431655765), Cond.constant RJ6 266 (858993459), Cond.constant RJ6 267 (252645135)]
def wsX7_save : List Cond := .code yX7_save cX7_save 3 (some .int) :: ((wsX7_save_r1 ++ (wsX7_save_r2 ++ wsX7_save_r3)) ++ wsX70 ++ wsX10 ++ wsX00)
def wsX7_restore_r1 : List Cond := [Cond.fieldLink RX7 23 "TreadleKernels" "saved" "[LTreadleKernels$Loom;", Cond.fieldLink RX7 19 "TreadleKernels" "past" "LTreadleKernels$Past;", Cond.fieldLink RX7 10 "TreadleKernels" "loom" "LTreadleKernels$Loom;", Cond.fieldLink RX7 106 "TreadleKernels$Loom" "threads" "J", Cond.methodLink RX7 48 yX7_isBelow, Cond.static yX7_isBelow, Cond.initialized RX7, Cond.code yX7_isBelow cX7_isBelow 2 (some .boolean), Cond.methodLink RX7 52 yX3_keep, Cond.instanceMethod yX3_keep, Cond.selects RX3 yX3_keep yX3_keep, Cond.initialized RX3, Cond.code yX3_keep cX3_keep 3 none, Cond.fieldLink RX3 17 "TreadleKernels$Past" "length" "I", Cond.fieldLink RX3 11 "TreadleKernels$Past" "states" "[LTreadleKernels$Loom;", Cond.classLink RX3 9 RX1, Cond.instantiable RX1 7, Cond.initialized RX1, Cond.methodLink RX3 21 yX3_dropOldest, Cond.instanceMethod yX3_dropOldest, Cond.selects RX3 yX3_dropOldest yX3_dropOldest, Cond.code yX3_dropOldest cX3_dropOldest 3 none, Cond.methodLink RX3 28 yX1_init, Cond.instanceMethod yX1_init]
def wsX7_restore_r2 : List Cond := [Cond.code yX1_init cX1_init 2 none, Cond.methodLink RX1 3 objectInit, Cond.instanceMethod objectInit, Cond.code objectInit ⟨#[0xb1]⟩ 1 none, Cond.constantLong RX1 11 (92573999051280), Cond.fieldLink RX1 13 "TreadleKernels$Loom" "shafts" "J", Cond.constantLong RX1 19 (205163983024656), Cond.fieldLink RX1 21 "TreadleKernels$Loom" "threads" "J", Cond.fieldLink RX1 24 "TreadleKernels$Loom" "colours" "J", Cond.arrayClass .int, Cond.fieldLink RX1 27 "TreadleKernels$Loom" "ties" "[I", Cond.classLink RX1 31 RX0, Cond.fieldLink RX1 33 "TreadleKernels$Loom" "drafts" "[LTreadleKernels$Draft;", Cond.fieldLink RX1 37 "TreadleKernels$Loom" "pressed" "I", Cond.fieldLink RX1 41 "TreadleKernels$Loom" "picks" "I", Cond.instantiable RX0 2, Cond.initialized RX0, Cond.instanceMethod yX0_init, Cond.code yX0_init cX0_init 1 none, Cond.methodLink RX0 3 objectInit, Cond.fieldLink RX0 9 "TreadleKernels$Draft" "presses" "[I", Cond.fieldLink RX0 15 "TreadleKernels$Draft" "length" "I", Cond.methodLink RX3 29 yX1_copyFrom, Cond.instanceMethod yX1_copyFrom]
def wsX7_restore_r3 : List Cond := [Cond.selects RX1 yX1_copyFrom yX1_copyFrom, Cond.code yX1_copyFrom cX1_copyFrom 5 none, Cond.methodLink RX1 45 arraycopyName, Cond.native arraycopyName, Cond.static arraycopyName, Cond.initialized "java/lang/System", Cond.methodLink RX1 51 yX0_copyFrom, Cond.instanceMethod yX0_copyFrom, Cond.selects RX0 yX0_copyFrom yX0_copyFrom, Cond.code yX0_copyFrom cX0_copyFrom 2 none, Cond.methodLink RX0 31 arraycopyName, Cond.methodLink RX7 202 yX1_copyFrom, Cond.methodLink RX7 129 yX6_staying, Cond.static yX6_staying, Cond.initialized RX6, Cond.code yX6_staying cX6_staying 2 (some .int), Cond.constantLong RX6 15 (205163983024656), Cond.methodLink RX6 34 yX6_alikePlaces, Cond.static yX6_alikePlaces, Cond.code yX6_alikePlaces cX6_alikePlaces 6 (some .int), Cond.methodLink RX6 9 yX4_at, Cond.static yX4_at, Cond.initialized RX4, Cond.code yX4_at cX4_at 3 (some .int)]
def wsX7_restore_r4 : List Cond := [Cond.methodLink RX6 38 yJ6_bitCount_0f7a4, Cond.static yJ6_bitCount_0f7a4, Cond.initialized RJ6, Cond.code yJ6_bitCount_0f7a4 cJ6_bitCount_0f7a4 1 (some .int), Cond.constant RJ6 265 (1431655765), Cond.constant RJ6 266 (858993459), Cond.constant RJ6 267 (252645135)]
def wsX7_restore : List Cond := .code yX7_restore cX7_restore 3 (some .int) :: ((wsX7_restore_r1 ++ (wsX7_restore_r2 ++ (wsX7_restore_r3 ++ wsX7_restore_r4))) ++ wsX70 ++ wsX10 ++ wsX30 ++ wsX00)
def wsX8_init : List Cond := .code yX8_init cX8_init 2 none :: ([.methodLink RX8 1 objectInit, .instanceMethod objectInit, .code objectInit ⟨#[0xb1]⟩ 1 none, .arrayClass .int, .fieldLink RX8 7 "TreadleKernelsModel" "state" "[I", .fieldLink RX8 13 "TreadleKernelsModel" "history" "[I", .fieldLink RX8 16 "TreadleKernelsModel" "slots" "[I", .fieldLink RX8 19 "TreadleKernelsModel" "isSaved" "[I", .fieldLink RX8 22 "TreadleKernelsModel" "pad" "[I", .fieldLink RX8 25 "TreadleKernelsModel" "row" "[I", .fieldLink RX8 28 "TreadleKernelsModel" "comes" "[I", .fieldLink RX8 31 "TreadleKernelsModel" "now" "[I", .fieldLink RX8 34 "TreadleKernelsModel" "then" "[I", .fieldLink RX8 37 "TreadleKernelsModel" "found" "[I"] ++ wsX80)
def wsX8_within : List Cond := .code yX8_within cX8_within 3 (some .boolean) :: ([])
def wsX8_isPlace : List Cond := .code yX8_isPlace cX8_isPlace 1 (some .boolean) :: ([.methodLink RX8 40 yX8_within, .static yX8_within, .initialized RX8, .code yX8_within cX8_within 3 (some .boolean)])
def wsX8_isDraft : List Cond := .code yX8_isDraft cX8_isDraft 1 (some .boolean) :: ([.methodLink RX8 40 yX8_within, .static yX8_within, .initialized RX8, .code yX8_within cX8_within 3 (some .boolean)])
def wsX8_areDrafts : List Cond := .code yX8_areDrafts cX8_areDrafts 1 (some .boolean) :: ([.methodLink RX8 40 yX8_within, .static yX8_within, .initialized RX8, .code yX8_within cX8_within 3 (some .boolean)])
def wsX8_ones : List Cond := .code yX8_ones cX8_ones 3 (some .int) :: ([])
def wsX8_record : List Cond := .code yX8_record cX8_record 2 none :: ([.fieldLink RX8 44 "TreadleKernelsModel" "states" "I", .fieldLink RX8 13 "TreadleKernelsModel" "history" "[I", .fieldLink RX8 7 "TreadleKernelsModel" "state" "[I"] ++ wsX80)
def wsX8_undo : List Cond := .code yX8_undo cX8_undo 2 (some .int) :: ([.fieldLink RX8 44 "TreadleKernelsModel" "states" "I", .fieldLink RX8 7 "TreadleKernelsModel" "state" "[I", .fieldLink RX8 13 "TreadleKernelsModel" "history" "[I"] ++ wsX80)
def wsX8_atHome : List Cond := .code yX8_atHome cX8_atHome 3 (some .int) :: ([.fieldLink RX8 7 "TreadleKernelsModel" "state" "[I"] ++ wsX80)
def wsX8_save : List Cond := .code yX8_save cX8_save 3 (some .int) :: ([.fieldLink RX8 16 "TreadleKernelsModel" "slots" "[I", .fieldLink RX8 7 "TreadleKernelsModel" "state" "[I", .fieldLink RX8 19 "TreadleKernelsModel" "isSaved" "[I", .methodLink RX8 40 yX8_within, .static yX8_within, .initialized RX8, .code yX8_within cX8_within 3 (some .boolean), .methodLink RX8 48 yX8_atHome, .instanceMethod yX8_atHome, .selects RX8 yX8_atHome yX8_atHome, .code yX8_atHome cX8_atHome 3 (some .int)] ++ wsX80)
def wsX8_restore : List Cond := .code yX8_restore cX8_restore 3 (some .int) :: ([.fieldLink RX8 19 "TreadleKernelsModel" "isSaved" "[I", .fieldLink RX8 7 "TreadleKernelsModel" "state" "[I", .fieldLink RX8 16 "TreadleKernelsModel" "slots" "[I", .methodLink RX8 40 yX8_within, .static yX8_within, .initialized RX8, .code yX8_within cX8_within 3 (some .boolean), .methodLink RX8 52 yX8_record, .instanceMethod yX8_record, .selects RX8 yX8_record yX8_record, .code yX8_record cX8_record 2 none, .fieldLink RX8 44 "TreadleKernelsModel" "states" "I", .fieldLink RX8 13 "TreadleKernelsModel" "history" "[I", .methodLink RX8 48 yX8_atHome, .instanceMethod yX8_atHome, .selects RX8 yX8_atHome yX8_atHome, .code yX8_atHome cX8_atHome 3 (some .int)] ++ wsX80)
def wsX8_raised : List Cond := .code yX8_raised cX8_raised 4 (some .int) :: ([.fieldLink RX8 7 "TreadleKernelsModel" "state" "[I"] ++ wsX80)
def wsX8_pressed : List Cond := .code yX8_pressed cX8_pressed 6 (some .int) :: ([.methodLink RX8 55 yX8_raised, .instanceMethod yX8_raised, .selects RX8 yX8_raised yX8_raised, .initialized RX8, .code yX8_raised cX8_raised 4 (some .int), .fieldLink RX8 7 "TreadleKernelsModel" "state" "[I"] ++ wsX80)
def wsX8_lengthOf : List Cond := .code yX8_lengthOf cX8_lengthOf 2 (some .int) :: ([.fieldLink RX8 7 "TreadleKernelsModel" "state" "[I"] ++ wsX80)
def wsX8_pressOf : List Cond := .code yX8_pressOf cX8_pressOf 3 (some .int) :: ([.fieldLink RX8 7 "TreadleKernelsModel" "state" "[I"] ++ wsX80)
def wsX8_lay : List Cond := .code yX8_lay cX8_lay 5 none :: ([.fieldLink RX8 28 "TreadleKernelsModel" "comes" "[I", .methodLink RX8 59 yX8_lengthOf, .instanceMethod yX8_lengthOf, .selects RX8 yX8_lengthOf yX8_lengthOf, .initialized RX8, .code yX8_lengthOf cX8_lengthOf 2 (some .int), .fieldLink RX8 7 "TreadleKernelsModel" "state" "[I", .methodLink RX8 62 yX8_pressOf, .instanceMethod yX8_pressOf, .selects RX8 yX8_pressOf yX8_pressOf, .code yX8_pressOf cX8_pressOf 3 (some .int), .methodLink RX8 66 yX8_pressed, .instanceMethod yX8_pressed, .selects RX8 yX8_pressed yX8_pressed, .code yX8_pressed cX8_pressed 6 (some .int), .methodLink RX8 55 yX8_raised, .instanceMethod yX8_raised, .selects RX8 yX8_raised yX8_raised, .code yX8_raised cX8_raised 4 (some .int)] ++ wsX80)
def wsX8_comesBy : List Cond := .code yX8_comesBy cX8_comesBy 3 (some .int) :: ([.fieldLink RX8 28 "TreadleKernelsModel" "comes" "[I"] ++ wsX80)
def wsX8_layAll : List Cond := .code yX8_layAll cX8_layAll 2 none :: ([.methodLink RX8 69 yX8_lay, .instanceMethod yX8_lay, .selects RX8 yX8_lay yX8_lay, .initialized RX8, .code yX8_lay cX8_lay 5 none, .fieldLink RX8 28 "TreadleKernelsModel" "comes" "[I", .methodLink RX8 59 yX8_lengthOf, .instanceMethod yX8_lengthOf, .selects RX8 yX8_lengthOf yX8_lengthOf, .code yX8_lengthOf cX8_lengthOf 2 (some .int), .fieldLink RX8 7 "TreadleKernelsModel" "state" "[I", .methodLink RX8 62 yX8_pressOf, .instanceMethod yX8_pressOf, .selects RX8 yX8_pressOf yX8_pressOf, .code yX8_pressOf cX8_pressOf 3 (some .int), .methodLink RX8 66 yX8_pressed, .instanceMethod yX8_pressed, .selects RX8 yX8_pressed yX8_pressed, .code yX8_pressed cX8_pressed 6 (some .int), .methodLink RX8 55 yX8_raised, .instanceMethod yX8_raised, .selects RX8 yX8_raised yX8_raised, .code yX8_raised cX8_raised 4 (some .int)] ++ wsX80)
def wsX8_stays : List Cond := .code yX8_stays cX8_stays 4 (some .int) :: ([.methodLink RX8 73 yX8_comesBy, .instanceMethod yX8_comesBy, .selects RX8 yX8_comesBy yX8_comesBy, .initialized RX8, .code yX8_comesBy cX8_comesBy 3 (some .int), .fieldLink RX8 28 "TreadleKernelsModel" "comes" "[I"] ++ wsX80)
def wsX8_cycleOf : List Cond := .code yX8_cycleOf cX8_cycleOf 5 (some .int) :: ([.methodLink RX8 73 yX8_comesBy, .instanceMethod yX8_comesBy, .selects RX8 yX8_comesBy yX8_comesBy, .initialized RX8, .code yX8_comesBy cX8_comesBy 3 (some .int), .fieldLink RX8 28 "TreadleKernelsModel" "comes" "[I"] ++ wsX80)
def wsX8_orderOf : List Cond := .code yX8_orderOf cX8_orderOf 5 (some .int) :: ([.methodLink RX8 76 yX8_cycleOf, .instanceMethod yX8_cycleOf, .selects RX8 yX8_cycleOf yX8_cycleOf, .initialized RX8, .code yX8_cycleOf cX8_cycleOf 5 (some .int), .methodLink RX8 73 yX8_comesBy, .instanceMethod yX8_comesBy, .selects RX8 yX8_comesBy yX8_comesBy, .code yX8_comesBy cX8_comesBy 3 (some .int), .fieldLink RX8 28 "TreadleKernelsModel" "comes" "[I"] ++ wsX80)
def wsX8_cycles : List Cond := .code yX8_cycles cX8_cycles 6 (some .int) :: ([.methodLink RX8 76 yX8_cycleOf, .instanceMethod yX8_cycleOf, .selects RX8 yX8_cycleOf yX8_cycleOf, .initialized RX8, .code yX8_cycleOf cX8_cycleOf 5 (some .int), .methodLink RX8 73 yX8_comesBy, .instanceMethod yX8_comesBy, .selects RX8 yX8_comesBy yX8_comesBy, .code yX8_comesBy cX8_comesBy 3 (some .int), .fieldLink RX8 28 "TreadleKernelsModel" "comes" "[I"] ++ wsX80)
def wsX8_longest : List Cond := .code yX8_longest cX8_longest 4 (some .int) :: ([.methodLink RX8 76 yX8_cycleOf, .instanceMethod yX8_cycleOf, .selects RX8 yX8_cycleOf yX8_cycleOf, .initialized RX8, .code yX8_cycleOf cX8_cycleOf 5 (some .int), .methodLink RX8 73 yX8_comesBy, .instanceMethod yX8_comesBy, .selects RX8 yX8_comesBy yX8_comesBy, .code yX8_comesBy cX8_comesBy 3 (some .int), .fieldLink RX8 28 "TreadleKernelsModel" "comes" "[I"] ++ wsX80)
def wsX8_turnedPairs : List Cond := .code yX8_turnedPairs cX8_turnedPairs 5 (some .int) :: ([.methodLink RX8 73 yX8_comesBy, .instanceMethod yX8_comesBy, .selects RX8 yX8_comesBy yX8_comesBy, .initialized RX8, .code yX8_comesBy cX8_comesBy 3 (some .int), .fieldLink RX8 28 "TreadleKernelsModel" "comes" "[I"] ++ wsX80)
def wsX8_takeThreads : List Cond := .code yX8_takeThreads cX8_takeThreads 2 none :: ([.fieldLink RX8 31 "TreadleKernelsModel" "now" "[I", .fieldLink RX8 7 "TreadleKernelsModel" "state" "[I"] ++ wsX80)
def wsX8_weaveOnce : List Cond := .code yX8_weaveOnce cX8_weaveOnce 3 none :: ([.fieldLink RX8 34 "TreadleKernelsModel" "then" "[I", .fieldLink RX8 31 "TreadleKernelsModel" "now" "[I", .methodLink RX8 73 yX8_comesBy, .instanceMethod yX8_comesBy, .selects RX8 yX8_comesBy yX8_comesBy, .initialized RX8, .code yX8_comesBy cX8_comesBy 3 (some .int), .fieldLink RX8 28 "TreadleKernelsModel" "comes" "[I"] ++ wsX80)
def wsX8_isSameCloth : List Cond := .code yX8_isSameCloth cX8_isSameCloth 3 (some .boolean) :: ([.fieldLink RX8 7 "TreadleKernelsModel" "state" "[I", .fieldLink RX8 31 "TreadleKernelsModel" "now" "[I"] ++ wsX80)
def wsX8_repeats : List Cond := .code yX8_repeats cX8_repeats 4 (some .int) :: ([.methodLink RX8 79 yX8_takeThreads, .instanceMethod yX8_takeThreads, .selects RX8 yX8_takeThreads yX8_takeThreads, .initialized RX8, .code yX8_takeThreads cX8_takeThreads 2 none, .fieldLink RX8 31 "TreadleKernelsModel" "now" "[I", .fieldLink RX8 7 "TreadleKernelsModel" "state" "[I", .methodLink RX8 82 yX8_weaveOnce, .instanceMethod yX8_weaveOnce, .selects RX8 yX8_weaveOnce yX8_weaveOnce, .code yX8_weaveOnce cX8_weaveOnce 3 none, .fieldLink RX8 34 "TreadleKernelsModel" "then" "[I", .methodLink RX8 73 yX8_comesBy, .instanceMethod yX8_comesBy, .selects RX8 yX8_comesBy yX8_comesBy, .code yX8_comesBy cX8_comesBy 3 (some .int), .fieldLink RX8 28 "TreadleKernelsModel" "comes" "[I", .methodLink RX8 85 yX8_isSameCloth, .instanceMethod yX8_isSameCloth, .selects RX8 yX8_isSameCloth yX8_isSameCloth, .code yX8_isSameCloth cX8_isSameCloth 3 (some .boolean)] ++ wsX80)
def wsX8_homeNow : List Cond := .code yX8_homeNow cX8_homeNow 3 (some .int) :: ([.fieldLink RX8 31 "TreadleKernelsModel" "now" "[I"] ++ wsX80)
def wsX8_put : List Cond := .code yX8_put cX8_put 4 (some .int) :: ([.fieldLink RX8 7 "TreadleKernelsModel" "state" "[I", .methodLink RX8 89 yX8_isPlace, .static yX8_isPlace, .initialized RX8, .code yX8_isPlace cX8_isPlace 1 (some .boolean), .methodLink RX8 40 yX8_within, .static yX8_within, .code yX8_within cX8_within 3 (some .boolean), .methodLink RX8 52 yX8_record, .instanceMethod yX8_record, .selects RX8 yX8_record yX8_record, .code yX8_record cX8_record 2 none, .fieldLink RX8 44 "TreadleKernelsModel" "states" "I", .fieldLink RX8 13 "TreadleKernelsModel" "history" "[I"] ++ wsX80)
def wsX8_tie : List Cond := .code yX8_tie cX8_tie 3 (some .int) :: ([.fieldLink RX8 7 "TreadleKernelsModel" "state" "[I", .methodLink RX8 40 yX8_within, .static yX8_within, .initialized RX8, .code yX8_within cX8_within 3 (some .boolean), .methodLink RX8 52 yX8_record, .instanceMethod yX8_record, .selects RX8 yX8_record yX8_record, .code yX8_record cX8_record 2 none, .fieldLink RX8 44 "TreadleKernelsModel" "states" "I", .fieldLink RX8 13 "TreadleKernelsModel" "history" "[I", .methodLink RX8 55 yX8_raised, .instanceMethod yX8_raised, .selects RX8 yX8_raised yX8_raised, .code yX8_raised cX8_raised 4 (some .int), .methodLink RX8 93 yX8_ones, .static yX8_ones, .code yX8_ones cX8_ones 3 (some .int)] ++ wsX80)
def wsX8_make : List Cond := .code yX8_make cX8_make 3 (some .int) :: ([.fieldLink RX8 7 "TreadleKernelsModel" "state" "[I", .fieldLink RX8 96 "TreadleKernelsModel" "rowLength" "I", .fieldLink RX8 25 "TreadleKernelsModel" "row" "[I", .methodLink RX8 52 yX8_record, .instanceMethod yX8_record, .selects RX8 yX8_record yX8_record, .initialized RX8, .code yX8_record cX8_record 2 none, .fieldLink RX8 44 "TreadleKernelsModel" "states" "I", .fieldLink RX8 13 "TreadleKernelsModel" "history" "[I"] ++ wsX80)
def wsX8_addRow : List Cond := .code yX8_addRow cX8_addRow 3 none :: ([.fieldLink RX8 25 "TreadleKernelsModel" "row" "[I", .fieldLink RX8 96 "TreadleKernelsModel" "rowLength" "I", .methodLink RX8 59 yX8_lengthOf, .instanceMethod yX8_lengthOf, .selects RX8 yX8_lengthOf yX8_lengthOf, .initialized RX8, .code yX8_lengthOf cX8_lengthOf 2 (some .int), .fieldLink RX8 7 "TreadleKernelsModel" "state" "[I", .methodLink RX8 62 yX8_pressOf, .instanceMethod yX8_pressOf, .selects RX8 yX8_pressOf yX8_pressOf, .code yX8_pressOf cX8_pressOf 3 (some .int)] ++ wsX80)
def wsX8_next : List Cond := .code yX8_next cX8_next 1 (some .int) :: ([.fieldLink RX8 171 "TreadleKernelsModel" "at" "I", .fieldLink RX8 105 "TreadleKernelsModel" "length" "I", .fieldLink RX8 22 "TreadleKernelsModel" "pad" "[I"] ++ wsX80)
def wsX8_readsPress : List Cond := .code yX8_readsPress cX8_readsPress 6 (some .boolean) :: ([.fieldLink RX8 96 "TreadleKernelsModel" "rowLength" "I", .fieldLink RX8 171 "TreadleKernelsModel" "at" "I", .fieldLink RX8 25 "TreadleKernelsModel" "row" "[I", .methodLink RX8 174 yX8_next, .instanceMethod yX8_next, .selects RX8 yX8_next yX8_next, .initialized RX8, .code yX8_next cX8_next 1 (some .int), .fieldLink RX8 105 "TreadleKernelsModel" "length" "I", .fieldLink RX8 22 "TreadleKernelsModel" "pad" "[I", .methodLink RX8 40 yX8_within, .static yX8_within, .code yX8_within cX8_within 3 (some .boolean)] ++ wsX80)
def wsX8_findFault : List Cond := .code yX8_findFault cX8_findFault 2 (some .int) :: ([.fieldLink RX8 171 "TreadleKernelsModel" "at" "I", .fieldLink RX8 96 "TreadleKernelsModel" "rowLength" "I", .fieldLink RX8 105 "TreadleKernelsModel" "length" "I", .methodLink RX8 177 yX8_readsPress, .instanceMethod yX8_readsPress, .selects RX8 yX8_readsPress yX8_readsPress, .initialized RX8, .code yX8_readsPress cX8_readsPress 6 (some .boolean), .fieldLink RX8 25 "TreadleKernelsModel" "row" "[I", .methodLink RX8 174 yX8_next, .instanceMethod yX8_next, .selects RX8 yX8_next yX8_next, .code yX8_next cX8_next 1 (some .int), .fieldLink RX8 22 "TreadleKernelsModel" "pad" "[I", .methodLink RX8 40 yX8_within, .static yX8_within, .code yX8_within cX8_within 3 (some .boolean)] ++ wsX80)
def wsX8_read_r1 : List Cond := [Cond.fieldLink RX8 105 "TreadleKernelsModel" "length" "I", Cond.methodLink RX8 99 yX8_isDraft, Cond.static yX8_isDraft, Cond.initialized RX8, Cond.code yX8_isDraft cX8_isDraft 1 (some .boolean), Cond.methodLink RX8 40 yX8_within, Cond.static yX8_within, Cond.code yX8_within cX8_within 3 (some .boolean), Cond.methodLink RX8 102 yX8_findFault, Cond.instanceMethod yX8_findFault, Cond.selects RX8 yX8_findFault yX8_findFault, Cond.code yX8_findFault cX8_findFault 2 (some .int), Cond.fieldLink RX8 171 "TreadleKernelsModel" "at" "I", Cond.fieldLink RX8 96 "TreadleKernelsModel" "rowLength" "I", Cond.methodLink RX8 177 yX8_readsPress, Cond.instanceMethod yX8_readsPress, Cond.selects RX8 yX8_readsPress yX8_readsPress, Cond.code yX8_readsPress cX8_readsPress 6 (some .boolean), Cond.fieldLink RX8 25 "TreadleKernelsModel" "row" "[I", Cond.methodLink RX8 174 yX8_next, Cond.instanceMethod yX8_next, Cond.selects RX8 yX8_next yX8_next, Cond.code yX8_next cX8_next 1 (some .int), Cond.fieldLink RX8 22 "TreadleKernelsModel" "pad" "[I"]
def wsX8_read_r2 : List Cond := [Cond.methodLink RX8 108 yX8_make, Cond.instanceMethod yX8_make, Cond.selects RX8 yX8_make yX8_make, Cond.code yX8_make cX8_make 3 (some .int), Cond.fieldLink RX8 7 "TreadleKernelsModel" "state" "[I", Cond.methodLink RX8 52 yX8_record, Cond.instanceMethod yX8_record, Cond.selects RX8 yX8_record yX8_record, Cond.code yX8_record cX8_record 2 none, Cond.fieldLink RX8 44 "TreadleKernelsModel" "states" "I", Cond.fieldLink RX8 13 "TreadleKernelsModel" "history" "[I"]
def wsX8_read : List Cond := .code yX8_read cX8_read 2 (some .int) :: ((wsX8_read_r1 ++ wsX8_read_r2) ++ wsX80)
def wsX8_compose_r1 : List Cond := [Cond.fieldLink RX8 96 "TreadleKernelsModel" "rowLength" "I", Cond.methodLink RX8 99 yX8_isDraft, Cond.static yX8_isDraft, Cond.initialized RX8, Cond.code yX8_isDraft cX8_isDraft 1 (some .boolean), Cond.methodLink RX8 40 yX8_within, Cond.static yX8_within, Cond.code yX8_within cX8_within 3 (some .boolean), Cond.methodLink RX8 59 yX8_lengthOf, Cond.instanceMethod yX8_lengthOf, Cond.selects RX8 yX8_lengthOf yX8_lengthOf, Cond.code yX8_lengthOf cX8_lengthOf 2 (some .int), Cond.fieldLink RX8 7 "TreadleKernelsModel" "state" "[I", Cond.methodLink RX8 111 yX8_addRow, Cond.instanceMethod yX8_addRow, Cond.selects RX8 yX8_addRow yX8_addRow, Cond.code yX8_addRow cX8_addRow 3 none, Cond.fieldLink RX8 25 "TreadleKernelsModel" "row" "[I", Cond.methodLink RX8 62 yX8_pressOf, Cond.instanceMethod yX8_pressOf, Cond.selects RX8 yX8_pressOf yX8_pressOf, Cond.code yX8_pressOf cX8_pressOf 3 (some .int), Cond.methodLink RX8 108 yX8_make, Cond.instanceMethod yX8_make]
def wsX8_compose_r2 : List Cond := [Cond.selects RX8 yX8_make yX8_make, Cond.code yX8_make cX8_make 3 (some .int), Cond.methodLink RX8 52 yX8_record, Cond.instanceMethod yX8_record, Cond.selects RX8 yX8_record yX8_record, Cond.code yX8_record cX8_record 2 none, Cond.fieldLink RX8 44 "TreadleKernelsModel" "states" "I", Cond.fieldLink RX8 13 "TreadleKernelsModel" "history" "[I"]
def wsX8_compose : List Cond := .code yX8_compose cX8_compose 4 (some .int) :: ((wsX8_compose_r1 ++ wsX8_compose_r2) ++ wsX80)
def wsX8_turnRound_r1 : List Cond := [Cond.fieldLink RX8 96 "TreadleKernelsModel" "rowLength" "I", Cond.fieldLink RX8 25 "TreadleKernelsModel" "row" "[I", Cond.methodLink RX8 99 yX8_isDraft, Cond.static yX8_isDraft, Cond.initialized RX8, Cond.code yX8_isDraft cX8_isDraft 1 (some .boolean), Cond.methodLink RX8 40 yX8_within, Cond.static yX8_within, Cond.code yX8_within cX8_within 3 (some .boolean), Cond.methodLink RX8 59 yX8_lengthOf, Cond.instanceMethod yX8_lengthOf, Cond.selects RX8 yX8_lengthOf yX8_lengthOf, Cond.code yX8_lengthOf cX8_lengthOf 2 (some .int), Cond.fieldLink RX8 7 "TreadleKernelsModel" "state" "[I", Cond.methodLink RX8 62 yX8_pressOf, Cond.instanceMethod yX8_pressOf, Cond.selects RX8 yX8_pressOf yX8_pressOf, Cond.code yX8_pressOf cX8_pressOf 3 (some .int), Cond.methodLink RX8 108 yX8_make, Cond.instanceMethod yX8_make, Cond.selects RX8 yX8_make yX8_make, Cond.code yX8_make cX8_make 3 (some .int), Cond.methodLink RX8 52 yX8_record, Cond.instanceMethod yX8_record]
def wsX8_turnRound_r2 : List Cond := [Cond.selects RX8 yX8_record yX8_record, Cond.code yX8_record cX8_record 2 none, Cond.fieldLink RX8 44 "TreadleKernelsModel" "states" "I", Cond.fieldLink RX8 13 "TreadleKernelsModel" "history" "[I"]
def wsX8_turnRound : List Cond := .code yX8_turnRound cX8_turnRound 4 (some .int) :: ((wsX8_turnRound_r1 ++ wsX8_turnRound_r2) ++ wsX80)
def wsX8_repeat_r1 : List Cond := [Cond.fieldLink RX8 96 "TreadleKernelsModel" "rowLength" "I", Cond.methodLink RX8 99 yX8_isDraft, Cond.static yX8_isDraft, Cond.initialized RX8, Cond.code yX8_isDraft cX8_isDraft 1 (some .boolean), Cond.methodLink RX8 40 yX8_within, Cond.static yX8_within, Cond.code yX8_within cX8_within 3 (some .boolean), Cond.methodLink RX8 59 yX8_lengthOf, Cond.instanceMethod yX8_lengthOf, Cond.selects RX8 yX8_lengthOf yX8_lengthOf, Cond.code yX8_lengthOf cX8_lengthOf 2 (some .int), Cond.fieldLink RX8 7 "TreadleKernelsModel" "state" "[I", Cond.methodLink RX8 111 yX8_addRow, Cond.instanceMethod yX8_addRow, Cond.selects RX8 yX8_addRow yX8_addRow, Cond.code yX8_addRow cX8_addRow 3 none, Cond.fieldLink RX8 25 "TreadleKernelsModel" "row" "[I", Cond.methodLink RX8 62 yX8_pressOf, Cond.instanceMethod yX8_pressOf, Cond.selects RX8 yX8_pressOf yX8_pressOf, Cond.code yX8_pressOf cX8_pressOf 3 (some .int), Cond.methodLink RX8 108 yX8_make, Cond.instanceMethod yX8_make]
def wsX8_repeat_r2 : List Cond := [Cond.selects RX8 yX8_make yX8_make, Cond.code yX8_make cX8_make 3 (some .int), Cond.methodLink RX8 52 yX8_record, Cond.instanceMethod yX8_record, Cond.selects RX8 yX8_record yX8_record, Cond.code yX8_record cX8_record 2 none, Cond.fieldLink RX8 44 "TreadleKernelsModel" "states" "I", Cond.fieldLink RX8 13 "TreadleKernelsModel" "history" "[I"]
def wsX8_repeat : List Cond := .code yX8_repeat cX8_repeat 5 (some .int) :: ((wsX8_repeat_r1 ++ wsX8_repeat_r2) ++ wsX80)
def wsX8_weave_r1 : List Cond := [Cond.fieldLink RX8 7 "TreadleKernelsModel" "state" "[I", Cond.fieldLink RX8 31 "TreadleKernelsModel" "now" "[I", Cond.methodLink RX8 99 yX8_isDraft, Cond.static yX8_isDraft, Cond.initialized RX8, Cond.code yX8_isDraft cX8_isDraft 1 (some .boolean), Cond.methodLink RX8 40 yX8_within, Cond.static yX8_within, Cond.code yX8_within cX8_within 3 (some .boolean), Cond.methodLink RX8 52 yX8_record, Cond.instanceMethod yX8_record, Cond.selects RX8 yX8_record yX8_record, Cond.code yX8_record cX8_record 2 none, Cond.fieldLink RX8 44 "TreadleKernelsModel" "states" "I", Cond.fieldLink RX8 13 "TreadleKernelsModel" "history" "[I", Cond.methodLink RX8 69 yX8_lay, Cond.instanceMethod yX8_lay, Cond.selects RX8 yX8_lay yX8_lay, Cond.code yX8_lay cX8_lay 5 none, Cond.fieldLink RX8 28 "TreadleKernelsModel" "comes" "[I", Cond.methodLink RX8 59 yX8_lengthOf, Cond.instanceMethod yX8_lengthOf, Cond.selects RX8 yX8_lengthOf yX8_lengthOf, Cond.code yX8_lengthOf cX8_lengthOf 2 (some .int)]
def wsX8_weave_r2 : List Cond := [Cond.methodLink RX8 62 yX8_pressOf, Cond.instanceMethod yX8_pressOf, Cond.selects RX8 yX8_pressOf yX8_pressOf, Cond.code yX8_pressOf cX8_pressOf 3 (some .int), Cond.methodLink RX8 66 yX8_pressed, Cond.instanceMethod yX8_pressed, Cond.selects RX8 yX8_pressed yX8_pressed, Cond.code yX8_pressed cX8_pressed 6 (some .int), Cond.methodLink RX8 55 yX8_raised, Cond.instanceMethod yX8_raised, Cond.selects RX8 yX8_raised yX8_raised, Cond.code yX8_raised cX8_raised 4 (some .int), Cond.methodLink RX8 79 yX8_takeThreads, Cond.instanceMethod yX8_takeThreads, Cond.selects RX8 yX8_takeThreads yX8_takeThreads, Cond.code yX8_takeThreads cX8_takeThreads 2 none, Cond.methodLink RX8 82 yX8_weaveOnce, Cond.instanceMethod yX8_weaveOnce, Cond.selects RX8 yX8_weaveOnce yX8_weaveOnce, Cond.code yX8_weaveOnce cX8_weaveOnce 3 none, Cond.fieldLink RX8 34 "TreadleKernelsModel" "then" "[I", Cond.methodLink RX8 73 yX8_comesBy, Cond.instanceMethod yX8_comesBy, Cond.selects RX8 yX8_comesBy yX8_comesBy]
def wsX8_weave_r3 : List Cond := [Cond.code yX8_comesBy cX8_comesBy 3 (some .int), Cond.methodLink RX8 48 yX8_atHome, Cond.instanceMethod yX8_atHome, Cond.selects RX8 yX8_atHome yX8_atHome, Cond.code yX8_atHome cX8_atHome 3 (some .int)]
def wsX8_weave : List Cond := .code yX8_weave cX8_weave 4 (some .int) :: ((wsX8_weave_r1 ++ (wsX8_weave_r2 ++ wsX8_weave_r3)) ++ wsX80)
def wsX8_dye : List Cond := .code yX8_dye cX8_dye 4 (some .int) :: ([.fieldLink RX8 7 "TreadleKernelsModel" "state" "[I", .methodLink RX8 89 yX8_isPlace, .static yX8_isPlace, .initialized RX8, .code yX8_isPlace cX8_isPlace 1 (some .boolean), .methodLink RX8 40 yX8_within, .static yX8_within, .code yX8_within cX8_within 3 (some .boolean), .methodLink RX8 52 yX8_record, .instanceMethod yX8_record, .selects RX8 yX8_record yX8_record, .code yX8_record cX8_record 2 none, .fieldLink RX8 44 "TreadleKernelsModel" "states" "I", .fieldLink RX8 13 "TreadleKernelsModel" "history" "[I"] ++ wsX80)
def wsX8_raising : List Cond := .code yX8_raising cX8_raising 4 (some .int) :: ([.methodLink RX8 55 yX8_raised, .instanceMethod yX8_raised, .selects RX8 yX8_raised yX8_raised, .initialized RX8, .code yX8_raised cX8_raised 4 (some .int), .fieldLink RX8 7 "TreadleKernelsModel" "state" "[I"] ++ wsX80)
def wsX8_place : List Cond := .code yX8_place cX8_place 4 (some .int) :: ([.fieldLink RX8 7 "TreadleKernelsModel" "state" "[I", .methodLink RX8 89 yX8_isPlace, .static yX8_isPlace, .initialized RX8, .code yX8_isPlace cX8_isPlace 1 (some .boolean), .methodLink RX8 40 yX8_within, .static yX8_within, .code yX8_within cX8_within 3 (some .boolean), .methodLink RX8 114 yX8_raising, .instanceMethod yX8_raising, .selects RX8 yX8_raising yX8_raising, .code yX8_raising cX8_raising 4 (some .int), .methodLink RX8 55 yX8_raised, .instanceMethod yX8_raised, .selects RX8 yX8_raised yX8_raised, .code yX8_raised cX8_raised 4 (some .int)] ++ wsX80)
def wsX8_treadle : List Cond := .code yX8_treadle cX8_treadle 3 (some .int) :: ([.fieldLink RX8 7 "TreadleKernelsModel" "state" "[I", .methodLink RX8 40 yX8_within, .static yX8_within, .initialized RX8, .code yX8_within cX8_within 3 (some .boolean), .methodLink RX8 55 yX8_raised, .instanceMethod yX8_raised, .selects RX8 yX8_raised yX8_raised, .code yX8_raised cX8_raised 4 (some .int)] ++ wsX80)
def wsX8_draft_r1 : List Cond := [Cond.methodLink RX8 99 yX8_isDraft, Cond.static yX8_isDraft, Cond.initialized RX8, Cond.code yX8_isDraft cX8_isDraft 1 (some .boolean), Cond.methodLink RX8 40 yX8_within, Cond.static yX8_within, Cond.code yX8_within cX8_within 3 (some .boolean), Cond.methodLink RX8 69 yX8_lay, Cond.instanceMethod yX8_lay, Cond.selects RX8 yX8_lay yX8_lay, Cond.code yX8_lay cX8_lay 5 none, Cond.fieldLink RX8 28 "TreadleKernelsModel" "comes" "[I", Cond.methodLink RX8 59 yX8_lengthOf, Cond.instanceMethod yX8_lengthOf, Cond.selects RX8 yX8_lengthOf yX8_lengthOf, Cond.code yX8_lengthOf cX8_lengthOf 2 (some .int), Cond.fieldLink RX8 7 "TreadleKernelsModel" "state" "[I", Cond.methodLink RX8 62 yX8_pressOf, Cond.instanceMethod yX8_pressOf, Cond.selects RX8 yX8_pressOf yX8_pressOf, Cond.code yX8_pressOf cX8_pressOf 3 (some .int), Cond.methodLink RX8 66 yX8_pressed, Cond.instanceMethod yX8_pressed, Cond.selects RX8 yX8_pressed yX8_pressed]
def wsX8_draft_r2 : List Cond := [Cond.code yX8_pressed cX8_pressed 6 (some .int), Cond.methodLink RX8 55 yX8_raised, Cond.instanceMethod yX8_raised, Cond.selects RX8 yX8_raised yX8_raised, Cond.code yX8_raised cX8_raised 4 (some .int), Cond.methodLink RX8 117 yX8_orderOf, Cond.instanceMethod yX8_orderOf, Cond.selects RX8 yX8_orderOf yX8_orderOf, Cond.code yX8_orderOf cX8_orderOf 5 (some .int), Cond.methodLink RX8 76 yX8_cycleOf, Cond.instanceMethod yX8_cycleOf, Cond.selects RX8 yX8_cycleOf yX8_cycleOf, Cond.code yX8_cycleOf cX8_cycleOf 5 (some .int), Cond.methodLink RX8 73 yX8_comesBy, Cond.instanceMethod yX8_comesBy, Cond.selects RX8 yX8_comesBy yX8_comesBy, Cond.code yX8_comesBy cX8_comesBy 3 (some .int), Cond.methodLink RX8 120 yX8_stays, Cond.instanceMethod yX8_stays, Cond.selects RX8 yX8_stays yX8_stays, Cond.code yX8_stays cX8_stays 4 (some .int), Cond.methodLink RX8 123 yX8_cycles, Cond.instanceMethod yX8_cycles, Cond.selects RX8 yX8_cycles yX8_cycles]
def wsX8_draft_r3 : List Cond := [Cond.code yX8_cycles cX8_cycles 6 (some .int), Cond.methodLink RX8 126 yX8_longest, Cond.instanceMethod yX8_longest, Cond.selects RX8 yX8_longest yX8_longest, Cond.code yX8_longest cX8_longest 4 (some .int), Cond.methodLink RX8 129 yX8_turnedPairs, Cond.instanceMethod yX8_turnedPairs, Cond.selects RX8 yX8_turnedPairs yX8_turnedPairs, Cond.code yX8_turnedPairs cX8_turnedPairs 5 (some .int), Cond.methodLink RX8 132 yX8_repeats, Cond.instanceMethod yX8_repeats, Cond.selects RX8 yX8_repeats yX8_repeats, Cond.code yX8_repeats cX8_repeats 4 (some .int), Cond.methodLink RX8 79 yX8_takeThreads, Cond.instanceMethod yX8_takeThreads, Cond.selects RX8 yX8_takeThreads yX8_takeThreads, Cond.code yX8_takeThreads cX8_takeThreads 2 none, Cond.fieldLink RX8 31 "TreadleKernelsModel" "now" "[I", Cond.methodLink RX8 82 yX8_weaveOnce, Cond.instanceMethod yX8_weaveOnce, Cond.selects RX8 yX8_weaveOnce yX8_weaveOnce, Cond.code yX8_weaveOnce cX8_weaveOnce 3 none, Cond.fieldLink RX8 34 "TreadleKernelsModel" "then" "[I", Cond.methodLink RX8 85 yX8_isSameCloth]
def wsX8_draft_r4 : List Cond := [Cond.instanceMethod yX8_isSameCloth, Cond.selects RX8 yX8_isSameCloth yX8_isSameCloth, Cond.code yX8_isSameCloth cX8_isSameCloth 3 (some .boolean)]
def wsX8_draft : List Cond := .code yX8_draft cX8_draft 3 (some .int) :: ((wsX8_draft_r1 ++ (wsX8_draft_r2 ++ (wsX8_draft_r3 ++ wsX8_draft_r4))) ++ wsX80)
def wsX8_press : List Cond := .code yX8_press cX8_press 3 (some .int) :: ([.methodLink RX8 99 yX8_isDraft, .static yX8_isDraft, .initialized RX8, .code yX8_isDraft cX8_isDraft 1 (some .boolean), .methodLink RX8 40 yX8_within, .static yX8_within, .code yX8_within cX8_within 3 (some .boolean), .methodLink RX8 59 yX8_lengthOf, .instanceMethod yX8_lengthOf, .selects RX8 yX8_lengthOf yX8_lengthOf, .code yX8_lengthOf cX8_lengthOf 2 (some .int), .fieldLink RX8 7 "TreadleKernelsModel" "state" "[I", .methodLink RX8 62 yX8_pressOf, .instanceMethod yX8_pressOf, .selects RX8 yX8_pressOf yX8_pressOf, .code yX8_pressOf cX8_pressOf 3 (some .int)] ++ wsX80)
def wsX8_comesTo_r1 : List Cond := [Cond.constant RX8 135 (1000000), Cond.methodLink RX8 99 yX8_isDraft, Cond.static yX8_isDraft, Cond.initialized RX8, Cond.code yX8_isDraft cX8_isDraft 1 (some .boolean), Cond.methodLink RX8 40 yX8_within, Cond.static yX8_within, Cond.code yX8_within cX8_within 3 (some .boolean), Cond.methodLink RX8 89 yX8_isPlace, Cond.static yX8_isPlace, Cond.code yX8_isPlace cX8_isPlace 1 (some .boolean), Cond.methodLink RX8 69 yX8_lay, Cond.instanceMethod yX8_lay, Cond.selects RX8 yX8_lay yX8_lay, Cond.code yX8_lay cX8_lay 5 none, Cond.fieldLink RX8 28 "TreadleKernelsModel" "comes" "[I", Cond.methodLink RX8 59 yX8_lengthOf, Cond.instanceMethod yX8_lengthOf, Cond.selects RX8 yX8_lengthOf yX8_lengthOf, Cond.code yX8_lengthOf cX8_lengthOf 2 (some .int), Cond.fieldLink RX8 7 "TreadleKernelsModel" "state" "[I", Cond.methodLink RX8 62 yX8_pressOf, Cond.instanceMethod yX8_pressOf, Cond.selects RX8 yX8_pressOf yX8_pressOf]
def wsX8_comesTo_r2 : List Cond := [Cond.code yX8_pressOf cX8_pressOf 3 (some .int), Cond.methodLink RX8 66 yX8_pressed, Cond.instanceMethod yX8_pressed, Cond.selects RX8 yX8_pressed yX8_pressed, Cond.code yX8_pressed cX8_pressed 6 (some .int), Cond.methodLink RX8 55 yX8_raised, Cond.instanceMethod yX8_raised, Cond.selects RX8 yX8_raised yX8_raised, Cond.code yX8_raised cX8_raised 4 (some .int), Cond.methodLink RX8 76 yX8_cycleOf, Cond.instanceMethod yX8_cycleOf, Cond.selects RX8 yX8_cycleOf yX8_cycleOf, Cond.code yX8_cycleOf cX8_cycleOf 5 (some .int), Cond.methodLink RX8 73 yX8_comesBy, Cond.instanceMethod yX8_comesBy, Cond.selects RX8 yX8_comesBy yX8_comesBy, Cond.code yX8_comesBy cX8_comesBy 3 (some .int)]
def wsX8_comesTo : List Cond := .code yX8_comesTo cX8_comesTo 6 (some .int) :: ((wsX8_comesTo_r1 ++ wsX8_comesTo_r2) ++ wsX80)
def wsX8_neverRaised : List Cond := .code yX8_neverRaised cX8_neverRaised 3 (some .int) :: ([.methodLink RX8 114 yX8_raising, .instanceMethod yX8_raising, .selects RX8 yX8_raising yX8_raising, .initialized RX8, .code yX8_raising cX8_raising 4 (some .int), .methodLink RX8 55 yX8_raised, .instanceMethod yX8_raised, .selects RX8 yX8_raised yX8_raised, .code yX8_raised cX8_raised 4 (some .int), .fieldLink RX8 7 "TreadleKernelsModel" "state" "[I"] ++ wsX80)
def wsX8_pressedDrafts : List Cond := .code yX8_pressedDrafts cX8_pressedDrafts 3 (some .int) :: ([.methodLink RX8 59 yX8_lengthOf, .instanceMethod yX8_lengthOf, .selects RX8 yX8_lengthOf yX8_lengthOf, .initialized RX8, .code yX8_lengthOf cX8_lengthOf 2 (some .int), .fieldLink RX8 7 "TreadleKernelsModel" "state" "[I"] ++ wsX80)
def wsX8_count_r1 : List Cond := [Cond.fieldLink RX8 7 "TreadleKernelsModel" "state" "[I", Cond.fieldLink RX8 105 "TreadleKernelsModel" "length" "I", Cond.fieldLink RX8 44 "TreadleKernelsModel" "states" "I", Cond.methodLink RX8 48 yX8_atHome, Cond.instanceMethod yX8_atHome, Cond.selects RX8 yX8_atHome yX8_atHome, Cond.initialized RX8, Cond.code yX8_atHome cX8_atHome 3 (some .int), Cond.methodLink RX8 136 yX8_neverRaised, Cond.instanceMethod yX8_neverRaised, Cond.selects RX8 yX8_neverRaised yX8_neverRaised, Cond.code yX8_neverRaised cX8_neverRaised 3 (some .int), Cond.methodLink RX8 114 yX8_raising, Cond.instanceMethod yX8_raising, Cond.selects RX8 yX8_raising yX8_raising, Cond.code yX8_raising cX8_raising 4 (some .int), Cond.methodLink RX8 55 yX8_raised, Cond.instanceMethod yX8_raised, Cond.selects RX8 yX8_raised yX8_raised, Cond.code yX8_raised cX8_raised 4 (some .int), Cond.methodLink RX8 139 yX8_pressedDrafts, Cond.instanceMethod yX8_pressedDrafts, Cond.selects RX8 yX8_pressedDrafts yX8_pressedDrafts, Cond.code yX8_pressedDrafts cX8_pressedDrafts 3 (some .int)]
def wsX8_count_r2 : List Cond := [Cond.methodLink RX8 59 yX8_lengthOf, Cond.instanceMethod yX8_lengthOf, Cond.selects RX8 yX8_lengthOf yX8_lengthOf, Cond.code yX8_lengthOf cX8_lengthOf 2 (some .int)]
def wsX8_count : List Cond := .code yX8_count cX8_count 2 (some .int) :: ((wsX8_count_r1 ++ wsX8_count_r2) ++ wsX80)
def wsX8_kernel_r1 : List Cond := [Cond.methodLink RX8 142 yX8_areDrafts, Cond.static yX8_areDrafts, Cond.initialized RX8, Cond.code yX8_areDrafts cX8_areDrafts 1 (some .boolean), Cond.methodLink RX8 40 yX8_within, Cond.static yX8_within, Cond.code yX8_within cX8_within 3 (some .boolean), Cond.methodLink RX8 145 yX8_layAll, Cond.instanceMethod yX8_layAll, Cond.selects RX8 yX8_layAll yX8_layAll, Cond.code yX8_layAll cX8_layAll 2 none, Cond.methodLink RX8 69 yX8_lay, Cond.instanceMethod yX8_lay, Cond.selects RX8 yX8_lay yX8_lay, Cond.code yX8_lay cX8_lay 5 none, Cond.fieldLink RX8 28 "TreadleKernelsModel" "comes" "[I", Cond.methodLink RX8 59 yX8_lengthOf, Cond.instanceMethod yX8_lengthOf, Cond.selects RX8 yX8_lengthOf yX8_lengthOf, Cond.code yX8_lengthOf cX8_lengthOf 2 (some .int), Cond.fieldLink RX8 7 "TreadleKernelsModel" "state" "[I", Cond.methodLink RX8 62 yX8_pressOf, Cond.instanceMethod yX8_pressOf, Cond.selects RX8 yX8_pressOf yX8_pressOf]
def wsX8_kernel_r2 : List Cond := [Cond.code yX8_pressOf cX8_pressOf 3 (some .int), Cond.methodLink RX8 66 yX8_pressed, Cond.instanceMethod yX8_pressed, Cond.selects RX8 yX8_pressed yX8_pressed, Cond.code yX8_pressed cX8_pressed 6 (some .int), Cond.methodLink RX8 55 yX8_raised, Cond.instanceMethod yX8_raised, Cond.selects RX8 yX8_raised yX8_raised, Cond.code yX8_raised cX8_raised 4 (some .int), Cond.methodLink RX8 120 yX8_stays, Cond.instanceMethod yX8_stays, Cond.selects RX8 yX8_stays yX8_stays, Cond.code yX8_stays cX8_stays 4 (some .int), Cond.methodLink RX8 73 yX8_comesBy, Cond.instanceMethod yX8_comesBy, Cond.selects RX8 yX8_comesBy yX8_comesBy, Cond.code yX8_comesBy cX8_comesBy 3 (some .int)]
def wsX8_kernel : List Cond := .code yX8_kernel cX8_kernel 4 (some .int) :: ((wsX8_kernel_r1 ++ wsX8_kernel_r2) ++ wsX80)
def wsX8_orbit_r1 : List Cond := [Cond.fieldLink RX8 28 "TreadleKernelsModel" "comes" "[I", Cond.methodLink RX8 89 yX8_isPlace, Cond.static yX8_isPlace, Cond.initialized RX8, Cond.code yX8_isPlace cX8_isPlace 1 (some .boolean), Cond.methodLink RX8 40 yX8_within, Cond.static yX8_within, Cond.code yX8_within cX8_within 3 (some .boolean), Cond.methodLink RX8 142 yX8_areDrafts, Cond.static yX8_areDrafts, Cond.code yX8_areDrafts cX8_areDrafts 1 (some .boolean), Cond.methodLink RX8 145 yX8_layAll, Cond.instanceMethod yX8_layAll, Cond.selects RX8 yX8_layAll yX8_layAll, Cond.code yX8_layAll cX8_layAll 2 none, Cond.methodLink RX8 69 yX8_lay, Cond.instanceMethod yX8_lay, Cond.selects RX8 yX8_lay yX8_lay, Cond.code yX8_lay cX8_lay 5 none, Cond.methodLink RX8 59 yX8_lengthOf, Cond.instanceMethod yX8_lengthOf, Cond.selects RX8 yX8_lengthOf yX8_lengthOf, Cond.code yX8_lengthOf cX8_lengthOf 2 (some .int), Cond.fieldLink RX8 7 "TreadleKernelsModel" "state" "[I"]
def wsX8_orbit_r2 : List Cond := [Cond.methodLink RX8 62 yX8_pressOf, Cond.instanceMethod yX8_pressOf, Cond.selects RX8 yX8_pressOf yX8_pressOf, Cond.code yX8_pressOf cX8_pressOf 3 (some .int), Cond.methodLink RX8 66 yX8_pressed, Cond.instanceMethod yX8_pressed, Cond.selects RX8 yX8_pressed yX8_pressed, Cond.code yX8_pressed cX8_pressed 6 (some .int), Cond.methodLink RX8 55 yX8_raised, Cond.instanceMethod yX8_raised, Cond.selects RX8 yX8_raised yX8_raised, Cond.code yX8_raised cX8_raised 4 (some .int)]
def wsX8_orbit : List Cond := .code yX8_orbit cX8_orbit 7 (some .int) :: ((wsX8_orbit_r1 ++ wsX8_orbit_r2) ++ wsX80)
def wsX8_unlike : List Cond := .code yX8_unlike cX8_unlike 8 (some .int) :: ([.methodLink RX8 73 yX8_comesBy, .instanceMethod yX8_comesBy, .selects RX8 yX8_comesBy yX8_comesBy, .initialized RX8, .code yX8_comesBy cX8_comesBy 3 (some .int), .fieldLink RX8 28 "TreadleKernelsModel" "comes" "[I"] ++ wsX80)
def wsX8_pair_r1 : List Cond := [Cond.methodLink RX8 99 yX8_isDraft, Cond.static yX8_isDraft, Cond.initialized RX8, Cond.code yX8_isDraft cX8_isDraft 1 (some .boolean), Cond.methodLink RX8 40 yX8_within, Cond.static yX8_within, Cond.code yX8_within cX8_within 3 (some .boolean), Cond.methodLink RX8 69 yX8_lay, Cond.instanceMethod yX8_lay, Cond.selects RX8 yX8_lay yX8_lay, Cond.code yX8_lay cX8_lay 5 none, Cond.fieldLink RX8 28 "TreadleKernelsModel" "comes" "[I", Cond.methodLink RX8 59 yX8_lengthOf, Cond.instanceMethod yX8_lengthOf, Cond.selects RX8 yX8_lengthOf yX8_lengthOf, Cond.code yX8_lengthOf cX8_lengthOf 2 (some .int), Cond.fieldLink RX8 7 "TreadleKernelsModel" "state" "[I", Cond.methodLink RX8 62 yX8_pressOf, Cond.instanceMethod yX8_pressOf, Cond.selects RX8 yX8_pressOf yX8_pressOf, Cond.code yX8_pressOf cX8_pressOf 3 (some .int), Cond.methodLink RX8 66 yX8_pressed, Cond.instanceMethod yX8_pressed, Cond.selects RX8 yX8_pressed yX8_pressed]
def wsX8_pair_r2 : List Cond := [Cond.code yX8_pressed cX8_pressed 6 (some .int), Cond.methodLink RX8 55 yX8_raised, Cond.instanceMethod yX8_raised, Cond.selects RX8 yX8_raised yX8_raised, Cond.code yX8_raised cX8_raised 4 (some .int), Cond.methodLink RX8 148 yX8_unlike, Cond.instanceMethod yX8_unlike, Cond.selects RX8 yX8_unlike yX8_unlike, Cond.code yX8_unlike cX8_unlike 8 (some .int), Cond.methodLink RX8 73 yX8_comesBy, Cond.instanceMethod yX8_comesBy, Cond.selects RX8 yX8_comesBy yX8_comesBy, Cond.code yX8_comesBy cX8_comesBy 3 (some .int)]
def wsX8_pair : List Cond := .code yX8_pair cX8_pair 4 (some .int) :: ((wsX8_pair_r1 ++ wsX8_pair_r2) ++ wsX80)
def wsX8_addWay : List Cond := .code yX8_addWay cX8_addWay 5 none :: ([.fieldLink RX8 152 "TreadleKernelsModel" "foundMany" "I", .fieldLink RX8 37 "TreadleKernelsModel" "found" "[I", .fieldLink RX8 31 "TreadleKernelsModel" "now" "[I"] ++ wsX80)
def wsX8_ways_r1 : List Cond := [Cond.fieldLink RX8 152 "TreadleKernelsModel" "foundMany" "I", Cond.fieldLink RX8 31 "TreadleKernelsModel" "now" "[I", Cond.fieldLink RX8 37 "TreadleKernelsModel" "found" "[I", Cond.methodLink RX8 142 yX8_areDrafts, Cond.static yX8_areDrafts, Cond.initialized RX8, Cond.code yX8_areDrafts cX8_areDrafts 1 (some .boolean), Cond.methodLink RX8 40 yX8_within, Cond.static yX8_within, Cond.code yX8_within cX8_within 3 (some .boolean), Cond.methodLink RX8 145 yX8_layAll, Cond.instanceMethod yX8_layAll, Cond.selects RX8 yX8_layAll yX8_layAll, Cond.code yX8_layAll cX8_layAll 2 none, Cond.methodLink RX8 69 yX8_lay, Cond.instanceMethod yX8_lay, Cond.selects RX8 yX8_lay yX8_lay, Cond.code yX8_lay cX8_lay 5 none, Cond.fieldLink RX8 28 "TreadleKernelsModel" "comes" "[I", Cond.methodLink RX8 59 yX8_lengthOf, Cond.instanceMethod yX8_lengthOf, Cond.selects RX8 yX8_lengthOf yX8_lengthOf, Cond.code yX8_lengthOf cX8_lengthOf 2 (some .int), Cond.fieldLink RX8 7 "TreadleKernelsModel" "state" "[I"]
def wsX8_ways_r2 : List Cond := [Cond.methodLink RX8 62 yX8_pressOf, Cond.instanceMethod yX8_pressOf, Cond.selects RX8 yX8_pressOf yX8_pressOf, Cond.code yX8_pressOf cX8_pressOf 3 (some .int), Cond.methodLink RX8 66 yX8_pressed, Cond.instanceMethod yX8_pressed, Cond.selects RX8 yX8_pressed yX8_pressed, Cond.code yX8_pressed cX8_pressed 6 (some .int), Cond.methodLink RX8 55 yX8_raised, Cond.instanceMethod yX8_raised, Cond.selects RX8 yX8_raised yX8_raised, Cond.code yX8_raised cX8_raised 4 (some .int), Cond.methodLink RX8 155 yX8_addWay, Cond.instanceMethod yX8_addWay, Cond.selects RX8 yX8_addWay yX8_addWay, Cond.code yX8_addWay cX8_addWay 5 none, Cond.methodLink RX8 73 yX8_comesBy, Cond.instanceMethod yX8_comesBy, Cond.selects RX8 yX8_comesBy yX8_comesBy, Cond.code yX8_comesBy cX8_comesBy 3 (some .int)]
def wsX8_ways : List Cond := .code yX8_ways cX8_ways 5 (some .int) :: ((wsX8_ways_r1 ++ wsX8_ways_r2) ++ wsX80)
def wsX8_untilHome_r1 : List Cond := [Cond.methodLink RX8 99 yX8_isDraft, Cond.static yX8_isDraft, Cond.initialized RX8, Cond.code yX8_isDraft cX8_isDraft 1 (some .boolean), Cond.methodLink RX8 40 yX8_within, Cond.static yX8_within, Cond.code yX8_within cX8_within 3 (some .boolean), Cond.methodLink RX8 69 yX8_lay, Cond.instanceMethod yX8_lay, Cond.selects RX8 yX8_lay yX8_lay, Cond.code yX8_lay cX8_lay 5 none, Cond.fieldLink RX8 28 "TreadleKernelsModel" "comes" "[I", Cond.methodLink RX8 59 yX8_lengthOf, Cond.instanceMethod yX8_lengthOf, Cond.selects RX8 yX8_lengthOf yX8_lengthOf, Cond.code yX8_lengthOf cX8_lengthOf 2 (some .int), Cond.fieldLink RX8 7 "TreadleKernelsModel" "state" "[I", Cond.methodLink RX8 62 yX8_pressOf, Cond.instanceMethod yX8_pressOf, Cond.selects RX8 yX8_pressOf yX8_pressOf, Cond.code yX8_pressOf cX8_pressOf 3 (some .int), Cond.methodLink RX8 66 yX8_pressed, Cond.instanceMethod yX8_pressed, Cond.selects RX8 yX8_pressed yX8_pressed]
def wsX8_untilHome_r2 : List Cond := [Cond.code yX8_pressed cX8_pressed 6 (some .int), Cond.methodLink RX8 55 yX8_raised, Cond.instanceMethod yX8_raised, Cond.selects RX8 yX8_raised yX8_raised, Cond.code yX8_raised cX8_raised 4 (some .int), Cond.methodLink RX8 117 yX8_orderOf, Cond.instanceMethod yX8_orderOf, Cond.selects RX8 yX8_orderOf yX8_orderOf, Cond.code yX8_orderOf cX8_orderOf 5 (some .int), Cond.methodLink RX8 76 yX8_cycleOf, Cond.instanceMethod yX8_cycleOf, Cond.selects RX8 yX8_cycleOf yX8_cycleOf, Cond.code yX8_cycleOf cX8_cycleOf 5 (some .int), Cond.methodLink RX8 73 yX8_comesBy, Cond.instanceMethod yX8_comesBy, Cond.selects RX8 yX8_comesBy yX8_comesBy, Cond.code yX8_comesBy cX8_comesBy 3 (some .int), Cond.methodLink RX8 79 yX8_takeThreads, Cond.instanceMethod yX8_takeThreads, Cond.selects RX8 yX8_takeThreads yX8_takeThreads, Cond.code yX8_takeThreads cX8_takeThreads 2 none, Cond.fieldLink RX8 31 "TreadleKernelsModel" "now" "[I", Cond.methodLink RX8 158 yX8_homeNow, Cond.instanceMethod yX8_homeNow]
def wsX8_untilHome_r3 : List Cond := [Cond.selects RX8 yX8_homeNow yX8_homeNow, Cond.code yX8_homeNow cX8_homeNow 3 (some .int), Cond.methodLink RX8 82 yX8_weaveOnce, Cond.instanceMethod yX8_weaveOnce, Cond.selects RX8 yX8_weaveOnce yX8_weaveOnce, Cond.code yX8_weaveOnce cX8_weaveOnce 3 none, Cond.fieldLink RX8 34 "TreadleKernelsModel" "then" "[I"]
def wsX8_untilHome : List Cond := .code yX8_untilHome cX8_untilHome 4 (some .int) :: ((wsX8_untilHome_r1 ++ (wsX8_untilHome_r2 ++ wsX8_untilHome_r3)) ++ wsX80)
def wsX8_bestDraft_r1 : List Cond := [Cond.methodLink RX8 40 yX8_within, Cond.static yX8_within, Cond.initialized RX8, Cond.code yX8_within cX8_within 3 (some .boolean), Cond.methodLink RX8 69 yX8_lay, Cond.instanceMethod yX8_lay, Cond.selects RX8 yX8_lay yX8_lay, Cond.code yX8_lay cX8_lay 5 none, Cond.fieldLink RX8 28 "TreadleKernelsModel" "comes" "[I", Cond.methodLink RX8 59 yX8_lengthOf, Cond.instanceMethod yX8_lengthOf, Cond.selects RX8 yX8_lengthOf yX8_lengthOf, Cond.code yX8_lengthOf cX8_lengthOf 2 (some .int), Cond.fieldLink RX8 7 "TreadleKernelsModel" "state" "[I", Cond.methodLink RX8 62 yX8_pressOf, Cond.instanceMethod yX8_pressOf, Cond.selects RX8 yX8_pressOf yX8_pressOf, Cond.code yX8_pressOf cX8_pressOf 3 (some .int), Cond.methodLink RX8 66 yX8_pressed, Cond.instanceMethod yX8_pressed, Cond.selects RX8 yX8_pressed yX8_pressed, Cond.code yX8_pressed cX8_pressed 6 (some .int), Cond.methodLink RX8 55 yX8_raised, Cond.instanceMethod yX8_raised]
def wsX8_bestDraft_r2 : List Cond := [Cond.selects RX8 yX8_raised yX8_raised, Cond.code yX8_raised cX8_raised 4 (some .int), Cond.methodLink RX8 79 yX8_takeThreads, Cond.instanceMethod yX8_takeThreads, Cond.selects RX8 yX8_takeThreads yX8_takeThreads, Cond.code yX8_takeThreads cX8_takeThreads 2 none, Cond.fieldLink RX8 31 "TreadleKernelsModel" "now" "[I", Cond.methodLink RX8 82 yX8_weaveOnce, Cond.instanceMethod yX8_weaveOnce, Cond.selects RX8 yX8_weaveOnce yX8_weaveOnce, Cond.code yX8_weaveOnce cX8_weaveOnce 3 none, Cond.fieldLink RX8 34 "TreadleKernelsModel" "then" "[I", Cond.methodLink RX8 73 yX8_comesBy, Cond.instanceMethod yX8_comesBy, Cond.selects RX8 yX8_comesBy yX8_comesBy, Cond.code yX8_comesBy cX8_comesBy 3 (some .int), Cond.methodLink RX8 158 yX8_homeNow, Cond.instanceMethod yX8_homeNow, Cond.selects RX8 yX8_homeNow yX8_homeNow, Cond.code yX8_homeNow cX8_homeNow 3 (some .int)]
def wsX8_bestDraft : List Cond := .code yX8_bestDraft cX8_bestDraft 5 (some .int) :: ((wsX8_bestDraft_r1 ++ wsX8_bestDraft_r2) ++ wsX80)
def wsX8_codeAt : List Cond := .code yX8_codeAt cX8_codeAt 3 (some .int) :: ([.constantLong RX8 161 (255)])
def wsX8_charactersIn : List Cond := .code yX8_charactersIn cX8_charactersIn 5 (some .int) :: ([.methodLink RX8 163 yX8_codeAt, .static yX8_codeAt, .initialized RX8, .code yX8_codeAt cX8_codeAt 3 (some .int), .constantLong RX8 161 (255), .methodLink RX8 40 yX8_within, .static yX8_within, .code yX8_within cX8_within 3 (some .boolean)])
def wsX8_write : List Cond := .code yX8_write cX8_write 5 (some .int) :: ([.fieldLink RX8 105 "TreadleKernelsModel" "length" "I", .fieldLink RX8 22 "TreadleKernelsModel" "pad" "[I", .methodLink RX8 167 yX8_charactersIn, .static yX8_charactersIn, .initialized RX8, .code yX8_charactersIn cX8_charactersIn 5 (some .int), .methodLink RX8 163 yX8_codeAt, .static yX8_codeAt, .code yX8_codeAt cX8_codeAt 3 (some .int), .constantLong RX8 161 (255), .methodLink RX8 40 yX8_within, .static yX8_within, .code yX8_within cX8_within 3 (some .boolean)] ++ wsX80)
def wsX8_wipe : List Cond := .code yX8_wipe cX8_wipe 2 (some .int) :: ([.fieldLink RX8 105 "TreadleKernelsModel" "length" "I"] ++ wsX80)
def wsX8_fault : List Cond := .code yX8_fault cX8_fault 1 (some .int) :: ([.methodLink RX8 102 yX8_findFault, .instanceMethod yX8_findFault, .selects RX8 yX8_findFault yX8_findFault, .initialized RX8, .code yX8_findFault cX8_findFault 2 (some .int), .fieldLink RX8 171 "TreadleKernelsModel" "at" "I", .fieldLink RX8 96 "TreadleKernelsModel" "rowLength" "I", .fieldLink RX8 105 "TreadleKernelsModel" "length" "I", .methodLink RX8 177 yX8_readsPress, .instanceMethod yX8_readsPress, .selects RX8 yX8_readsPress yX8_readsPress, .code yX8_readsPress cX8_readsPress 6 (some .boolean), .fieldLink RX8 25 "TreadleKernelsModel" "row" "[I", .methodLink RX8 174 yX8_next, .instanceMethod yX8_next, .selects RX8 yX8_next yX8_next, .code yX8_next cX8_next 1 (some .int), .fieldLink RX8 22 "TreadleKernelsModel" "pad" "[I", .methodLink RX8 40 yX8_within, .static yX8_within, .code yX8_within cX8_within 3 (some .boolean)] ++ wsX80)
def wsL_law_r1 : List Cond := [Cond.classLink RL 7 RX7, Cond.instantiable RX7 6, Cond.initialized RX7, Cond.classLink RL 10 RX8, Cond.instantiable RX8 15, Cond.initialized RX8, Cond.constantLong RL 96 (4294967295), Cond.methodLink RL 9 yX7_init, Cond.instanceMethod yX7_init, Cond.code yX7_init cX7_init 1 none, Cond.methodLink RX7 1 objectInit, Cond.instanceMethod objectInit, Cond.code objectInit ⟨#[0xb1]⟩ 1 none, Cond.classLink RX7 7 RX1, Cond.instantiable RX1 7, Cond.initialized RX1, Cond.fieldLink RX7 10 "TreadleKernels" "loom" "LTreadleKernels$Loom;", Cond.classLink RX7 16 RX3, Cond.instantiable RX3 2, Cond.initialized RX3, Cond.fieldLink RX7 19 "TreadleKernels" "past" "LTreadleKernels$Past;", Cond.fieldLink RX7 23 "TreadleKernels" "saved" "[LTreadleKernels$Loom;", Cond.classLink RX7 27 RX2, Cond.instantiable RX2 2]
def wsL_law_r2 : List Cond := [Cond.initialized RX2, Cond.fieldLink RX7 30 "TreadleKernels" "pad" "LTreadleKernels$Pad;", Cond.classLink RX7 34 RX5, Cond.instantiable RX5 5, Cond.initialized RX5, Cond.fieldLink RX7 37 "TreadleKernels" "search" "LTreadleKernels$Search;", Cond.classLink RX7 41 RX0, Cond.instantiable RX0 2, Cond.initialized RX0, Cond.fieldLink RX7 44 "TreadleKernels" "fresh" "LTreadleKernels$Draft;", Cond.methodLink RX7 9 yX1_init, Cond.instanceMethod yX1_init, Cond.code yX1_init cX1_init 2 none, Cond.methodLink RX1 3 objectInit, Cond.constantLong RX1 11 (92573999051280), Cond.fieldLink RX1 13 "TreadleKernels$Loom" "shafts" "J", Cond.constantLong RX1 19 (205163983024656), Cond.fieldLink RX1 21 "TreadleKernels$Loom" "threads" "J", Cond.fieldLink RX1 24 "TreadleKernels$Loom" "colours" "J", Cond.arrayClass .int, Cond.fieldLink RX1 27 "TreadleKernels$Loom" "ties" "[I", Cond.classLink RX1 31 RX0, Cond.fieldLink RX1 33 "TreadleKernels$Loom" "drafts" "[LTreadleKernels$Draft;", Cond.fieldLink RX1 37 "TreadleKernels$Loom" "pressed" "I"]
def wsL_law_r3 : List Cond := [Cond.fieldLink RX1 41 "TreadleKernels$Loom" "picks" "I", Cond.instanceMethod yX0_init, Cond.code yX0_init cX0_init 1 none, Cond.methodLink RX0 3 objectInit, Cond.fieldLink RX0 9 "TreadleKernels$Draft" "presses" "[I", Cond.fieldLink RX0 15 "TreadleKernels$Draft" "length" "I", Cond.instanceMethod yX3_init, Cond.code yX3_init cX3_init 1 none, Cond.methodLink RX3 3 objectInit, Cond.classLink RX3 9 RX1, Cond.fieldLink RX3 11 "TreadleKernels$Past" "states" "[LTreadleKernels$Loom;", Cond.fieldLink RX3 17 "TreadleKernels$Past" "length" "I", Cond.instanceMethod yX2_init, Cond.code yX2_init cX2_init 1 none, Cond.methodLink RX2 3 objectInit, Cond.arrayClass .char, Cond.fieldLink RX2 9 "TreadleKernels$Pad" "signs" "[C", Cond.fieldLink RX2 15 "TreadleKernels$Pad" "length" "I", Cond.instanceMethod yX5_init, Cond.code yX5_init cX5_init 1 none, Cond.methodLink RX5 3 objectInit, Cond.arrayClass .long, Cond.fieldLink RX5 9 "TreadleKernels$Search" "makerWays" "[J", Cond.fieldLink RX5 15 "TreadleKernels$Search" "makers" "I"]
def wsL_law_r4 : List Cond := [Cond.fieldLink RX5 19 "TreadleKernels$Search" "found" "[J", Cond.fieldLink RX5 22 "TreadleKernels$Search" "length" "I", Cond.fieldLink RX5 25 "TreadleKernels$Search" "spots" "[J", Cond.methodLink RL 12 yX8_init, Cond.instanceMethod yX8_init, Cond.code yX8_init cX8_init 2 none, Cond.methodLink RX8 1 objectInit, Cond.fieldLink RX8 7 "TreadleKernelsModel" "state" "[I", Cond.fieldLink RX8 13 "TreadleKernelsModel" "history" "[I", Cond.fieldLink RX8 16 "TreadleKernelsModel" "slots" "[I", Cond.fieldLink RX8 19 "TreadleKernelsModel" "isSaved" "[I", Cond.fieldLink RX8 22 "TreadleKernelsModel" "pad" "[I", Cond.fieldLink RX8 25 "TreadleKernelsModel" "row" "[I", Cond.fieldLink RX8 28 "TreadleKernelsModel" "comes" "[I", Cond.fieldLink RX8 31 "TreadleKernelsModel" "now" "[I", Cond.fieldLink RX8 34 "TreadleKernelsModel" "then" "[I", Cond.fieldLink RX8 37 "TreadleKernelsModel" "found" "[I", Cond.methodLink RL 13 yX7_put, Cond.instanceMethod yX7_put, Cond.selects RX7 yX7_put yX7_put, Cond.code yX7_put cX7_put 4 (some .int), Cond.fieldLink RX7 56 "TreadleKernels$Loom" "shafts" "J", Cond.methodLink RX7 48 yX7_isBelow, Cond.static yX7_isBelow]
def wsL_law_r5 : List Cond := [Cond.code yX7_isBelow cX7_isBelow 2 (some .boolean), Cond.methodLink RX7 52 yX3_keep, Cond.instanceMethod yX3_keep, Cond.selects RX3 yX3_keep yX3_keep, Cond.code yX3_keep cX3_keep 3 none, Cond.methodLink RX3 21 yX3_dropOldest, Cond.instanceMethod yX3_dropOldest, Cond.selects RX3 yX3_dropOldest yX3_dropOldest, Cond.code yX3_dropOldest cX3_dropOldest 3 none, Cond.methodLink RX3 28 yX1_init, Cond.methodLink RX3 29 yX1_copyFrom, Cond.instanceMethod yX1_copyFrom, Cond.selects RX1 yX1_copyFrom yX1_copyFrom, Cond.code yX1_copyFrom cX1_copyFrom 5 none, Cond.methodLink RX1 45 arraycopyName, Cond.native arraycopyName, Cond.static arraycopyName, Cond.initialized "java/lang/System", Cond.methodLink RX1 51 yX0_copyFrom, Cond.instanceMethod yX0_copyFrom, Cond.selects RX0 yX0_copyFrom yX0_copyFrom, Cond.code yX0_copyFrom cX0_copyFrom 2 none, Cond.methodLink RX0 31 arraycopyName, Cond.methodLink RX7 60 yX4_at]
def wsL_law_r6 : List Cond := [Cond.static yX4_at, Cond.initialized RX4, Cond.code yX4_at cX4_at 3 (some .int), Cond.methodLink RX7 66 yX4_with, Cond.static yX4_with, Cond.code yX4_with cX4_with 4 (some .long), Cond.constantLong RX4 9 (15), Cond.constantLong RX4 11 (-1), Cond.methodLink RL 17 yX8_put, Cond.instanceMethod yX8_put, Cond.selects RX8 yX8_put yX8_put, Cond.code yX8_put cX8_put 4 (some .int), Cond.methodLink RX8 89 yX8_isPlace, Cond.static yX8_isPlace, Cond.code yX8_isPlace cX8_isPlace 1 (some .boolean), Cond.methodLink RX8 40 yX8_within, Cond.static yX8_within, Cond.code yX8_within cX8_within 3 (some .boolean), Cond.methodLink RX8 52 yX8_record, Cond.instanceMethod yX8_record, Cond.selects RX8 yX8_record yX8_record, Cond.code yX8_record cX8_record 2 none, Cond.fieldLink RX8 44 "TreadleKernelsModel" "states" "I", Cond.methodLink RL 18 yX7_tie]
def wsL_law_r7 : List Cond := [Cond.instanceMethod yX7_tie, Cond.selects RX7 yX7_tie yX7_tie, Cond.code yX7_tie cX7_tie 3 (some .int), Cond.fieldLink RX7 70 "TreadleKernels$Loom" "ties" "[I", Cond.methodLink RX7 74 yX1_raisedBy, Cond.instanceMethod yX1_raisedBy, Cond.selects RX1 yX1_raisedBy yX1_raisedBy, Cond.code yX1_raisedBy cX1_raisedBy 4 (some .int), Cond.methodLink RX1 59 yX4_at, Cond.static yX7_hasBit, Cond.code yX7_hasBit cX7_hasBit 2 (some .boolean), Cond.methodLink RX7 78 yJ6_bitCount_0f7a4, Cond.static yJ6_bitCount_0f7a4, Cond.initialized RJ6, Cond.code yJ6_bitCount_0f7a4 cJ6_bitCount_0f7a4 1 (some .int), Cond.constant RJ6 265 (1431655765), Cond.constant RJ6 266 (858993459), Cond.constant RJ6 267 (252645135), Cond.methodLink RL 21 yX8_tie, Cond.instanceMethod yX8_tie, Cond.selects RX8 yX8_tie yX8_tie, Cond.code yX8_tie cX8_tie 3 (some .int), Cond.methodLink RX8 55 yX8_raised, Cond.instanceMethod yX8_raised]
def wsL_law_r8 : List Cond := [Cond.selects RX8 yX8_raised yX8_raised, Cond.code yX8_raised cX8_raised 4 (some .int), Cond.methodLink RX8 93 yX8_ones, Cond.static yX8_ones, Cond.code yX8_ones cX8_ones 3 (some .int), Cond.methodLink RL 22 yX7_read, Cond.instanceMethod yX7_read, Cond.selects RX7 yX7_read yX7_read, Cond.code yX7_read cX7_read 3 (some .int), Cond.fieldLink RX7 95 "TreadleKernels$Pad" "length" "I", Cond.fieldLink RX7 99 "TreadleKernels$Draft" "length" "I", Cond.methodLink RX7 83 yX1_draftAt, Cond.instanceMethod yX1_draftAt, Cond.selects RX1 yX1_draftAt yX1_draftAt, Cond.code yX1_draftAt cX1_draftAt 2 (some (.object "TreadleKernels$Draft")), Cond.methodLink RX7 87 yX2_layOut, Cond.instanceMethod yX2_layOut, Cond.selects RX2 yX2_layOut yX2_layOut, Cond.code yX2_layOut cX2_layOut 9 (some .int), Cond.fieldLink RX2 29 "TreadleKernels$Draft" "length" "I", Cond.methodLink RX2 32 yX2_pressOf, Cond.static yX2_pressOf, Cond.code yX2_pressOf cX2_pressOf 1 (some .int), Cond.methodLink RX2 36 yX2_timesOf]
def wsL_law_r9 : List Cond := [Cond.static yX2_timesOf, Cond.code yX2_timesOf cX2_timesOf 1 (some .int), Cond.methodLink RX2 39 yX0_add, Cond.instanceMethod yX0_add, Cond.selects RX0 yX0_add yX0_add, Cond.code yX0_add cX0_add 2 none, Cond.methodLink RX7 91 yX0_copyFrom, Cond.methodLink RL 26 yX8_read, Cond.instanceMethod yX8_read, Cond.selects RX8 yX8_read yX8_read, Cond.code yX8_read cX8_read 2 (some .int), Cond.fieldLink RX8 105 "TreadleKernelsModel" "length" "I", Cond.methodLink RX8 99 yX8_isDraft, Cond.static yX8_isDraft, Cond.code yX8_isDraft cX8_isDraft 1 (some .boolean), Cond.methodLink RX8 102 yX8_findFault, Cond.instanceMethod yX8_findFault, Cond.selects RX8 yX8_findFault yX8_findFault, Cond.code yX8_findFault cX8_findFault 2 (some .int), Cond.fieldLink RX8 171 "TreadleKernelsModel" "at" "I", Cond.fieldLink RX8 96 "TreadleKernelsModel" "rowLength" "I", Cond.methodLink RX8 177 yX8_readsPress, Cond.instanceMethod yX8_readsPress, Cond.selects RX8 yX8_readsPress yX8_readsPress]
def wsL_law_r10 : List Cond := [Cond.code yX8_readsPress cX8_readsPress 6 (some .boolean), Cond.methodLink RX8 174 yX8_next, Cond.instanceMethod yX8_next, Cond.selects RX8 yX8_next yX8_next, Cond.code yX8_next cX8_next 1 (some .int), Cond.methodLink RX8 108 yX8_make, Cond.instanceMethod yX8_make, Cond.selects RX8 yX8_make yX8_make, Cond.code yX8_make cX8_make 3 (some .int), Cond.methodLink RL 27 yX7_compose, Cond.instanceMethod yX7_compose, Cond.selects RX7 yX7_compose yX7_compose, Cond.code yX7_compose cX7_compose 7 (some .int), Cond.methodLink RX7 100 yX0_append, Cond.instanceMethod yX0_append, Cond.selects RX0 yX0_append yX0_append, Cond.code yX0_append cX0_append 3 none, Cond.methodLink RX0 23 yX0_pressAt, Cond.instanceMethod yX0_pressAt, Cond.selects RX0 yX0_pressAt yX0_pressAt, Cond.code yX0_pressAt cX0_pressAt 2 (some .int), Cond.methodLink RX0 27 yX0_add, Cond.methodLink RL 31 yX8_compose, Cond.instanceMethod yX8_compose]
def wsL_law_r11 : List Cond := [Cond.selects RX8 yX8_compose yX8_compose, Cond.code yX8_compose cX8_compose 4 (some .int), Cond.methodLink RX8 59 yX8_lengthOf, Cond.instanceMethod yX8_lengthOf, Cond.selects RX8 yX8_lengthOf yX8_lengthOf, Cond.code yX8_lengthOf cX8_lengthOf 2 (some .int), Cond.methodLink RX8 111 yX8_addRow, Cond.instanceMethod yX8_addRow, Cond.selects RX8 yX8_addRow yX8_addRow, Cond.code yX8_addRow cX8_addRow 3 none, Cond.methodLink RX8 62 yX8_pressOf, Cond.instanceMethod yX8_pressOf, Cond.selects RX8 yX8_pressOf yX8_pressOf, Cond.code yX8_pressOf cX8_pressOf 3 (some .int), Cond.methodLink RL 32 yX7_turnRound, Cond.instanceMethod yX7_turnRound, Cond.selects RX7 yX7_turnRound yX7_turnRound, Cond.code yX7_turnRound cX7_turnRound 5 (some .int), Cond.methodLink RX7 103 yX0_appendTurned, Cond.instanceMethod yX0_appendTurned, Cond.selects RX0 yX0_appendTurned yX0_appendTurned, Cond.code yX0_appendTurned cX0_appendTurned 3 none, Cond.methodLink RL 35 yX8_turnRound, Cond.instanceMethod yX8_turnRound]
def wsL_law_r12 : List Cond := [Cond.selects RX8 yX8_turnRound yX8_turnRound, Cond.code yX8_turnRound cX8_turnRound 4 (some .int), Cond.methodLink RL 36 yX7_repeat, Cond.instanceMethod yX7_repeat, Cond.selects RX7 yX7_repeat yX7_repeat, Cond.code yX7_repeat cX7_repeat 7 (some .int), Cond.methodLink RL 39 yX8_repeat, Cond.instanceMethod yX8_repeat, Cond.selects RX8 yX8_repeat yX8_repeat, Cond.code yX8_repeat cX8_repeat 5 (some .int), Cond.methodLink RL 40 yX7_weave, Cond.instanceMethod yX7_weave, Cond.selects RX7 yX7_weave yX7_weave, Cond.code yX7_weave cX7_weave 4 (some .int), Cond.fieldLink RX7 106 "TreadleKernels$Loom" "threads" "J", Cond.fieldLink RX7 123 "TreadleKernels$Loom" "pressed" "I", Cond.fieldLink RX7 126 "TreadleKernels$Loom" "picks" "I", Cond.methodLink RX7 109 yX1_wayOf, Cond.instanceMethod yX1_wayOf, Cond.selects RX1 yX1_wayOf yX1_wayOf, Cond.code yX1_wayOf cX1_wayOf 6 (some .long), Cond.fieldLink RX1 70 "TreadleKernels$Draft" "length" "I", Cond.methodLink RX1 79 yX1_draftAt, Cond.methodLink RX1 83 yX0_pressAt]
def wsL_law_r13 : List Cond := [Cond.methodLink RX1 86 yX1_wayOfPress, Cond.instanceMethod yX1_wayOfPress, Cond.selects RX1 yX1_wayOfPress yX1_wayOfPress, Cond.code yX1_wayOfPress cX1_wayOfPress 4 (some .long), Cond.methodLink RX1 66 yX1_raisedBy, Cond.methodLink RX1 90 yX6_round, Cond.static yX6_round, Cond.initialized RX6, Cond.code yX6_round cX6_round 6 (some .long), Cond.constantLong RX6 15 (205163983024656), Cond.methodLink RX6 21 yX4_with, Cond.methodLink RX1 93 yX6_back, Cond.static yX6_back, Cond.code yX6_back cX6_back 2 (some .long), Cond.methodLink RX6 25 yX4_moved, Cond.static yX4_moved, Cond.code yX4_moved cX4_moved 7 (some .long), Cond.methodLink RX4 13 yX4_at, Cond.methodLink RX1 73 yX6_then, Cond.static yX6_then, Cond.code yX6_then cX6_then 7 (some .long), Cond.methodLink RX6 9 yX4_at, Cond.methodLink RX7 113 yX6_power, Cond.static yX6_power]
def wsL_law_r14 : List Cond := [Cond.code yX6_power cX6_power 8 (some .long), Cond.methodLink RX6 29 yX6_then, Cond.methodLink RX7 119 yX4_moved, Cond.methodLink RX7 129 yX6_staying, Cond.static yX6_staying, Cond.code yX6_staying cX6_staying 2 (some .int), Cond.methodLink RX6 34 yX6_alikePlaces, Cond.static yX6_alikePlaces, Cond.code yX6_alikePlaces cX6_alikePlaces 6 (some .int), Cond.methodLink RX6 38 yJ6_bitCount_0f7a4, Cond.methodLink RL 43 yX8_weave, Cond.instanceMethod yX8_weave, Cond.selects RX8 yX8_weave yX8_weave, Cond.code yX8_weave cX8_weave 4 (some .int), Cond.methodLink RX8 69 yX8_lay, Cond.instanceMethod yX8_lay, Cond.selects RX8 yX8_lay yX8_lay, Cond.code yX8_lay cX8_lay 5 none, Cond.methodLink RX8 66 yX8_pressed, Cond.instanceMethod yX8_pressed, Cond.selects RX8 yX8_pressed yX8_pressed, Cond.code yX8_pressed cX8_pressed 6 (some .int), Cond.methodLink RX8 79 yX8_takeThreads, Cond.instanceMethod yX8_takeThreads]
def wsL_law_r15 : List Cond := [Cond.selects RX8 yX8_takeThreads yX8_takeThreads, Cond.code yX8_takeThreads cX8_takeThreads 2 none, Cond.methodLink RX8 82 yX8_weaveOnce, Cond.instanceMethod yX8_weaveOnce, Cond.selects RX8 yX8_weaveOnce yX8_weaveOnce, Cond.code yX8_weaveOnce cX8_weaveOnce 3 none, Cond.methodLink RX8 73 yX8_comesBy, Cond.instanceMethod yX8_comesBy, Cond.selects RX8 yX8_comesBy yX8_comesBy, Cond.code yX8_comesBy cX8_comesBy 3 (some .int), Cond.methodLink RX8 48 yX8_atHome, Cond.instanceMethod yX8_atHome, Cond.selects RX8 yX8_atHome yX8_atHome, Cond.code yX8_atHome cX8_atHome 3 (some .int), Cond.methodLink RL 44 yX7_dye, Cond.instanceMethod yX7_dye, Cond.selects RX7 yX7_dye yX7_dye, Cond.code yX7_dye cX7_dye 4 (some .int), Cond.fieldLink RX7 133 "TreadleKernels$Loom" "colours" "J", Cond.methodLink RL 47 yX8_dye, Cond.instanceMethod yX8_dye, Cond.selects RX8 yX8_dye yX8_dye, Cond.code yX8_dye cX8_dye 4 (some .int), Cond.methodLink RL 48 yX7_place]
def wsL_law_r16 : List Cond := [Cond.instanceMethod yX7_place, Cond.selects RX7 yX7_place yX7_place, Cond.code yX7_place cX7_place 3 (some .int), Cond.methodLink RX7 136 yX1_coloursByPlace, Cond.instanceMethod yX1_coloursByPlace, Cond.selects RX1 yX1_coloursByPlace yX1_coloursByPlace, Cond.code yX1_coloursByPlace cX1_coloursByPlace 1 (some .long), Cond.methodLink RX7 140 yX1_treadlesRaising, Cond.instanceMethod yX1_treadlesRaising, Cond.selects RX1 yX1_treadlesRaising yX1_treadlesRaising, Cond.code yX1_treadlesRaising cX1_treadlesRaising 4 (some .int), Cond.methodLink RL 51 yX8_place, Cond.instanceMethod yX8_place, Cond.selects RX8 yX8_place yX8_place, Cond.code yX8_place cX8_place 4 (some .int), Cond.methodLink RX8 114 yX8_raising, Cond.instanceMethod yX8_raising, Cond.selects RX8 yX8_raising yX8_raising, Cond.code yX8_raising cX8_raising 4 (some .int), Cond.methodLink RL 52 yX7_treadle, Cond.instanceMethod yX7_treadle, Cond.selects RX7 yX7_treadle yX7_treadle, Cond.code yX7_treadle cX7_treadle 3 (some .int), Cond.methodLink RL 55 yX8_treadle]
def wsL_law_r17 : List Cond := [Cond.instanceMethod yX8_treadle, Cond.selects RX8 yX8_treadle yX8_treadle, Cond.code yX8_treadle cX8_treadle 3 (some .int), Cond.methodLink RL 56 yX7_draft, Cond.instanceMethod yX7_draft, Cond.selects RX7 yX7_draft yX7_draft, Cond.code yX7_draft cX7_draft 6 (some .int), Cond.constantLong RX7 143 (205163983024656), Cond.methodLink RX7 145 yX6_timesUntilAgain, Cond.static yX6_timesUntilAgain, Cond.code yX6_timesUntilAgain cX6_timesUntilAgain 7 (some .int), Cond.methodLink RX7 149 yX6_alikePlaces, Cond.methodLink RX7 152 yX6_cycles, Cond.static yX6_cycles, Cond.code yX6_cycles cX6_cycles 6 (some .int), Cond.methodLink RX6 44 yX6_cycleOf, Cond.static yX6_cycleOf, Cond.code yX6_cycleOf cX6_cycleOf 6 (some .int), Cond.methodLink RX7 155 yX6_longestCycle, Cond.static yX6_longestCycle, Cond.code yX6_longestCycle cX6_longestCycle 5 (some .int), Cond.methodLink RX7 158 yX6_crossings, Cond.static yX6_crossings, Cond.code yX6_crossings cX6_crossings 5 (some .int)]
def wsL_law_r18 : List Cond := [Cond.methodLink RL 59 yX8_draft, Cond.instanceMethod yX8_draft, Cond.selects RX8 yX8_draft yX8_draft, Cond.code yX8_draft cX8_draft 3 (some .int), Cond.methodLink RX8 117 yX8_orderOf, Cond.instanceMethod yX8_orderOf, Cond.selects RX8 yX8_orderOf yX8_orderOf, Cond.code yX8_orderOf cX8_orderOf 5 (some .int), Cond.methodLink RX8 76 yX8_cycleOf, Cond.instanceMethod yX8_cycleOf, Cond.selects RX8 yX8_cycleOf yX8_cycleOf, Cond.code yX8_cycleOf cX8_cycleOf 5 (some .int), Cond.methodLink RX8 120 yX8_stays, Cond.instanceMethod yX8_stays, Cond.selects RX8 yX8_stays yX8_stays, Cond.code yX8_stays cX8_stays 4 (some .int), Cond.methodLink RX8 123 yX8_cycles, Cond.instanceMethod yX8_cycles, Cond.selects RX8 yX8_cycles yX8_cycles, Cond.code yX8_cycles cX8_cycles 6 (some .int), Cond.methodLink RX8 126 yX8_longest, Cond.instanceMethod yX8_longest, Cond.selects RX8 yX8_longest yX8_longest, Cond.code yX8_longest cX8_longest 4 (some .int)]
def wsL_law_r19 : List Cond := [Cond.methodLink RX8 129 yX8_turnedPairs, Cond.instanceMethod yX8_turnedPairs, Cond.selects RX8 yX8_turnedPairs yX8_turnedPairs, Cond.code yX8_turnedPairs cX8_turnedPairs 5 (some .int), Cond.methodLink RX8 132 yX8_repeats, Cond.instanceMethod yX8_repeats, Cond.selects RX8 yX8_repeats yX8_repeats, Cond.code yX8_repeats cX8_repeats 4 (some .int), Cond.methodLink RX8 85 yX8_isSameCloth, Cond.instanceMethod yX8_isSameCloth, Cond.selects RX8 yX8_isSameCloth yX8_isSameCloth, Cond.code yX8_isSameCloth cX8_isSameCloth 3 (some .boolean), Cond.methodLink RL 60 yX7_press, Cond.instanceMethod yX7_press, Cond.selects RX7 yX7_press yX7_press, Cond.code yX7_press cX7_press 4 (some .int), Cond.methodLink RX7 161 yX0_pressAt, Cond.methodLink RL 63 yX8_press, Cond.instanceMethod yX8_press, Cond.selects RX8 yX8_press yX8_press, Cond.code yX8_press cX8_press 3 (some .int), Cond.methodLink RL 64 yX7_comesTo, Cond.instanceMethod yX7_comesTo, Cond.selects RX7 yX7_comesTo yX7_comesTo]
def wsL_law_r20 : List Cond := [Cond.code yX7_comesTo cX7_comesTo 4 (some .int), Cond.constant RX7 164 (1000000), Cond.methodLink RL 67 yX8_comesTo, Cond.instanceMethod yX8_comesTo, Cond.selects RX8 yX8_comesTo yX8_comesTo, Cond.code yX8_comesTo cX8_comesTo 6 (some .int), Cond.constant RX8 135 (1000000), Cond.methodLink RL 68 yX7_count, Cond.instanceMethod yX7_count, Cond.selects RX7 yX7_count yX7_count, Cond.code yX7_count cX7_count 2 (some .int), Cond.fieldLink RX7 172 "TreadleKernels$Past" "length" "I", Cond.methodLink RX7 165 yX1_neverRaised, Cond.instanceMethod yX1_neverRaised, Cond.selects RX1 yX1_neverRaised yX1_neverRaised, Cond.code yX1_neverRaised cX1_neverRaised 3 (some .int), Cond.methodLink RX7 169 yX1_draftsWithPresses, Cond.instanceMethod yX1_draftsWithPresses, Cond.selects RX1 yX1_draftsWithPresses yX1_draftsWithPresses, Cond.code yX1_draftsWithPresses cX1_draftsWithPresses 4 (some .int), Cond.methodLink RL 71 yX8_count, Cond.instanceMethod yX8_count, Cond.selects RX8 yX8_count yX8_count, Cond.code yX8_count cX8_count 2 (some .int)]
def wsL_law_r21 : List Cond := [Cond.methodLink RX8 136 yX8_neverRaised, Cond.instanceMethod yX8_neverRaised, Cond.selects RX8 yX8_neverRaised yX8_neverRaised, Cond.code yX8_neverRaised cX8_neverRaised 3 (some .int), Cond.methodLink RX8 139 yX8_pressedDrafts, Cond.instanceMethod yX8_pressedDrafts, Cond.selects RX8 yX8_pressedDrafts yX8_pressedDrafts, Cond.code yX8_pressedDrafts cX8_pressedDrafts 3 (some .int), Cond.methodLink RL 72 yX7_kernel, Cond.instanceMethod yX7_kernel, Cond.selects RX7 yX7_kernel yX7_kernel, Cond.code yX7_kernel cX7_kernel 4 (some .int), Cond.methodLink RX7 173 yX7_hasBit, Cond.methodLink RL 75 yX8_kernel, Cond.instanceMethod yX8_kernel, Cond.selects RX8 yX8_kernel yX8_kernel, Cond.code yX8_kernel cX8_kernel 4 (some .int), Cond.methodLink RX8 142 yX8_areDrafts, Cond.static yX8_areDrafts, Cond.code yX8_areDrafts cX8_areDrafts 1 (some .boolean), Cond.methodLink RX8 145 yX8_layAll, Cond.instanceMethod yX8_layAll, Cond.selects RX8 yX8_layAll yX8_layAll, Cond.code yX8_layAll cX8_layAll 2 none]
def wsL_law_r22 : List Cond := [Cond.methodLink RL 76 yX7_orbit, Cond.instanceMethod yX7_orbit, Cond.selects RX7 yX7_orbit yX7_orbit, Cond.code yX7_orbit cX7_orbit 3 (some .int), Cond.methodLink RX7 176 yX7_gatherWays, Cond.instanceMethod yX7_gatherWays, Cond.selects RX7 yX7_gatherWays yX7_gatherWays, Cond.code yX7_gatherWays cX7_gatherWays 3 none, Cond.fieldLink RX7 204 "TreadleKernels$Search" "makers" "I", Cond.methodLink RX7 207 yX5_addMaker, Cond.instanceMethod yX5_addMaker, Cond.selects RX5 yX5_addMaker yX5_addMaker, Cond.code yX5_addMaker cX5_addMaker 3 none, Cond.methodLink RX7 180 yX5_placesFrom, Cond.instanceMethod yX5_placesFrom, Cond.selects RX5 yX5_placesFrom yX5_placesFrom, Cond.code yX5_placesFrom cX5_placesFrom 5 (some .int), Cond.methodLink RX5 32 yX5_broughtTo, Cond.static yX5_broughtTo, Cond.code yX5_broughtTo cX5_broughtTo 5 (some .int), Cond.methodLink RX5 53 yX4_at, Cond.methodLink RL 79 yX8_orbit, Cond.instanceMethod yX8_orbit, Cond.selects RX8 yX8_orbit yX8_orbit]
def wsL_law_r23 : List Cond := [Cond.code yX8_orbit cX8_orbit 7 (some .int), Cond.methodLink RL 80 yX7_pair, Cond.instanceMethod yX7_pair, Cond.selects RX7 yX7_pair yX7_pair, Cond.code yX7_pair cX7_pair 8 (some .int), Cond.methodLink RX7 183 yX7_asNumber, Cond.static yX7_asNumber, Cond.code yX7_asNumber cX7_asNumber 1 (some .int), Cond.methodLink RX7 187 yX6_then, Cond.methodLink RL 83 yX8_pair, Cond.instanceMethod yX8_pair, Cond.selects RX8 yX8_pair yX8_pair, Cond.code yX8_pair cX8_pair 4 (some .int), Cond.methodLink RX8 148 yX8_unlike, Cond.instanceMethod yX8_unlike, Cond.selects RX8 yX8_unlike yX8_unlike, Cond.code yX8_unlike cX8_unlike 8 (some .int), Cond.methodLink RL 84 yX7_ways, Cond.instanceMethod yX7_ways, Cond.selects RX7 yX7_ways yX7_ways, Cond.code yX7_ways cX7_ways 2 (some .int), Cond.methodLink RX7 190 yX5_allWays, Cond.instanceMethod yX5_allWays, Cond.selects RX5 yX5_allWays yX5_allWays]
def wsL_law_r24 : List Cond := [Cond.code yX5_allWays cX5_allWays 3 (some .int), Cond.constantLong RX5 38 (205163983024656), Cond.methodLink RX5 40 yX5_note, Cond.instanceMethod yX5_note, Cond.selects RX5 yX5_note yX5_note, Cond.code yX5_note cX5_note 7 none, Cond.constantLong RX5 56 (-7046029254386353131), Cond.methodLink RX5 44 yX6_then, Cond.methodLink RL 87 yX8_ways, Cond.instanceMethod yX8_ways, Cond.selects RX8 yX8_ways yX8_ways, Cond.code yX8_ways cX8_ways 5 (some .int), Cond.fieldLink RX8 152 "TreadleKernelsModel" "foundMany" "I", Cond.methodLink RX8 155 yX8_addWay, Cond.instanceMethod yX8_addWay, Cond.selects RX8 yX8_addWay yX8_addWay, Cond.code yX8_addWay cX8_addWay 5 none, Cond.methodLink RL 88 yX7_untilHome, Cond.instanceMethod yX7_untilHome, Cond.selects RX7 yX7_untilHome yX7_untilHome, Cond.code yX7_untilHome cX7_untilHome 7 (some .int), Cond.methodLink RL 91 yX8_untilHome, Cond.instanceMethod yX8_untilHome, Cond.selects RX8 yX8_untilHome yX8_untilHome]
def wsL_law_r25 : List Cond := [Cond.code yX8_untilHome cX8_untilHome 4 (some .int), Cond.methodLink RX8 158 yX8_homeNow, Cond.instanceMethod yX8_homeNow, Cond.selects RX8 yX8_homeNow yX8_homeNow, Cond.code yX8_homeNow cX8_homeNow 3 (some .int), Cond.methodLink RL 92 yX7_bestDraft, Cond.instanceMethod yX7_bestDraft, Cond.selects RX7 yX7_bestDraft yX7_bestDraft, Cond.code yX7_bestDraft cX7_bestDraft 6 (some .int), Cond.methodLink RL 95 yX8_bestDraft, Cond.instanceMethod yX8_bestDraft, Cond.selects RX8 yX8_bestDraft yX8_bestDraft, Cond.code yX8_bestDraft cX8_bestDraft 5 (some .int), Cond.methodLink RL 98 yX7_write, Cond.instanceMethod yX7_write, Cond.selects RX7 yX7_write yX7_write, Cond.code yX7_write cX7_write 4 (some .int), Cond.methodLink RX7 193 yX2_signsIn, Cond.static yX2_signsIn, Cond.code yX2_signsIn cX2_signsIn 7 (some .int), Cond.constantLong RX2 19 (255), Cond.constantLong RX2 21 (33), Cond.constantLong RX2 23 (126), Cond.methodLink RX7 196 yX2_append]
def wsL_law_r26 : List Cond := [Cond.instanceMethod yX2_append, Cond.selects RX2 yX2_append yX2_append, Cond.code yX2_append cX2_append 5 none, Cond.methodLink RL 102 yX8_write, Cond.instanceMethod yX8_write, Cond.selects RX8 yX8_write yX8_write, Cond.code yX8_write cX8_write 5 (some .int), Cond.methodLink RX8 167 yX8_charactersIn, Cond.static yX8_charactersIn, Cond.code yX8_charactersIn cX8_charactersIn 5 (some .int), Cond.methodLink RX8 163 yX8_codeAt, Cond.static yX8_codeAt, Cond.code yX8_codeAt cX8_codeAt 3 (some .int), Cond.constantLong RX8 161 (255), Cond.methodLink RL 103 yX7_wipe, Cond.instanceMethod yX7_wipe, Cond.selects RX7 yX7_wipe yX7_wipe, Cond.code yX7_wipe cX7_wipe 2 (some .int), Cond.methodLink RL 107 yX8_wipe, Cond.instanceMethod yX8_wipe, Cond.selects RX8 yX8_wipe yX8_wipe, Cond.code yX8_wipe cX8_wipe 2 (some .int), Cond.methodLink RL 108 yX7_fault, Cond.instanceMethod yX7_fault]
def wsL_law_r27 : List Cond := [Cond.selects RX7 yX7_fault yX7_fault, Cond.code yX7_fault cX7_fault 1 (some .int), Cond.methodLink RL 111 yX8_fault, Cond.instanceMethod yX8_fault, Cond.selects RX8 yX8_fault yX8_fault, Cond.code yX8_fault cX8_fault 1 (some .int), Cond.methodLink RL 112 yX7_undo, Cond.instanceMethod yX7_undo, Cond.selects RX7 yX7_undo yX7_undo, Cond.code yX7_undo cX7_undo 1 (some .int), Cond.methodLink RX7 199 yX3_giveBack, Cond.instanceMethod yX3_giveBack, Cond.selects RX3 yX3_giveBack yX3_giveBack, Cond.code yX3_giveBack cX3_giveBack 3 none, Cond.methodLink RL 115 yX8_undo, Cond.instanceMethod yX8_undo, Cond.selects RX8 yX8_undo yX8_undo, Cond.code yX8_undo cX8_undo 2 (some .int), Cond.methodLink RL 116 yX7_save, Cond.instanceMethod yX7_save, Cond.selects RX7 yX7_save yX7_save, Cond.code yX7_save cX7_save 3 (some .int), Cond.methodLink RX7 202 yX1_copyFrom, Cond.methodLink RL 119 yX8_save]
def wsL_law_r28 : List Cond := [Cond.instanceMethod yX8_save, Cond.selects RX8 yX8_save yX8_save, Cond.code yX8_save cX8_save 3 (some .int), Cond.methodLink RL 120 yX7_restore, Cond.instanceMethod yX7_restore, Cond.selects RX7 yX7_restore yX7_restore, Cond.code yX7_restore cX7_restore 3 (some .int), Cond.methodLink RL 123 yX8_restore, Cond.instanceMethod yX8_restore, Cond.selects RX8 yX8_restore yX8_restore, Cond.code yX8_restore cX8_restore 3 (some .int)]
def wsL_law : List Cond := (wsL_law_r1 ++ (wsL_law_r2 ++ (wsL_law_r3 ++ (wsL_law_r4 ++ (wsL_law_r5 ++ (wsL_law_r6 ++ (wsL_law_r7 ++ (wsL_law_r8 ++ (wsL_law_r9 ++ (wsL_law_r10 ++ (wsL_law_r11 ++ (wsL_law_r12 ++ (wsL_law_r13 ++ (wsL_law_r14 ++ (wsL_law_r15 ++ (wsL_law_r16 ++ (wsL_law_r17 ++ (wsL_law_r18 ++ (wsL_law_r19 ++ (wsL_law_r20 ++ (wsL_law_r21 ++ (wsL_law_r22 ++ (wsL_law_r23 ++ (wsL_law_r24 ++ (wsL_law_r25 ++ (wsL_law_r26 ++ (wsL_law_r27 ++ wsL_law_r28))))))))))))))))))))))))))) ++ wsX70 ++ wsX80 ++ wsX10 ++ wsX30 ++ wsX20 ++ wsX50 ++ wsX00 ++ ([] : List Cond)
end
section
theorem mem_pos {big : List Cond} (ws : List Cond) (ps : List Nat) (hp : ws = ps.filterMap (fun i => big[i]?)) : ∀ w ∈ ws, w ∈ big := fun w hw => by
  rw [hp] at hw
  obtain ⟨i, -, hi⟩ := List.mem_filterMap.mp hw
  exact List.mem_of_getElem? hi
set_option maxRecDepth 20000 in
theorem wsL_in_r1 : ∀ w ∈ wsL_law_r1, w ∈ lw_tbl := mem_pos _ [46, 47, 35, 494, 495, 41, 793, 48, 49, 50, 51, 52, 53, 54, 55, 36, 165, 108, 109, 38, 166, 167, 124, 125] (by decide +kernel)
set_option maxRecDepth 20000 in
theorem wsL_in_r2 : ∀ w ∈ wsL_law_r2, w ∈ lw_tbl := mem_pos _ [39, 168, 139, 140, 40, 169, 163, 64, 37, 170, 56, 57, 58, 59, 60, 80, 61, 82, 84, 79, 86, 62, 88, 89] (by decide +kernel)
set_option maxRecDepth 20000 in
theorem wsL_in_r3 : ∀ w ∈ wsL_law_r3, w ∈ lw_tbl := mem_pos _ [91, 66, 67, 68, 69, 70, 111, 112, 113, 114, 116, 117, 127, 128, 129, 138, 130, 131, 142, 143, 144, 162, 145, 146] (by decide +kernel)
set_option maxRecDepth 20000 in
theorem wsL_in_r4 : ∀ w ∈ wsL_law_r4, w ∈ lw_tbl := mem_pos _ [148, 149, 150, 496, 497, 498, 499, 500, 501, 503, 504, 505, 508, 510, 511, 512, 513, 184, 185, 186, 187, 81, 188, 189] (by decide +kernel)
set_option maxRecDepth 20000 in
theorem wsL_in_r5 : ∀ w ∈ wsL_law_r5, w ∈ lw_tbl := mem_pos _ [190, 191, 192, 193, 194, 195, 197, 0, 198, 200, 201, 202, 203, 204, 205, 207, 206, 42, 208, 209, 210, 211, 212, 213] (by decide +kernel)
set_option maxRecDepth 20000 in
theorem wsL_in_r6 : ∀ w ∈ wsL_law_r6, w ∈ lw_tbl := mem_pos _ [214, 43, 215, 216, 217, 218, 219, 220, 569, 570, 571, 572, 573, 574, 575, 554, 555, 556, 565, 567, 5, 568, 502, 221] (by decide +kernel)
set_option maxRecDepth 20000 in
theorem wsL_in_r7 : ∀ w ∈ wsL_law_r7, w ∈ lw_tbl := mem_pos _ [222, 223, 224, 87, 225, 226, 227, 228, 230, 232, 233, 234, 235, 44, 236, 237, 238, 239, 576, 577, 578, 579, 580, 582] (by decide +kernel)
set_option maxRecDepth 20000 in
theorem wsL_in_r8 : ∀ w ∈ wsL_law_r8, w ∈ lw_tbl := mem_pos _ [6, 583, 584, 585, 586, 240, 241, 242, 243, 132, 72, 244, 245, 246, 247, 248, 249, 250, 251, 71, 252, 253, 254, 255] (by decide +kernel)
set_option maxRecDepth 20000 in
theorem wsL_in_r9 : ∀ w ∈ wsL_law_r9, w ∈ lw_tbl := mem_pos _ [256, 257, 258, 259, 260, 261, 263, 587, 588, 589, 590, 506, 591, 592, 593, 594, 596, 7, 597, 507, 509, 598, 600, 8] (by decide +kernel)
set_option maxRecDepth 20000 in
theorem wsL_in_r10 : ∀ w ∈ wsL_law_r10, w ∈ lw_tbl := mem_pos _ [601, 602, 604, 9, 605, 606, 608, 10, 609, 264, 265, 266, 267, 268, 269, 270, 271, 272, 273, 274, 275, 276, 610, 611] (by decide +kernel)
set_option maxRecDepth 20000 in
theorem wsL_in_r11 : ∀ w ∈ wsL_law_r11, w ∈ lw_tbl := mem_pos _ [612, 613, 614, 616, 11, 617, 618, 620, 12, 621, 622, 624, 13, 625, 277, 278, 279, 280, 281, 282, 283, 284, 626, 627] (by decide +kernel)
set_option maxRecDepth 20000 in
theorem wsL_in_r12 : ∀ w ∈ wsL_law_r12, w ∈ lw_tbl := mem_pos _ [628, 629, 285, 286, 287, 288, 630, 631, 632, 633, 289, 290, 291, 292, 83, 90, 92, 293, 294, 295, 296, 73, 297, 298] (by decide +kernel)
set_option maxRecDepth 20000 in
theorem wsL_in_r13 : ∀ w ∈ wsL_law_r13, w ∈ lw_tbl := mem_pos _ [299, 301, 1, 302, 303, 304, 305, 45, 306, 307, 309, 310, 311, 312, 313, 314, 315, 316, 317, 318, 319, 320, 321, 322] (by decide +kernel)
set_option maxRecDepth 20000 in
theorem wsL_in_r14 : ∀ w ∈ wsL_law_r14, w ∈ lw_tbl := mem_pos _ [323, 324, 325, 326, 327, 328, 329, 330, 331, 332, 634, 635, 636, 637, 638, 640, 14, 641, 642, 644, 15, 645, 646, 648] (by decide +kernel)
set_option maxRecDepth 20000 in
theorem wsL_in_r15 : ∀ w ∈ wsL_law_r15, w ∈ lw_tbl := mem_pos _ [16, 649, 650, 652, 17, 653, 654, 656, 18, 657, 557, 559, 4, 560, 333, 334, 335, 336, 85, 658, 659, 660, 661, 337] (by decide +kernel)
set_option maxRecDepth 20000 in
theorem wsL_in_r16 : ∀ w ∈ wsL_law_r16, w ∈ lw_tbl := mem_pos _ [338, 339, 340, 341, 342, 343, 344, 345, 346, 347, 348, 662, 663, 664, 665, 666, 668, 19, 669, 349, 350, 351, 352, 670] (by decide +kernel)
set_option maxRecDepth 20000 in
theorem wsL_in_r17 : ∀ w ∈ wsL_law_r17, w ∈ lw_tbl := mem_pos _ [671, 672, 673, 353, 354, 355, 356, 357, 358, 359, 360, 361, 362, 363, 364, 365, 366, 367, 368, 369, 370, 371, 372, 373] (by decide +kernel)
set_option maxRecDepth 20000 in
theorem wsL_in_r18 : ∀ w ∈ wsL_law_r18, w ∈ lw_tbl := mem_pos _ [674, 675, 676, 677, 678, 680, 20, 681, 682, 684, 21, 685, 686, 688, 22, 689, 690, 692, 23, 693, 694, 696, 24, 697] (by decide +kernel)
set_option maxRecDepth 20000 in
theorem wsL_in_r19 : ∀ w ∈ wsL_law_r19, w ∈ lw_tbl := mem_pos _ [698, 700, 25, 701, 702, 704, 26, 705, 706, 708, 27, 709, 374, 375, 376, 377, 378, 710, 711, 712, 713, 379, 380, 381] (by decide +kernel)
set_option maxRecDepth 20000 in
theorem wsL_in_r20 : ∀ w ∈ wsL_law_r20, w ∈ lw_tbl := mem_pos _ [382, 383, 714, 715, 716, 717, 718, 384, 385, 386, 387, 118, 388, 389, 390, 391, 392, 393, 394, 395, 719, 720, 721, 722] (by decide +kernel)
set_option maxRecDepth 20000 in
theorem wsL_in_r21 : ∀ w ∈ wsL_law_r21, w ∈ lw_tbl := mem_pos _ [723, 725, 28, 726, 727, 729, 29, 730, 396, 397, 398, 399, 400, 731, 732, 733, 734, 735, 736, 737, 738, 740, 30, 741] (by decide +kernel)
set_option maxRecDepth 20000 in
theorem wsL_in_r22 : ∀ w ∈ wsL_law_r22, w ∈ lw_tbl := mem_pos _ [401, 402, 403, 404, 405, 407, 2, 408, 147, 409, 410, 411, 412, 414, 415, 416, 417, 418, 419, 420, 422, 742, 743, 744] (by decide +kernel)
set_option maxRecDepth 20000 in
theorem wsL_in_r23 : ∀ w ∈ wsL_law_r23, w ∈ lw_tbl := mem_pos _ [745, 423, 424, 425, 426, 427, 428, 429, 430, 746, 747, 748, 749, 750, 752, 31, 753, 431, 432, 433, 434, 435, 436, 437] (by decide +kernel)
set_option maxRecDepth 20000 in
theorem wsL_in_r24 : ∀ w ∈ wsL_law_r24, w ∈ lw_tbl := mem_pos _ [438, 439, 440, 442, 3, 443, 444, 445, 754, 755, 756, 757, 514, 758, 760, 32, 761, 446, 447, 448, 449, 762, 763, 764] (by decide +kernel)
set_option maxRecDepth 20000 in
theorem wsL_in_r25 : ∀ w ∈ wsL_law_r25, w ∈ lw_tbl := mem_pos _ [765, 766, 768, 33, 769, 450, 451, 452, 453, 770, 771, 772, 773, 454, 455, 456, 457, 458, 459, 460, 461, 462, 463, 464] (by decide +kernel)
set_option maxRecDepth 20000 in
theorem wsL_in_r26 : ∀ w ∈ wsL_law_r26, w ∈ lw_tbl := mem_pos _ [465, 466, 467, 774, 775, 776, 777, 778, 779, 780, 781, 782, 783, 784, 469, 470, 471, 472, 785, 786, 787, 788, 473, 474] (by decide +kernel)
set_option maxRecDepth 20000 in
theorem wsL_in_r27 : ∀ w ∈ wsL_law_r27, w ∈ lw_tbl := mem_pos _ [475, 476, 789, 790, 791, 792, 477, 478, 479, 480, 481, 482, 483, 484, 546, 547, 548, 549, 485, 486, 487, 488, 489, 550] (by decide +kernel)
set_option maxRecDepth 20000 in
theorem wsL_in_r28 : ∀ w ∈ wsL_law_r28, w ∈ lw_tbl := mem_pos _ [551, 552, 553, 490, 491, 492, 493, 561, 562, 563, 564] (by decide +kernel)
set_option maxRecDepth 20000 in
theorem wsL_in_x7 : ∀ w ∈ wsX70, w ∈ lw_tbl := by decide +kernel
set_option maxRecDepth 20000 in
theorem wsL_in_x8 : ∀ w ∈ wsX80, w ∈ lw_tbl := by decide +kernel
set_option maxRecDepth 20000 in
theorem wsL_in_x1 : ∀ w ∈ wsX10, w ∈ lw_tbl := by decide +kernel
set_option maxRecDepth 20000 in
theorem wsL_in_x3 : ∀ w ∈ wsX30, w ∈ lw_tbl := by decide +kernel
set_option maxRecDepth 20000 in
theorem wsL_in_x2 : ∀ w ∈ wsX20, w ∈ lw_tbl := by decide +kernel
set_option maxRecDepth 20000 in
theorem wsL_in_x5 : ∀ w ∈ wsX50, w ∈ lw_tbl := by decide +kernel
set_option maxRecDepth 20000 in
theorem wsL_in_x0 : ∀ w ∈ wsX00, w ∈ lw_tbl := by decide +kernel
theorem wsL_law_in : ∀ w ∈ wsL_law, w ∈ lw_tbl := (List.forall_mem_append.mpr ⟨(List.forall_mem_append.mpr ⟨(List.forall_mem_append.mpr ⟨(List.forall_mem_append.mpr ⟨(List.forall_mem_append.mpr ⟨(List.forall_mem_append.mpr ⟨(List.forall_mem_append.mpr ⟨(List.forall_mem_append.mpr ⟨(List.forall_mem_append.mpr ⟨wsL_in_r1, (List.forall_mem_append.mpr ⟨wsL_in_r2, (List.forall_mem_append.mpr ⟨wsL_in_r3, (List.forall_mem_append.mpr ⟨wsL_in_r4, (List.forall_mem_append.mpr ⟨wsL_in_r5, (List.forall_mem_append.mpr ⟨wsL_in_r6, (List.forall_mem_append.mpr ⟨wsL_in_r7, (List.forall_mem_append.mpr ⟨wsL_in_r8, (List.forall_mem_append.mpr ⟨wsL_in_r9, (List.forall_mem_append.mpr ⟨wsL_in_r10, (List.forall_mem_append.mpr ⟨wsL_in_r11, (List.forall_mem_append.mpr ⟨wsL_in_r12, (List.forall_mem_append.mpr ⟨wsL_in_r13, (List.forall_mem_append.mpr ⟨wsL_in_r14, (List.forall_mem_append.mpr ⟨wsL_in_r15, (List.forall_mem_append.mpr ⟨wsL_in_r16, (List.forall_mem_append.mpr ⟨wsL_in_r17, (List.forall_mem_append.mpr ⟨wsL_in_r18, (List.forall_mem_append.mpr ⟨wsL_in_r19, (List.forall_mem_append.mpr ⟨wsL_in_r20, (List.forall_mem_append.mpr ⟨wsL_in_r21, (List.forall_mem_append.mpr ⟨wsL_in_r22, (List.forall_mem_append.mpr ⟨wsL_in_r23, (List.forall_mem_append.mpr ⟨wsL_in_r24, (List.forall_mem_append.mpr ⟨wsL_in_r25, (List.forall_mem_append.mpr ⟨wsL_in_r26, (List.forall_mem_append.mpr ⟨wsL_in_r27, wsL_in_r28⟩)⟩)⟩)⟩)⟩)⟩)⟩)⟩)⟩)⟩)⟩)⟩)⟩)⟩)⟩)⟩)⟩)⟩)⟩)⟩)⟩)⟩)⟩)⟩)⟩)⟩)⟩), wsL_in_x7⟩), wsL_in_x8⟩), wsL_in_x1⟩), wsL_in_x3⟩), wsL_in_x2⟩), wsL_in_x5⟩), wsL_in_x0⟩), fun w h => by cases h⟩)
end
section
theorem inlX0 : ∀ w ∈ wsX00, w ∈ wsL_law := fun _ h => List.mem_append_left _ (List.mem_append_right _ h)
theorem inX0 : ∀ w ∈ wsX00, w ∈ lw_tbl := fun w h => wsL_law_in w (inlX0 w h)
theorem inlX1 : ∀ w ∈ wsX10, w ∈ wsL_law := fun _ h => List.mem_append_left _ (List.mem_append_left _ (List.mem_append_left _ (List.mem_append_left _ (List.mem_append_left _ (List.mem_append_right _ h)))))
theorem inX1 : ∀ w ∈ wsX10, w ∈ lw_tbl := fun w h => wsL_law_in w (inlX1 w h)
theorem inlX2 : ∀ w ∈ wsX20, w ∈ wsL_law := fun _ h => List.mem_append_left _ (List.mem_append_left _ (List.mem_append_left _ (List.mem_append_right _ h)))
theorem inX2 : ∀ w ∈ wsX20, w ∈ lw_tbl := fun w h => wsL_law_in w (inlX2 w h)
theorem inlX3 : ∀ w ∈ wsX30, w ∈ wsL_law := fun _ h => List.mem_append_left _ (List.mem_append_left _ (List.mem_append_left _ (List.mem_append_left _ (List.mem_append_right _ h))))
theorem inX3 : ∀ w ∈ wsX30, w ∈ lw_tbl := fun w h => wsL_law_in w (inlX3 w h)
theorem inX4 : ∀ w ∈ wsX40, w ∈ lw_tbl := by decide +kernel
theorem inlX5 : ∀ w ∈ wsX50, w ∈ wsL_law := fun _ h => List.mem_append_left _ (List.mem_append_left _ (List.mem_append_right _ h))
theorem inX5 : ∀ w ∈ wsX50, w ∈ lw_tbl := fun w h => wsL_law_in w (inlX5 w h)
theorem inX6 : ∀ w ∈ wsX60, w ∈ lw_tbl := by decide +kernel
theorem inlX7 : ∀ w ∈ wsX70, w ∈ wsL_law := fun _ h => List.mem_append_left _ (List.mem_append_left _ (List.mem_append_left _ (List.mem_append_left _ (List.mem_append_left _ (List.mem_append_left _ (List.mem_append_left _ (List.mem_append_right _ h)))))))
theorem inX7 : ∀ w ∈ wsX70, w ∈ lw_tbl := fun w h => wsL_law_in w (inlX7 w h)
theorem inlX8 : ∀ w ∈ wsX80, w ∈ wsL_law := fun _ h => List.mem_append_left _ (List.mem_append_left _ (List.mem_append_left _ (List.mem_append_left _ (List.mem_append_left _ (List.mem_append_left _ (List.mem_append_right _ h))))))
theorem inX8 : ∀ w ∈ wsX80, w ∈ lw_tbl := fun w h => wsL_law_in w (inlX8 w h)
theorem inJ6 : ∀ w ∈ wsJ60, w ∈ lw_tbl := by decide +kernel
theorem inJ10 : ∀ w ∈ wsJ100, w ∈ lw_tbl := by decide +kernel
theorem dX0_init_0 : decode cX0_init 0 = .ok (.aload_n 0, 1) := by decide +kernel
theorem dX0_init_1 : decode cX0_init 1 = .ok (.invokespecial 3, 3) := by decide +kernel
theorem dX0_init_4 : decode cX0_init 4 = .ok (.aload_n 0, 1) := by decide +kernel
theorem dX0_init_5 : decode cX0_init 5 = .ok (.bipush 24, 2) := by decide +kernel
theorem dX0_init_7 : decode cX0_init 7 = .ok (.newarray .int, 2) := by decide +kernel
theorem dX0_init_9 : decode cX0_init 9 = .ok (.putfield 9, 3) := by decide +kernel
theorem dX0_init_12 : decode cX0_init 12 = .ok (.aload_n 0, 1) := by decide +kernel
theorem dX0_init_13 : decode cX0_init 13 = .ok (.iconst 0, 1) := by decide +kernel
theorem dX0_init_14 : decode cX0_init 14 = .ok (.putfield 15, 3) := by decide +kernel
theorem dX0_init_17 : decode cX0_init 17 = .ok (.return_, 1) := by decide +kernel
set_option maxRecDepth 20000 in
theorem ggX0_pressAt_X7_isBelow : GoodIn wsX0_pressAt wsX7_isBelow := goodIn_r _ [4] (by decide +kernel) (by decide +kernel)
set_option maxRecDepth 20000 in
theorem gX0_pressAt_X7_isBelow_n19 : GoodIn wsX0_pressAt (wsX7_isBelow) := ggX0_pressAt_X7_isBelow
theorem dX0_pressAt_0 : decode cX0_pressAt 0 = .ok (.iload_n 1, 1) := by decide +kernel
theorem dX0_pressAt_1 : decode cX0_pressAt 1 = .ok (.bipush 24, 2) := by decide +kernel
theorem dX0_pressAt_3 : decode cX0_pressAt 3 = .ok (.invokestatic 19, 3) := by decide +kernel
theorem dX0_pressAt_6 : decode cX0_pressAt 6 = .ok (.ifCond .eq 12, 3) := by decide +kernel
theorem dX0_pressAt_9 : decode cX0_pressAt 9 = .ok (.aload_n 0, 1) := by decide +kernel
theorem dX0_pressAt_10 : decode cX0_pressAt 10 = .ok (.getfield 9, 3) := by decide +kernel
theorem dX0_pressAt_13 : decode cX0_pressAt 13 = .ok (.iload_n 1, 1) := by decide +kernel
theorem dX0_pressAt_14 : decode cX0_pressAt 14 = .ok (.iaload, 1) := by decide +kernel
theorem dX0_pressAt_15 : decode cX0_pressAt 15 = .ok (.goto 4, 3) := by decide +kernel
theorem dX0_pressAt_18 : decode cX0_pressAt 18 = .ok (.iconst 0, 1) := by decide +kernel
theorem dX0_pressAt_19 : decode cX0_pressAt 19 = .ok (.ireturn, 1) := by decide +kernel
set_option maxRecDepth 20000 in
theorem ggX0_add_X7_isBelow : GoodIn wsX0_add wsX7_isBelow := goodIn_r _ [5] (by decide +kernel) (by decide +kernel)
set_option maxRecDepth 20000 in
theorem gX0_add_X7_isBelow_n19 : GoodIn wsX0_add (wsX7_isBelow) := ggX0_add_X7_isBelow
theorem dX0_add_0 : decode cX0_add 0 = .ok (.aload_n 0, 1) := by decide +kernel
theorem dX0_add_1 : decode cX0_add 1 = .ok (.getfield 15, 3) := by decide +kernel
theorem dX0_add_4 : decode cX0_add 4 = .ok (.bipush 24, 2) := by decide +kernel
theorem dX0_add_6 : decode cX0_add 6 = .ok (.invokestatic 19, 3) := by decide +kernel
theorem dX0_add_9 : decode cX0_add 9 = .ok (.ifCond .ne 4, 3) := by decide +kernel
theorem dX0_add_12 : decode cX0_add 12 = .ok (.return_, 1) := by decide +kernel
theorem dX0_add_13 : decode cX0_add 13 = .ok (.aload_n 0, 1) := by decide +kernel
theorem dX0_add_14 : decode cX0_add 14 = .ok (.getfield 9, 3) := by decide +kernel
theorem dX0_add_17 : decode cX0_add 17 = .ok (.aload_n 0, 1) := by decide +kernel
theorem dX0_add_18 : decode cX0_add 18 = .ok (.getfield 15, 3) := by decide +kernel
theorem dX0_add_21 : decode cX0_add 21 = .ok (.iload_n 1, 1) := by decide +kernel
theorem dX0_add_22 : decode cX0_add 22 = .ok (.iastore, 1) := by decide +kernel
theorem dX0_add_23 : decode cX0_add 23 = .ok (.aload_n 0, 1) := by decide +kernel
theorem dX0_add_24 : decode cX0_add 24 = .ok (.dup, 1) := by decide +kernel
theorem dX0_add_25 : decode cX0_add 25 = .ok (.getfield 15, 3) := by decide +kernel
theorem dX0_add_28 : decode cX0_add 28 = .ok (.iconst 1, 1) := by decide +kernel
theorem dX0_add_29 : decode cX0_add 29 = .ok (.iadd, 1) := by decide +kernel
theorem dX0_add_30 : decode cX0_add 30 = .ok (.putfield 15, 3) := by decide +kernel
theorem dX0_add_33 : decode cX0_add 33 = .ok (.return_, 1) := by decide +kernel
set_option maxRecDepth 20000 in
theorem ggX0_append_X0_pressAt : GoodIn wsX0_append wsX0_pressAt := goodIn_r _ [6, 7, 8, 9, 10, 15, 16] (by decide +kernel) (by decide +kernel)
set_option maxRecDepth 20000 in
theorem gX0_append_X0_pressAt : GoodIn wsX0_append (wsV RX0 23 RX0 yX0_pressAt wsX0_pressAt) := goodIn_app (goodIn_of _ (by decide +kernel)) ggX0_append_X0_pressAt
set_option maxRecDepth 20000 in
theorem ggX0_append_X0_add : GoodIn wsX0_append wsX0_add := goodIn_r _ [14, 1, 7, 8, 9, 10, 15, 16] (by decide +kernel) (by decide +kernel)
set_option maxRecDepth 20000 in
theorem gX0_append_X0_add : GoodIn wsX0_append (wsV RX0 27 RX0 yX0_add wsX0_add) := goodIn_app (goodIn_of _ (by decide +kernel)) ggX0_append_X0_add
theorem dX0_append_0 : decode cX0_append 0 = .ok (.iconst 0, 1) := by decide +kernel
theorem dX0_append_1 : decode cX0_append 1 = .ok (.istore_n 2, 1) := by decide +kernel
theorem dX0_append_2 : decode cX0_append 2 = .ok (.iload_n 2, 1) := by decide +kernel
theorem dX0_append_3 : decode cX0_append 3 = .ok (.aload_n 1, 1) := by decide +kernel
theorem dX0_append_4 : decode cX0_append 4 = .ok (.getfield 15, 3) := by decide +kernel
theorem dX0_append_7 : decode cX0_append 7 = .ok (.if_icmp .ge 18, 3) := by decide +kernel
theorem dX0_append_10 : decode cX0_append 10 = .ok (.aload_n 0, 1) := by decide +kernel
theorem dX0_append_11 : decode cX0_append 11 = .ok (.aload_n 1, 1) := by decide +kernel
theorem dX0_append_12 : decode cX0_append 12 = .ok (.iload_n 2, 1) := by decide +kernel
theorem dX0_append_13 : decode cX0_append 13 = .ok (.invokevirtual 23, 3) := by decide +kernel
theorem dX0_append_16 : decode cX0_append 16 = .ok (.invokevirtual 27, 3) := by decide +kernel
theorem dX0_append_19 : decode cX0_append 19 = .ok (.iinc 2 1, 3) := by decide +kernel
theorem dX0_append_22 : decode cX0_append 22 = .ok (.goto (-20), 3) := by decide +kernel
theorem dX0_append_25 : decode cX0_append 25 = .ok (.return_, 1) := by decide +kernel
set_option maxRecDepth 20000 in
theorem ggX0_appendTurned_X0_pressAt : GoodIn wsX0_appendTurned wsX0_pressAt := goodIn_r _ [6, 7, 8, 9, 10, 15, 16] (by decide +kernel) (by decide +kernel)
set_option maxRecDepth 20000 in
theorem gX0_appendTurned_X0_pressAt : GoodIn wsX0_appendTurned (wsV RX0 23 RX0 yX0_pressAt wsX0_pressAt) := goodIn_app (goodIn_of _ (by decide +kernel)) ggX0_appendTurned_X0_pressAt
set_option maxRecDepth 20000 in
theorem ggX0_appendTurned_X0_add : GoodIn wsX0_appendTurned wsX0_add := goodIn_r _ [14, 1, 7, 8, 9, 10, 15, 16] (by decide +kernel) (by decide +kernel)
set_option maxRecDepth 20000 in
theorem gX0_appendTurned_X0_add : GoodIn wsX0_appendTurned (wsV RX0 27 RX0 yX0_add wsX0_add) := goodIn_app (goodIn_of _ (by decide +kernel)) ggX0_appendTurned_X0_add
theorem dX0_appendTurned_0 : decode cX0_appendTurned 0 = .ok (.aload_n 1, 1) := by decide +kernel
theorem dX0_appendTurned_1 : decode cX0_appendTurned 1 = .ok (.getfield 15, 3) := by decide +kernel
theorem dX0_appendTurned_4 : decode cX0_appendTurned 4 = .ok (.iconst 1, 1) := by decide +kernel
theorem dX0_appendTurned_5 : decode cX0_appendTurned 5 = .ok (.isub, 1) := by decide +kernel
theorem dX0_appendTurned_6 : decode cX0_appendTurned 6 = .ok (.istore_n 2, 1) := by decide +kernel
theorem dX0_appendTurned_7 : decode cX0_appendTurned 7 = .ok (.iload_n 2, 1) := by decide +kernel
theorem dX0_appendTurned_8 : decode cX0_appendTurned 8 = .ok (.ifCond .lt 24, 3) := by decide +kernel
theorem dX0_appendTurned_11 : decode cX0_appendTurned 11 = .ok (.aload_n 0, 1) := by decide +kernel
theorem dX0_appendTurned_12 : decode cX0_appendTurned 12 = .ok (.aload_n 1, 1) := by decide +kernel
theorem dX0_appendTurned_13 : decode cX0_appendTurned 13 = .ok (.iload_n 2, 1) := by decide +kernel
theorem dX0_appendTurned_14 : decode cX0_appendTurned 14 = .ok (.invokevirtual 23, 3) := by decide +kernel
theorem dX0_appendTurned_17 : decode cX0_appendTurned 17 = .ok (.bipush 6, 2) := by decide +kernel
theorem dX0_appendTurned_19 : decode cX0_appendTurned 19 = .ok (.iadd, 1) := by decide +kernel
theorem dX0_appendTurned_20 : decode cX0_appendTurned 20 = .ok (.bipush 12, 2) := by decide +kernel
theorem dX0_appendTurned_22 : decode cX0_appendTurned 22 = .ok (.irem, 1) := by decide +kernel
theorem dX0_appendTurned_23 : decode cX0_appendTurned 23 = .ok (.invokevirtual 27, 3) := by decide +kernel
theorem dX0_appendTurned_26 : decode cX0_appendTurned 26 = .ok (.iinc 2 (-1), 3) := by decide +kernel
theorem dX0_appendTurned_29 : decode cX0_appendTurned 29 = .ok (.goto (-22), 3) := by decide +kernel
theorem dX0_appendTurned_32 : decode cX0_appendTurned 32 = .ok (.return_, 1) := by decide +kernel
theorem dX0_copyFrom_0 : decode cX0_copyFrom 0 = .ok (.aload_n 1, 1) := by decide +kernel
theorem dX0_copyFrom_1 : decode cX0_copyFrom 1 = .ok (.getfield 9, 3) := by decide +kernel
theorem dX0_copyFrom_4 : decode cX0_copyFrom 4 = .ok (.iconst 0, 1) := by decide +kernel
theorem dX0_copyFrom_5 : decode cX0_copyFrom 5 = .ok (.aload_n 0, 1) := by decide +kernel
theorem dX0_copyFrom_6 : decode cX0_copyFrom 6 = .ok (.getfield 9, 3) := by decide +kernel
theorem dX0_copyFrom_9 : decode cX0_copyFrom 9 = .ok (.iconst 0, 1) := by decide +kernel
theorem dX0_copyFrom_10 : decode cX0_copyFrom 10 = .ok (.bipush 24, 2) := by decide +kernel
theorem dX0_copyFrom_12 : decode cX0_copyFrom 12 = .ok (.invokestatic 31, 3) := by decide +kernel
theorem dX0_copyFrom_15 : decode cX0_copyFrom 15 = .ok (.aload_n 0, 1) := by decide +kernel
theorem dX0_copyFrom_16 : decode cX0_copyFrom 16 = .ok (.aload_n 1, 1) := by decide +kernel
theorem dX0_copyFrom_17 : decode cX0_copyFrom 17 = .ok (.getfield 15, 3) := by decide +kernel
theorem dX0_copyFrom_20 : decode cX0_copyFrom 20 = .ok (.putfield 15, 3) := by decide +kernel
theorem dX0_copyFrom_23 : decode cX0_copyFrom 23 = .ok (.return_, 1) := by decide +kernel
set_option maxRecDepth 20000 in
theorem ggX1_init_X0_init : GoodIn wsX1_init wsX0_init := goodIn_r _ [18, 19, 2, 3, 9, 20, 21, 29, 30] (by decide +kernel) (by decide +kernel)
set_option maxRecDepth 20000 in
theorem gX1_init_X0_init_n44 : GoodIn wsX1_init (wsX0_init) := ggX1_init_X0_init
theorem dX1_init_0 : decode cX1_init 0 = .ok (.aload_n 0, 1) := by decide +kernel
theorem dX1_init_1 : decode cX1_init 1 = .ok (.invokespecial 3, 3) := by decide +kernel
theorem dX1_init_4 : decode cX1_init 4 = .ok (.aload_n 0, 1) := by decide +kernel
theorem dX1_init_5 : decode cX1_init 5 = .ok (.ldc2_w 11, 3) := by decide +kernel
theorem dX1_init_8 : decode cX1_init 8 = .ok (.putfield 13, 3) := by decide +kernel
theorem dX1_init_11 : decode cX1_init 11 = .ok (.aload_n 0, 1) := by decide +kernel
theorem dX1_init_12 : decode cX1_init 12 = .ok (.ldc2_w 19, 3) := by decide +kernel
theorem dX1_init_15 : decode cX1_init 15 = .ok (.putfield 21, 3) := by decide +kernel
theorem dX1_init_18 : decode cX1_init 18 = .ok (.aload_n 0, 1) := by decide +kernel
theorem dX1_init_19 : decode cX1_init 19 = .ok (.lconst 0, 1) := by decide +kernel
theorem dX1_init_20 : decode cX1_init 20 = .ok (.putfield 24, 3) := by decide +kernel
theorem dX1_init_23 : decode cX1_init 23 = .ok (.aload_n 0, 1) := by decide +kernel
theorem dX1_init_24 : decode cX1_init 24 = .ok (.bipush 6, 2) := by decide +kernel
theorem dX1_init_26 : decode cX1_init 26 = .ok (.newarray .int, 2) := by decide +kernel
theorem dX1_init_28 : decode cX1_init 28 = .ok (.putfield 27, 3) := by decide +kernel
theorem dX1_init_31 : decode cX1_init 31 = .ok (.aload_n 0, 1) := by decide +kernel
theorem dX1_init_32 : decode cX1_init 32 = .ok (.bipush 6, 2) := by decide +kernel
theorem dX1_init_34 : decode cX1_init 34 = .ok (.anewarray 31, 3) := by decide +kernel
theorem dX1_init_37 : decode cX1_init 37 = .ok (.putfield 33, 3) := by decide +kernel
theorem dX1_init_40 : decode cX1_init 40 = .ok (.aload_n 0, 1) := by decide +kernel
theorem dX1_init_41 : decode cX1_init 41 = .ok (.iconst 0, 1) := by decide +kernel
theorem dX1_init_42 : decode cX1_init 42 = .ok (.putfield 37, 3) := by decide +kernel
theorem dX1_init_45 : decode cX1_init 45 = .ok (.aload_n 0, 1) := by decide +kernel
theorem dX1_init_46 : decode cX1_init 46 = .ok (.iconst 0, 1) := by decide +kernel
theorem dX1_init_47 : decode cX1_init 47 = .ok (.putfield 41, 3) := by decide +kernel
theorem dX1_init_50 : decode cX1_init 50 = .ok (.iconst 0, 1) := by decide +kernel
theorem dX1_init_51 : decode cX1_init 51 = .ok (.istore_n 1, 1) := by decide +kernel
theorem dX1_init_52 : decode cX1_init 52 = .ok (.iload_n 1, 1) := by decide +kernel
theorem dX1_init_53 : decode cX1_init 53 = .ok (.bipush 6, 2) := by decide +kernel
theorem dX1_init_55 : decode cX1_init 55 = .ok (.if_icmp .ge 18, 3) := by decide +kernel
theorem dX1_init_58 : decode cX1_init 58 = .ok (.aload_n 0, 1) := by decide +kernel
theorem dX1_init_59 : decode cX1_init 59 = .ok (.getfield 27, 3) := by decide +kernel
theorem dX1_init_62 : decode cX1_init 62 = .ok (.iload_n 1, 1) := by decide +kernel
theorem dX1_init_63 : decode cX1_init 63 = .ok (.iconst 1, 1) := by decide +kernel
theorem dX1_init_64 : decode cX1_init 64 = .ok (.iload_n 1, 1) := by decide +kernel
theorem dX1_init_65 : decode cX1_init 65 = .ok (.ishl, 1) := by decide +kernel
theorem dX1_init_66 : decode cX1_init 66 = .ok (.iastore, 1) := by decide +kernel
theorem dX1_init_67 : decode cX1_init 67 = .ok (.iinc 1 1, 3) := by decide +kernel
theorem dX1_init_70 : decode cX1_init 70 = .ok (.goto (-18), 3) := by decide +kernel
theorem dX1_init_73 : decode cX1_init 73 = .ok (.iconst 0, 1) := by decide +kernel
theorem dX1_init_74 : decode cX1_init 74 = .ok (.istore_n 1, 1) := by decide +kernel
theorem dX1_init_75 : decode cX1_init 75 = .ok (.iload_n 1, 1) := by decide +kernel
theorem dX1_init_76 : decode cX1_init 76 = .ok (.bipush 6, 2) := by decide +kernel
theorem dX1_init_78 : decode cX1_init 78 = .ok (.if_icmp .ge 22, 3) := by decide +kernel
theorem dX1_init_81 : decode cX1_init 81 = .ok (.aload_n 0, 1) := by decide +kernel
theorem dX1_init_82 : decode cX1_init 82 = .ok (.getfield 33, 3) := by decide +kernel
theorem dX1_init_85 : decode cX1_init 85 = .ok (.iload_n 1, 1) := by decide +kernel
theorem dX1_init_86 : decode cX1_init 86 = .ok (.new 31, 3) := by decide +kernel
theorem dX1_init_89 : decode cX1_init 89 = .ok (.dup, 1) := by decide +kernel
theorem dX1_init_90 : decode cX1_init 90 = .ok (.invokespecial 44, 3) := by decide +kernel
theorem dX1_init_93 : decode cX1_init 93 = .ok (.aastore, 1) := by decide +kernel
theorem dX1_init_94 : decode cX1_init 94 = .ok (.iinc 1 1, 3) := by decide +kernel
theorem dX1_init_97 : decode cX1_init 97 = .ok (.goto (-22), 3) := by decide +kernel
theorem dX1_init_100 : decode cX1_init 100 = .ok (.return_, 1) := by decide +kernel
set_option maxRecDepth 20000 in
theorem ggX1_copyFrom_X0_copyFrom : GoodIn wsX1_copyFrom wsX0_copyFrom := goodIn_r _ [16, 17, 18, 6, 7, 8, 19, 27, 28] (by decide +kernel) (by decide +kernel)
set_option maxRecDepth 20000 in
theorem gX1_copyFrom_X0_copyFrom : GoodIn wsX1_copyFrom (wsV RX1 51 RX0 yX0_copyFrom wsX0_copyFrom) := goodIn_app (goodIn_of _ (by decide +kernel)) ggX1_copyFrom_X0_copyFrom
theorem dX1_copyFrom_0 : decode cX1_copyFrom 0 = .ok (.aload_n 0, 1) := by decide +kernel
theorem dX1_copyFrom_1 : decode cX1_copyFrom 1 = .ok (.aload_n 1, 1) := by decide +kernel
theorem dX1_copyFrom_2 : decode cX1_copyFrom 2 = .ok (.getfield 13, 3) := by decide +kernel
theorem dX1_copyFrom_5 : decode cX1_copyFrom 5 = .ok (.putfield 13, 3) := by decide +kernel
theorem dX1_copyFrom_8 : decode cX1_copyFrom 8 = .ok (.aload_n 0, 1) := by decide +kernel
theorem dX1_copyFrom_9 : decode cX1_copyFrom 9 = .ok (.aload_n 1, 1) := by decide +kernel
theorem dX1_copyFrom_10 : decode cX1_copyFrom 10 = .ok (.getfield 21, 3) := by decide +kernel
theorem dX1_copyFrom_13 : decode cX1_copyFrom 13 = .ok (.putfield 21, 3) := by decide +kernel
theorem dX1_copyFrom_16 : decode cX1_copyFrom 16 = .ok (.aload_n 0, 1) := by decide +kernel
theorem dX1_copyFrom_17 : decode cX1_copyFrom 17 = .ok (.aload_n 1, 1) := by decide +kernel
theorem dX1_copyFrom_18 : decode cX1_copyFrom 18 = .ok (.getfield 24, 3) := by decide +kernel
theorem dX1_copyFrom_21 : decode cX1_copyFrom 21 = .ok (.putfield 24, 3) := by decide +kernel
theorem dX1_copyFrom_24 : decode cX1_copyFrom 24 = .ok (.aload_n 1, 1) := by decide +kernel
theorem dX1_copyFrom_25 : decode cX1_copyFrom 25 = .ok (.getfield 27, 3) := by decide +kernel
theorem dX1_copyFrom_28 : decode cX1_copyFrom 28 = .ok (.iconst 0, 1) := by decide +kernel
theorem dX1_copyFrom_29 : decode cX1_copyFrom 29 = .ok (.aload_n 0, 1) := by decide +kernel
theorem dX1_copyFrom_30 : decode cX1_copyFrom 30 = .ok (.getfield 27, 3) := by decide +kernel
theorem dX1_copyFrom_33 : decode cX1_copyFrom 33 = .ok (.iconst 0, 1) := by decide +kernel
theorem dX1_copyFrom_34 : decode cX1_copyFrom 34 = .ok (.bipush 6, 2) := by decide +kernel
theorem dX1_copyFrom_36 : decode cX1_copyFrom 36 = .ok (.invokestatic 45, 3) := by decide +kernel
theorem dX1_copyFrom_39 : decode cX1_copyFrom 39 = .ok (.iconst 0, 1) := by decide +kernel
theorem dX1_copyFrom_40 : decode cX1_copyFrom 40 = .ok (.istore_n 2, 1) := by decide +kernel
theorem dX1_copyFrom_41 : decode cX1_copyFrom 41 = .ok (.iload_n 2, 1) := by decide +kernel
theorem dX1_copyFrom_42 : decode cX1_copyFrom 42 = .ok (.bipush 6, 2) := by decide +kernel
theorem dX1_copyFrom_44 : decode cX1_copyFrom 44 = .ok (.if_icmp .ge 39, 3) := by decide +kernel
theorem dX1_copyFrom_47 : decode cX1_copyFrom 47 = .ok (.aload_n 0, 1) := by decide +kernel
theorem dX1_copyFrom_48 : decode cX1_copyFrom 48 = .ok (.getfield 33, 3) := by decide +kernel
theorem dX1_copyFrom_51 : decode cX1_copyFrom 51 = .ok (.iload_n 2, 1) := by decide +kernel
theorem dX1_copyFrom_52 : decode cX1_copyFrom 52 = .ok (.aaload, 1) := by decide +kernel
theorem dX1_copyFrom_53 : decode cX1_copyFrom 53 = .ok (.astore_n 3, 1) := by decide +kernel
theorem dX1_copyFrom_54 : decode cX1_copyFrom 54 = .ok (.aload_n 1, 1) := by decide +kernel
theorem dX1_copyFrom_55 : decode cX1_copyFrom 55 = .ok (.getfield 33, 3) := by decide +kernel
theorem dX1_copyFrom_58 : decode cX1_copyFrom 58 = .ok (.iload_n 2, 1) := by decide +kernel
theorem dX1_copyFrom_59 : decode cX1_copyFrom 59 = .ok (.aaload, 1) := by decide +kernel
theorem dX1_copyFrom_60 : decode cX1_copyFrom 60 = .ok (.astore 4, 2) := by decide +kernel
theorem dX1_copyFrom_62 : decode cX1_copyFrom 62 = .ok (.aload_n 3, 1) := by decide +kernel
theorem dX1_copyFrom_63 : decode cX1_copyFrom 63 = .ok (.ifnull 14, 3) := by decide +kernel
theorem dX1_copyFrom_66 : decode cX1_copyFrom 66 = .ok (.aload 4, 2) := by decide +kernel
theorem dX1_copyFrom_68 : decode cX1_copyFrom 68 = .ok (.ifnull 9, 3) := by decide +kernel
theorem dX1_copyFrom_71 : decode cX1_copyFrom 71 = .ok (.aload_n 3, 1) := by decide +kernel
theorem dX1_copyFrom_72 : decode cX1_copyFrom 72 = .ok (.aload 4, 2) := by decide +kernel
theorem dX1_copyFrom_74 : decode cX1_copyFrom 74 = .ok (.invokevirtual 51, 3) := by decide +kernel
theorem dX1_copyFrom_77 : decode cX1_copyFrom 77 = .ok (.iinc 2 1, 3) := by decide +kernel
theorem dX1_copyFrom_80 : decode cX1_copyFrom 80 = .ok (.goto (-39), 3) := by decide +kernel
theorem dX1_copyFrom_83 : decode cX1_copyFrom 83 = .ok (.aload_n 0, 1) := by decide +kernel
theorem dX1_copyFrom_84 : decode cX1_copyFrom 84 = .ok (.aload_n 1, 1) := by decide +kernel
theorem dX1_copyFrom_85 : decode cX1_copyFrom 85 = .ok (.getfield 37, 3) := by decide +kernel
theorem dX1_copyFrom_88 : decode cX1_copyFrom 88 = .ok (.putfield 37, 3) := by decide +kernel
theorem dX1_copyFrom_91 : decode cX1_copyFrom 91 = .ok (.aload_n 0, 1) := by decide +kernel
theorem dX1_copyFrom_92 : decode cX1_copyFrom 92 = .ok (.aload_n 1, 1) := by decide +kernel
theorem dX1_copyFrom_93 : decode cX1_copyFrom 93 = .ok (.getfield 41, 3) := by decide +kernel
theorem dX1_copyFrom_96 : decode cX1_copyFrom 96 = .ok (.putfield 41, 3) := by decide +kernel
theorem dX1_copyFrom_99 : decode cX1_copyFrom 99 = .ok (.return_, 1) := by decide +kernel
set_option maxRecDepth 20000 in
theorem ggX1_draftAt_X7_isBelow : GoodIn wsX1_draftAt wsX7_isBelow := goodIn_r _ [4] (by decide +kernel) (by decide +kernel)
set_option maxRecDepth 20000 in
theorem gX1_draftAt_X7_isBelow_n55 : GoodIn wsX1_draftAt (wsX7_isBelow) := ggX1_draftAt_X7_isBelow
theorem dX1_draftAt_0 : decode cX1_draftAt 0 = .ok (.iload_n 1, 1) := by decide +kernel
theorem dX1_draftAt_1 : decode cX1_draftAt 1 = .ok (.bipush 6, 2) := by decide +kernel
theorem dX1_draftAt_3 : decode cX1_draftAt 3 = .ok (.invokestatic 55, 3) := by decide +kernel
theorem dX1_draftAt_6 : decode cX1_draftAt 6 = .ok (.ifCond .eq 12, 3) := by decide +kernel
theorem dX1_draftAt_9 : decode cX1_draftAt 9 = .ok (.aload_n 0, 1) := by decide +kernel
theorem dX1_draftAt_10 : decode cX1_draftAt 10 = .ok (.getfield 33, 3) := by decide +kernel
theorem dX1_draftAt_13 : decode cX1_draftAt 13 = .ok (.iload_n 1, 1) := by decide +kernel
theorem dX1_draftAt_14 : decode cX1_draftAt 14 = .ok (.aaload, 1) := by decide +kernel
theorem dX1_draftAt_15 : decode cX1_draftAt 15 = .ok (.goto 4, 3) := by decide +kernel
theorem dX1_draftAt_18 : decode cX1_draftAt 18 = .ok (.aconst_null, 1) := by decide +kernel
theorem dX1_draftAt_19 : decode cX1_draftAt 19 = .ok (.areturn, 1) := by decide +kernel
set_option maxRecDepth 20000 in
theorem ggX1_raisedBy_X7_isBelow : GoodIn wsX1_raisedBy wsX7_isBelow := goodIn_r _ [5] (by decide +kernel) (by decide +kernel)
set_option maxRecDepth 20000 in
theorem gX1_raisedBy_X7_isBelow_n55 : GoodIn wsX1_raisedBy (wsX7_isBelow) := ggX1_raisedBy_X7_isBelow
set_option maxRecDepth 20000 in
theorem ggX1_raisedBy_X4_at : GoodIn wsX1_raisedBy wsX4_at := goodIn_r _ [9] (by decide +kernel) (by decide +kernel)
set_option maxRecDepth 20000 in
theorem gX1_raisedBy_X4_at : GoodIn wsX1_raisedBy (va_wsS RX1 59 yX4_at wsX4_at) := goodIn_app (goodIn_of _ (by decide +kernel)) ggX1_raisedBy_X4_at
set_option maxRecDepth 20000 in
theorem ggX1_raisedBy_X7_hasBit : GoodIn wsX1_raisedBy wsX7_hasBit := goodIn_r _ [11] (by decide +kernel) (by decide +kernel)
set_option maxRecDepth 20000 in
theorem gX1_raisedBy_X7_hasBit_n63 : GoodIn wsX1_raisedBy (wsX7_hasBit) := ggX1_raisedBy_X7_hasBit
theorem dX1_raisedBy_0 : decode cX1_raisedBy 0 = .ok (.iload_n 1, 1) := by decide +kernel
theorem dX1_raisedBy_1 : decode cX1_raisedBy 1 = .ok (.bipush 6, 2) := by decide +kernel
theorem dX1_raisedBy_3 : decode cX1_raisedBy 3 = .ok (.invokestatic 55, 3) := by decide +kernel
theorem dX1_raisedBy_6 : decode cX1_raisedBy 6 = .ok (.ifCond .ne 5, 3) := by decide +kernel
theorem dX1_raisedBy_9 : decode cX1_raisedBy 9 = .ok (.iconst 0, 1) := by decide +kernel
theorem dX1_raisedBy_10 : decode cX1_raisedBy 10 = .ok (.ireturn, 1) := by decide +kernel
theorem dX1_raisedBy_11 : decode cX1_raisedBy 11 = .ok (.iconst 0, 1) := by decide +kernel
theorem dX1_raisedBy_12 : decode cX1_raisedBy 12 = .ok (.istore_n 2, 1) := by decide +kernel
theorem dX1_raisedBy_13 : decode cX1_raisedBy 13 = .ok (.iconst 0, 1) := by decide +kernel
theorem dX1_raisedBy_14 : decode cX1_raisedBy 14 = .ok (.istore_n 3, 1) := by decide +kernel
theorem dX1_raisedBy_15 : decode cX1_raisedBy 15 = .ok (.iload_n 3, 1) := by decide +kernel
theorem dX1_raisedBy_16 : decode cX1_raisedBy 16 = .ok (.bipush 12, 2) := by decide +kernel
theorem dX1_raisedBy_18 : decode cX1_raisedBy 18 = .ok (.if_icmp .ge 35, 3) := by decide +kernel
theorem dX1_raisedBy_21 : decode cX1_raisedBy 21 = .ok (.aload_n 0, 1) := by decide +kernel
theorem dX1_raisedBy_22 : decode cX1_raisedBy 22 = .ok (.getfield 27, 3) := by decide +kernel
theorem dX1_raisedBy_25 : decode cX1_raisedBy 25 = .ok (.iload_n 1, 1) := by decide +kernel
theorem dX1_raisedBy_26 : decode cX1_raisedBy 26 = .ok (.iaload, 1) := by decide +kernel
theorem dX1_raisedBy_27 : decode cX1_raisedBy 27 = .ok (.aload_n 0, 1) := by decide +kernel
theorem dX1_raisedBy_28 : decode cX1_raisedBy 28 = .ok (.getfield 13, 3) := by decide +kernel
theorem dX1_raisedBy_31 : decode cX1_raisedBy 31 = .ok (.iload_n 3, 1) := by decide +kernel
theorem dX1_raisedBy_32 : decode cX1_raisedBy 32 = .ok (.invokestatic 59, 3) := by decide +kernel
theorem dX1_raisedBy_35 : decode cX1_raisedBy 35 = .ok (.invokestatic 63, 3) := by decide +kernel
theorem dX1_raisedBy_38 : decode cX1_raisedBy 38 = .ok (.ifCond .eq 9, 3) := by decide +kernel
theorem dX1_raisedBy_41 : decode cX1_raisedBy 41 = .ok (.iload_n 2, 1) := by decide +kernel
theorem dX1_raisedBy_42 : decode cX1_raisedBy 42 = .ok (.iconst 1, 1) := by decide +kernel
theorem dX1_raisedBy_43 : decode cX1_raisedBy 43 = .ok (.iload_n 3, 1) := by decide +kernel
theorem dX1_raisedBy_44 : decode cX1_raisedBy 44 = .ok (.ishl, 1) := by decide +kernel
theorem dX1_raisedBy_45 : decode cX1_raisedBy 45 = .ok (.ior, 1) := by decide +kernel
theorem dX1_raisedBy_46 : decode cX1_raisedBy 46 = .ok (.istore_n 2, 1) := by decide +kernel
theorem dX1_raisedBy_47 : decode cX1_raisedBy 47 = .ok (.iinc 3 1, 3) := by decide +kernel
theorem dX1_raisedBy_50 : decode cX1_raisedBy 50 = .ok (.goto (-35), 3) := by decide +kernel
theorem dX1_raisedBy_53 : decode cX1_raisedBy 53 = .ok (.iload_n 2, 1) := by decide +kernel
theorem dX1_raisedBy_54 : decode cX1_raisedBy 54 = .ok (.ireturn, 1) := by decide +kernel
set_option maxRecDepth 20000 in
theorem ggX1_treadlesRaising_X4_at : GoodIn wsX1_treadlesRaising wsX4_at := goodIn_r _ [6] (by decide +kernel) (by decide +kernel)
set_option maxRecDepth 20000 in
theorem gX1_treadlesRaising_X4_at : GoodIn wsX1_treadlesRaising (va_wsS RX1 59 yX4_at wsX4_at) := goodIn_app (goodIn_of _ (by decide +kernel)) ggX1_treadlesRaising_X4_at
set_option maxRecDepth 20000 in
theorem ggX1_treadlesRaising_X7_hasBit : GoodIn wsX1_treadlesRaising wsX7_hasBit := goodIn_r _ [9] (by decide +kernel) (by decide +kernel)
set_option maxRecDepth 20000 in
theorem gX1_treadlesRaising_X7_hasBit_n63 : GoodIn wsX1_treadlesRaising (wsX7_hasBit) := ggX1_treadlesRaising_X7_hasBit
theorem dX1_treadlesRaising_0 : decode cX1_treadlesRaising 0 = .ok (.iconst 0, 1) := by decide +kernel
theorem dX1_treadlesRaising_1 : decode cX1_treadlesRaising 1 = .ok (.istore_n 2, 1) := by decide +kernel
theorem dX1_treadlesRaising_2 : decode cX1_treadlesRaising 2 = .ok (.iconst 0, 1) := by decide +kernel
theorem dX1_treadlesRaising_3 : decode cX1_treadlesRaising 3 = .ok (.istore_n 3, 1) := by decide +kernel
theorem dX1_treadlesRaising_4 : decode cX1_treadlesRaising 4 = .ok (.iload_n 3, 1) := by decide +kernel
theorem dX1_treadlesRaising_5 : decode cX1_treadlesRaising 5 = .ok (.bipush 6, 2) := by decide +kernel
theorem dX1_treadlesRaising_7 : decode cX1_treadlesRaising 7 = .ok (.if_icmp .ge 35, 3) := by decide +kernel
theorem dX1_treadlesRaising_10 : decode cX1_treadlesRaising 10 = .ok (.aload_n 0, 1) := by decide +kernel
theorem dX1_treadlesRaising_11 : decode cX1_treadlesRaising 11 = .ok (.getfield 27, 3) := by decide +kernel
theorem dX1_treadlesRaising_14 : decode cX1_treadlesRaising 14 = .ok (.iload_n 3, 1) := by decide +kernel
theorem dX1_treadlesRaising_15 : decode cX1_treadlesRaising 15 = .ok (.iaload, 1) := by decide +kernel
theorem dX1_treadlesRaising_16 : decode cX1_treadlesRaising 16 = .ok (.aload_n 0, 1) := by decide +kernel
theorem dX1_treadlesRaising_17 : decode cX1_treadlesRaising 17 = .ok (.getfield 13, 3) := by decide +kernel
theorem dX1_treadlesRaising_20 : decode cX1_treadlesRaising 20 = .ok (.iload_n 1, 1) := by decide +kernel
theorem dX1_treadlesRaising_21 : decode cX1_treadlesRaising 21 = .ok (.invokestatic 59, 3) := by decide +kernel
theorem dX1_treadlesRaising_24 : decode cX1_treadlesRaising 24 = .ok (.invokestatic 63, 3) := by decide +kernel
theorem dX1_treadlesRaising_27 : decode cX1_treadlesRaising 27 = .ok (.ifCond .eq 9, 3) := by decide +kernel
theorem dX1_treadlesRaising_30 : decode cX1_treadlesRaising 30 = .ok (.iload_n 2, 1) := by decide +kernel
theorem dX1_treadlesRaising_31 : decode cX1_treadlesRaising 31 = .ok (.iconst 1, 1) := by decide +kernel
theorem dX1_treadlesRaising_32 : decode cX1_treadlesRaising 32 = .ok (.iload_n 3, 1) := by decide +kernel
theorem dX1_treadlesRaising_33 : decode cX1_treadlesRaising 33 = .ok (.ishl, 1) := by decide +kernel
theorem dX1_treadlesRaising_34 : decode cX1_treadlesRaising 34 = .ok (.ior, 1) := by decide +kernel
theorem dX1_treadlesRaising_35 : decode cX1_treadlesRaising 35 = .ok (.istore_n 2, 1) := by decide +kernel
theorem dX1_treadlesRaising_36 : decode cX1_treadlesRaising 36 = .ok (.iinc 3 1, 3) := by decide +kernel
theorem dX1_treadlesRaising_39 : decode cX1_treadlesRaising 39 = .ok (.goto (-35), 3) := by decide +kernel
theorem dX1_treadlesRaising_42 : decode cX1_treadlesRaising 42 = .ok (.iload_n 2, 1) := by decide +kernel
theorem dX1_treadlesRaising_43 : decode cX1_treadlesRaising 43 = .ok (.ireturn, 1) := by decide +kernel
set_option maxRecDepth 20000 in
theorem ggX1_neverRaised_X1_raisedBy : GoodIn wsX1_neverRaised wsX1_raisedBy := goodIn_r _ [5, 6, 7, 8, 9, 10, 11, 12, 13, 14, 15, 16, 17, 18, 19, 20, 21, 22, 23] (by decide +kernel) (by decide +kernel)
set_option maxRecDepth 20000 in
theorem gX1_neverRaised_X1_raisedBy : GoodIn wsX1_neverRaised (wsV RX1 66 RX1 yX1_raisedBy wsX1_raisedBy) := goodIn_app (goodIn_of _ (by decide +kernel)) ggX1_neverRaised_X1_raisedBy
theorem dX1_neverRaised_0 : decode cX1_neverRaised 0 = .ok (.sipush 4095, 3) := by decide +kernel
theorem dX1_neverRaised_3 : decode cX1_neverRaised 3 = .ok (.istore_n 1, 1) := by decide +kernel
theorem dX1_neverRaised_4 : decode cX1_neverRaised 4 = .ok (.iconst 0, 1) := by decide +kernel
theorem dX1_neverRaised_5 : decode cX1_neverRaised 5 = .ok (.istore_n 2, 1) := by decide +kernel
theorem dX1_neverRaised_6 : decode cX1_neverRaised 6 = .ok (.iload_n 2, 1) := by decide +kernel
theorem dX1_neverRaised_7 : decode cX1_neverRaised 7 = .ok (.bipush 6, 2) := by decide +kernel
theorem dX1_neverRaised_9 : decode cX1_neverRaised 9 = .ok (.if_icmp .ge 19, 3) := by decide +kernel
theorem dX1_neverRaised_12 : decode cX1_neverRaised 12 = .ok (.iload_n 1, 1) := by decide +kernel
theorem dX1_neverRaised_13 : decode cX1_neverRaised 13 = .ok (.aload_n 0, 1) := by decide +kernel
theorem dX1_neverRaised_14 : decode cX1_neverRaised 14 = .ok (.iload_n 2, 1) := by decide +kernel
theorem dX1_neverRaised_15 : decode cX1_neverRaised 15 = .ok (.invokevirtual 66, 3) := by decide +kernel
theorem dX1_neverRaised_18 : decode cX1_neverRaised 18 = .ok (.iconst (-1), 1) := by decide +kernel
theorem dX1_neverRaised_19 : decode cX1_neverRaised 19 = .ok (.ixor, 1) := by decide +kernel
theorem dX1_neverRaised_20 : decode cX1_neverRaised 20 = .ok (.iand, 1) := by decide +kernel
theorem dX1_neverRaised_21 : decode cX1_neverRaised 21 = .ok (.istore_n 1, 1) := by decide +kernel
theorem dX1_neverRaised_22 : decode cX1_neverRaised 22 = .ok (.iinc 2 1, 3) := by decide +kernel
theorem dX1_neverRaised_25 : decode cX1_neverRaised 25 = .ok (.goto (-19), 3) := by decide +kernel
theorem dX1_neverRaised_28 : decode cX1_neverRaised 28 = .ok (.iload_n 1, 1) := by decide +kernel
theorem dX1_neverRaised_29 : decode cX1_neverRaised 29 = .ok (.ireturn, 1) := by decide +kernel
theorem dX1_draftsWithPresses_0 : decode cX1_draftsWithPresses 0 = .ok (.iconst 0, 1) := by decide +kernel
theorem dX1_draftsWithPresses_1 : decode cX1_draftsWithPresses 1 = .ok (.istore_n 1, 1) := by decide +kernel
theorem dX1_draftsWithPresses_2 : decode cX1_draftsWithPresses 2 = .ok (.iconst 0, 1) := by decide +kernel
theorem dX1_draftsWithPresses_3 : decode cX1_draftsWithPresses 3 = .ok (.istore_n 2, 1) := by decide +kernel
theorem dX1_draftsWithPresses_4 : decode cX1_draftsWithPresses 4 = .ok (.iload_n 2, 1) := by decide +kernel
theorem dX1_draftsWithPresses_5 : decode cX1_draftsWithPresses 5 = .ok (.bipush 6, 2) := by decide +kernel
theorem dX1_draftsWithPresses_7 : decode cX1_draftsWithPresses 7 = .ok (.if_icmp .ge 33, 3) := by decide +kernel
theorem dX1_draftsWithPresses_10 : decode cX1_draftsWithPresses 10 = .ok (.aload_n 0, 1) := by decide +kernel
theorem dX1_draftsWithPresses_11 : decode cX1_draftsWithPresses 11 = .ok (.getfield 33, 3) := by decide +kernel
theorem dX1_draftsWithPresses_14 : decode cX1_draftsWithPresses 14 = .ok (.iload_n 2, 1) := by decide +kernel
theorem dX1_draftsWithPresses_15 : decode cX1_draftsWithPresses 15 = .ok (.aaload, 1) := by decide +kernel
theorem dX1_draftsWithPresses_16 : decode cX1_draftsWithPresses 16 = .ok (.astore_n 3, 1) := by decide +kernel
theorem dX1_draftsWithPresses_17 : decode cX1_draftsWithPresses 17 = .ok (.aload_n 3, 1) := by decide +kernel
theorem dX1_draftsWithPresses_18 : decode cX1_draftsWithPresses 18 = .ok (.ifnull 16, 3) := by decide +kernel
theorem dX1_draftsWithPresses_21 : decode cX1_draftsWithPresses 21 = .ok (.aload_n 3, 1) := by decide +kernel
theorem dX1_draftsWithPresses_22 : decode cX1_draftsWithPresses 22 = .ok (.getfield 70, 3) := by decide +kernel
theorem dX1_draftsWithPresses_25 : decode cX1_draftsWithPresses 25 = .ok (.ifCond .le 9, 3) := by decide +kernel
theorem dX1_draftsWithPresses_28 : decode cX1_draftsWithPresses 28 = .ok (.iload_n 1, 1) := by decide +kernel
theorem dX1_draftsWithPresses_29 : decode cX1_draftsWithPresses 29 = .ok (.iconst 1, 1) := by decide +kernel
theorem dX1_draftsWithPresses_30 : decode cX1_draftsWithPresses 30 = .ok (.iload_n 2, 1) := by decide +kernel
theorem dX1_draftsWithPresses_31 : decode cX1_draftsWithPresses 31 = .ok (.ishl, 1) := by decide +kernel
theorem dX1_draftsWithPresses_32 : decode cX1_draftsWithPresses 32 = .ok (.ior, 1) := by decide +kernel
theorem dX1_draftsWithPresses_33 : decode cX1_draftsWithPresses 33 = .ok (.istore_n 1, 1) := by decide +kernel
theorem dX1_draftsWithPresses_34 : decode cX1_draftsWithPresses 34 = .ok (.iinc 2 1, 3) := by decide +kernel
theorem dX1_draftsWithPresses_37 : decode cX1_draftsWithPresses 37 = .ok (.goto (-33), 3) := by decide +kernel
theorem dX1_draftsWithPresses_40 : decode cX1_draftsWithPresses 40 = .ok (.iload_n 1, 1) := by decide +kernel
theorem dX1_draftsWithPresses_41 : decode cX1_draftsWithPresses 41 = .ok (.ireturn, 1) := by decide +kernel
set_option maxRecDepth 20000 in
theorem ggX1_coloursByPlace_X6_then : GoodIn wsX1_coloursByPlace wsX6_then := goodIn_r _ [6, 7, 8, 9, 10] (by decide +kernel) (by decide +kernel)
set_option maxRecDepth 20000 in
theorem gX1_coloursByPlace_X6_then : GoodIn wsX1_coloursByPlace (va_wsS RX1 73 yX6_then wsX6_then) := goodIn_app (goodIn_of _ (by decide +kernel)) ggX1_coloursByPlace_X6_then
theorem dX1_coloursByPlace_0 : decode cX1_coloursByPlace 0 = .ok (.aload_n 0, 1) := by decide +kernel
theorem dX1_coloursByPlace_1 : decode cX1_coloursByPlace 1 = .ok (.getfield 21, 3) := by decide +kernel
theorem dX1_coloursByPlace_4 : decode cX1_coloursByPlace 4 = .ok (.aload_n 0, 1) := by decide +kernel
theorem dX1_coloursByPlace_5 : decode cX1_coloursByPlace 5 = .ok (.getfield 24, 3) := by decide +kernel
theorem dX1_coloursByPlace_8 : decode cX1_coloursByPlace 8 = .ok (.invokestatic 73, 3) := by decide +kernel
theorem dX1_coloursByPlace_11 : decode cX1_coloursByPlace 11 = .ok (.lreturn, 1) := by decide +kernel
set_option maxRecDepth 20000 in
theorem ggX1_wayOf_X1_draftAt : GoodIn wsX1_wayOf wsX1_draftAt := goodIn_r _ [7, 8, 9, 10, 11, 57, 58, 59, 60, 61, 62, 63] (by decide +kernel) (by decide +kernel)
set_option maxRecDepth 20000 in
theorem gX1_wayOf_X1_draftAt : GoodIn wsX1_wayOf (wsV RX1 79 RX1 yX1_draftAt wsX1_draftAt) := goodIn_app (goodIn_of _ (by decide +kernel)) ggX1_wayOf_X1_draftAt
set_option maxRecDepth 20000 in
theorem ggX1_wayOf_X0_pressAt : GoodIn wsX1_wayOf wsX0_pressAt := goodIn_r _ [16, 17, 9, 10, 11, 55, 56] (by decide +kernel) (by decide +kernel)
set_option maxRecDepth 20000 in
theorem gX1_wayOf_X0_pressAt : GoodIn wsX1_wayOf (wsV RX1 83 RX0 yX0_pressAt wsX0_pressAt) := goodIn_app (goodIn_of _ (by decide +kernel)) ggX1_wayOf_X0_pressAt
set_option maxRecDepth 20000 in
theorem ggX1_wayOf_X1_wayOfPress : GoodIn wsX1_wayOf wsX1_wayOfPress := goodIn_r _ [21, 22, 23, 24, 6, 25, 26, 27, 9, 10, 11, 28, 29, 30, 31, 32, 33, 34, 35, 36, 37, 38, 39, 40, 41, 42, 43, 44, 45, 46, 47, 48, 49, 50, 57, 58, 59, 60, 61, 62, 63] (by decide +kernel) (by decide +kernel)
set_option maxRecDepth 20000 in
theorem gX1_wayOf_X1_wayOfPress : GoodIn wsX1_wayOf (wsV RX1 86 RX1 yX1_wayOfPress wsX1_wayOfPress) := goodIn_app (goodIn_of _ (by decide +kernel)) ggX1_wayOf_X1_wayOfPress
set_option maxRecDepth 20000 in
theorem ggX1_wayOf_X6_then : GoodIn wsX1_wayOf wsX6_then := goodIn_r _ [53, 54, 29, 30, 31] (by decide +kernel) (by decide +kernel)
set_option maxRecDepth 20000 in
theorem gX1_wayOf_X6_then : GoodIn wsX1_wayOf (va_wsS RX1 73 yX6_then wsX6_then) := goodIn_app (goodIn_of _ (by decide +kernel)) ggX1_wayOf_X6_then
theorem dX1_wayOf_0 : decode cX1_wayOf 0 = .ok (.aload_n 0, 1) := by decide +kernel
theorem dX1_wayOf_1 : decode cX1_wayOf 1 = .ok (.iload_n 1, 1) := by decide +kernel
theorem dX1_wayOf_2 : decode cX1_wayOf 2 = .ok (.invokevirtual 79, 3) := by decide +kernel
theorem dX1_wayOf_5 : decode cX1_wayOf 5 = .ok (.astore_n 2, 1) := by decide +kernel
theorem dX1_wayOf_6 : decode cX1_wayOf 6 = .ok (.aload_n 2, 1) := by decide +kernel
theorem dX1_wayOf_7 : decode cX1_wayOf 7 = .ok (.ifnonnull 7, 3) := by decide +kernel
theorem dX1_wayOf_10 : decode cX1_wayOf 10 = .ok (.ldc2_w 19, 3) := by decide +kernel
theorem dX1_wayOf_13 : decode cX1_wayOf 13 = .ok (.lreturn, 1) := by decide +kernel
theorem dX1_wayOf_14 : decode cX1_wayOf 14 = .ok (.ldc2_w 19, 3) := by decide +kernel
theorem dX1_wayOf_17 : decode cX1_wayOf 17 = .ok (.lstore_n 3, 1) := by decide +kernel
theorem dX1_wayOf_18 : decode cX1_wayOf 18 = .ok (.iconst 0, 1) := by decide +kernel
theorem dX1_wayOf_19 : decode cX1_wayOf 19 = .ok (.istore 5, 2) := by decide +kernel
theorem dX1_wayOf_21 : decode cX1_wayOf 21 = .ok (.iload 5, 2) := by decide +kernel
theorem dX1_wayOf_23 : decode cX1_wayOf 23 = .ok (.aload_n 2, 1) := by decide +kernel
theorem dX1_wayOf_24 : decode cX1_wayOf 24 = .ok (.getfield 70, 3) := by decide +kernel
theorem dX1_wayOf_27 : decode cX1_wayOf 27 = .ok (.if_icmp .ge 24, 3) := by decide +kernel
theorem dX1_wayOf_30 : decode cX1_wayOf 30 = .ok (.lload_n 3, 1) := by decide +kernel
theorem dX1_wayOf_31 : decode cX1_wayOf 31 = .ok (.aload_n 0, 1) := by decide +kernel
theorem dX1_wayOf_32 : decode cX1_wayOf 32 = .ok (.aload_n 2, 1) := by decide +kernel
theorem dX1_wayOf_33 : decode cX1_wayOf 33 = .ok (.iload 5, 2) := by decide +kernel
theorem dX1_wayOf_35 : decode cX1_wayOf 35 = .ok (.invokevirtual 83, 3) := by decide +kernel
theorem dX1_wayOf_38 : decode cX1_wayOf 38 = .ok (.invokevirtual 86, 3) := by decide +kernel
theorem dX1_wayOf_41 : decode cX1_wayOf 41 = .ok (.invokestatic 73, 3) := by decide +kernel
theorem dX1_wayOf_44 : decode cX1_wayOf 44 = .ok (.lstore_n 3, 1) := by decide +kernel
theorem dX1_wayOf_45 : decode cX1_wayOf 45 = .ok (.iinc 5 1, 3) := by decide +kernel
theorem dX1_wayOf_48 : decode cX1_wayOf 48 = .ok (.goto (-27), 3) := by decide +kernel
theorem dX1_wayOf_51 : decode cX1_wayOf 51 = .ok (.lload_n 3, 1) := by decide +kernel
theorem dX1_wayOf_52 : decode cX1_wayOf 52 = .ok (.lreturn, 1) := by decide +kernel
set_option maxRecDepth 20000 in
theorem ggX1_wayOfPress_X1_raisedBy : GoodIn wsX1_wayOfPress wsX1_raisedBy := goodIn_r _ [5, 6, 7, 8, 9, 10, 11, 12, 13, 14, 15, 16, 34, 35, 36, 37, 38, 39, 40] (by decide +kernel) (by decide +kernel)
set_option maxRecDepth 20000 in
theorem gX1_wayOfPress_X1_raisedBy : GoodIn wsX1_wayOfPress (wsV RX1 66 RX1 yX1_raisedBy wsX1_raisedBy) := goodIn_app (goodIn_of _ (by decide +kernel)) ggX1_wayOfPress_X1_raisedBy
set_option maxRecDepth 20000 in
theorem ggX1_wayOfPress_X6_round : GoodIn wsX1_wayOfPress wsX6_round := goodIn_r _ [20, 21, 15, 9, 16, 22, 23, 13, 24, 25, 26] (by decide +kernel) (by decide +kernel)
set_option maxRecDepth 20000 in
theorem gX1_wayOfPress_X6_round : GoodIn wsX1_wayOfPress (va_wsS RX1 90 yX6_round wsX6_round) := goodIn_app (goodIn_of _ (by decide +kernel)) ggX1_wayOfPress_X6_round
set_option maxRecDepth 20000 in
theorem ggX1_wayOfPress_X6_back : GoodIn wsX1_wayOfPress wsX6_back := goodIn_r _ [29, 21, 30, 31, 13, 32, 33, 12, 14] (by decide +kernel) (by decide +kernel)
set_option maxRecDepth 20000 in
theorem gX1_wayOfPress_X6_back : GoodIn wsX1_wayOfPress (va_wsS RX1 93 yX6_back wsX6_back) := goodIn_app (goodIn_of _ (by decide +kernel)) ggX1_wayOfPress_X6_back
theorem dX1_wayOfPress_0 : decode cX1_wayOfPress 0 = .ok (.aload_n 0, 1) := by decide +kernel
theorem dX1_wayOfPress_1 : decode cX1_wayOfPress 1 = .ok (.iload_n 1, 1) := by decide +kernel
theorem dX1_wayOfPress_2 : decode cX1_wayOfPress 2 = .ok (.bipush 6, 2) := by decide +kernel
theorem dX1_wayOfPress_4 : decode cX1_wayOfPress 4 = .ok (.irem, 1) := by decide +kernel
theorem dX1_wayOfPress_5 : decode cX1_wayOfPress 5 = .ok (.invokevirtual 66, 3) := by decide +kernel
theorem dX1_wayOfPress_8 : decode cX1_wayOfPress 8 = .ok (.invokestatic 90, 3) := by decide +kernel
theorem dX1_wayOfPress_11 : decode cX1_wayOfPress 11 = .ok (.lstore_n 2, 1) := by decide +kernel
theorem dX1_wayOfPress_12 : decode cX1_wayOfPress 12 = .ok (.iload_n 1, 1) := by decide +kernel
theorem dX1_wayOfPress_13 : decode cX1_wayOfPress 13 = .ok (.bipush 6, 2) := by decide +kernel
theorem dX1_wayOfPress_15 : decode cX1_wayOfPress 15 = .ok (.if_icmp .ge 7, 3) := by decide +kernel
theorem dX1_wayOfPress_18 : decode cX1_wayOfPress 18 = .ok (.lload_n 2, 1) := by decide +kernel
theorem dX1_wayOfPress_19 : decode cX1_wayOfPress 19 = .ok (.goto 7, 3) := by decide +kernel
theorem dX1_wayOfPress_22 : decode cX1_wayOfPress 22 = .ok (.lload_n 2, 1) := by decide +kernel
theorem dX1_wayOfPress_23 : decode cX1_wayOfPress 23 = .ok (.invokestatic 93, 3) := by decide +kernel
theorem dX1_wayOfPress_26 : decode cX1_wayOfPress 26 = .ok (.lreturn, 1) := by decide +kernel
theorem dX2_init_0 : decode cX2_init 0 = .ok (.aload_n 0, 1) := by decide +kernel
theorem dX2_init_1 : decode cX2_init 1 = .ok (.invokespecial 3, 3) := by decide +kernel
theorem dX2_init_4 : decode cX2_init 4 = .ok (.aload_n 0, 1) := by decide +kernel
theorem dX2_init_5 : decode cX2_init 5 = .ok (.bipush 40, 2) := by decide +kernel
theorem dX2_init_7 : decode cX2_init 7 = .ok (.newarray .char, 2) := by decide +kernel
theorem dX2_init_9 : decode cX2_init 9 = .ok (.putfield 9, 3) := by decide +kernel
theorem dX2_init_12 : decode cX2_init 12 = .ok (.aload_n 0, 1) := by decide +kernel
theorem dX2_init_13 : decode cX2_init 13 = .ok (.iconst 0, 1) := by decide +kernel
theorem dX2_init_14 : decode cX2_init 14 = .ok (.putfield 15, 3) := by decide +kernel
theorem dX2_init_17 : decode cX2_init 17 = .ok (.return_, 1) := by decide +kernel
theorem dX2_signsIn_0 : decode cX2_signsIn 0 = .ok (.iconst 0, 1) := by decide +kernel
theorem dX2_signsIn_1 : decode cX2_signsIn 1 = .ok (.istore_n 2, 1) := by decide +kernel
theorem dX2_signsIn_2 : decode cX2_signsIn 2 = .ok (.lload_n 0, 1) := by decide +kernel
theorem dX2_signsIn_3 : decode cX2_signsIn 3 = .ok (.lstore_n 3, 1) := by decide +kernel
theorem dX2_signsIn_4 : decode cX2_signsIn 4 = .ok (.iload_n 2, 1) := by decide +kernel
theorem dX2_signsIn_5 : decode cX2_signsIn 5 = .ok (.bipush 8, 2) := by decide +kernel
theorem dX2_signsIn_7 : decode cX2_signsIn 7 = .ok (.if_icmp .ge 51, 3) := by decide +kernel
theorem dX2_signsIn_10 : decode cX2_signsIn 10 = .ok (.lload_n 3, 1) := by decide +kernel
theorem dX2_signsIn_11 : decode cX2_signsIn 11 = .ok (.ldc2_w 19, 3) := by decide +kernel
theorem dX2_signsIn_14 : decode cX2_signsIn 14 = .ok (.land, 1) := by decide +kernel
theorem dX2_signsIn_15 : decode cX2_signsIn 15 = .ok (.lconst 0, 1) := by decide +kernel
theorem dX2_signsIn_16 : decode cX2_signsIn 16 = .ok (.lcmp, 1) := by decide +kernel
theorem dX2_signsIn_17 : decode cX2_signsIn 17 = .ok (.ifCond .eq 41, 3) := by decide +kernel
theorem dX2_signsIn_20 : decode cX2_signsIn 20 = .ok (.lload_n 3, 1) := by decide +kernel
theorem dX2_signsIn_21 : decode cX2_signsIn 21 = .ok (.ldc2_w 19, 3) := by decide +kernel
theorem dX2_signsIn_24 : decode cX2_signsIn 24 = .ok (.land, 1) := by decide +kernel
theorem dX2_signsIn_25 : decode cX2_signsIn 25 = .ok (.lstore 5, 2) := by decide +kernel
theorem dX2_signsIn_27 : decode cX2_signsIn 27 = .ok (.lload 5, 2) := by decide +kernel
theorem dX2_signsIn_29 : decode cX2_signsIn 29 = .ok (.ldc2_w 21, 3) := by decide +kernel
theorem dX2_signsIn_32 : decode cX2_signsIn 32 = .ok (.lcmp, 1) := by decide +kernel
theorem dX2_signsIn_33 : decode cX2_signsIn 33 = .ok (.ifCond .lt 12, 3) := by decide +kernel
theorem dX2_signsIn_36 : decode cX2_signsIn 36 = .ok (.lload 5, 2) := by decide +kernel
theorem dX2_signsIn_38 : decode cX2_signsIn 38 = .ok (.ldc2_w 23, 3) := by decide +kernel
theorem dX2_signsIn_41 : decode cX2_signsIn 41 = .ok (.lcmp, 1) := by decide +kernel
theorem dX2_signsIn_42 : decode cX2_signsIn 42 = .ok (.ifCond .le 5, 3) := by decide +kernel
theorem dX2_signsIn_45 : decode cX2_signsIn 45 = .ok (.iconst 0, 1) := by decide +kernel
theorem dX2_signsIn_46 : decode cX2_signsIn 46 = .ok (.ireturn, 1) := by decide +kernel
theorem dX2_signsIn_47 : decode cX2_signsIn 47 = .ok (.lload_n 3, 1) := by decide +kernel
theorem dX2_signsIn_48 : decode cX2_signsIn 48 = .ok (.bipush 8, 2) := by decide +kernel
theorem dX2_signsIn_50 : decode cX2_signsIn 50 = .ok (.lushr, 1) := by decide +kernel
theorem dX2_signsIn_51 : decode cX2_signsIn 51 = .ok (.lstore_n 3, 1) := by decide +kernel
theorem dX2_signsIn_52 : decode cX2_signsIn 52 = .ok (.iinc 2 1, 3) := by decide +kernel
theorem dX2_signsIn_55 : decode cX2_signsIn 55 = .ok (.goto (-51), 3) := by decide +kernel
theorem dX2_signsIn_58 : decode cX2_signsIn 58 = .ok (.lload_n 3, 1) := by decide +kernel
theorem dX2_signsIn_59 : decode cX2_signsIn 59 = .ok (.lconst 0, 1) := by decide +kernel
theorem dX2_signsIn_60 : decode cX2_signsIn 60 = .ok (.lcmp, 1) := by decide +kernel
theorem dX2_signsIn_61 : decode cX2_signsIn 61 = .ok (.ifCond .ne 7, 3) := by decide +kernel
theorem dX2_signsIn_64 : decode cX2_signsIn 64 = .ok (.iload_n 2, 1) := by decide +kernel
theorem dX2_signsIn_65 : decode cX2_signsIn 65 = .ok (.goto 4, 3) := by decide +kernel
theorem dX2_signsIn_68 : decode cX2_signsIn 68 = .ok (.iconst 0, 1) := by decide +kernel
theorem dX2_signsIn_69 : decode cX2_signsIn 69 = .ok (.ireturn, 1) := by decide +kernel
set_option maxRecDepth 20000 in
theorem ggX2_append_X7_isBelow : GoodIn wsX2_append wsX7_isBelow := goodIn_r _ [6] (by decide +kernel) (by decide +kernel)
set_option maxRecDepth 20000 in
theorem gX2_append_X7_isBelow_n25 : GoodIn wsX2_append (wsX7_isBelow) := ggX2_append_X7_isBelow
theorem dX2_append_0 : decode cX2_append 0 = .ok (.iload_n 3, 1) := by decide +kernel
theorem dX2_append_1 : decode cX2_append 1 = .ok (.iconst 1, 1) := by decide +kernel
theorem dX2_append_2 : decode cX2_append 2 = .ok (.isub, 1) := by decide +kernel
theorem dX2_append_3 : decode cX2_append 3 = .ok (.istore 4, 2) := by decide +kernel
theorem dX2_append_5 : decode cX2_append 5 = .ok (.iload 4, 2) := by decide +kernel
theorem dX2_append_7 : decode cX2_append 7 = .ok (.ifCond .lt 54, 3) := by decide +kernel
theorem dX2_append_10 : decode cX2_append 10 = .ok (.aload_n 0, 1) := by decide +kernel
theorem dX2_append_11 : decode cX2_append 11 = .ok (.getfield 15, 3) := by decide +kernel
theorem dX2_append_14 : decode cX2_append 14 = .ok (.bipush 40, 2) := by decide +kernel
theorem dX2_append_16 : decode cX2_append 16 = .ok (.invokestatic 25, 3) := by decide +kernel
theorem dX2_append_19 : decode cX2_append 19 = .ok (.ifCond .ne 4, 3) := by decide +kernel
theorem dX2_append_22 : decode cX2_append 22 = .ok (.return_, 1) := by decide +kernel
theorem dX2_append_23 : decode cX2_append 23 = .ok (.aload_n 0, 1) := by decide +kernel
theorem dX2_append_24 : decode cX2_append 24 = .ok (.getfield 9, 3) := by decide +kernel
theorem dX2_append_27 : decode cX2_append 27 = .ok (.aload_n 0, 1) := by decide +kernel
theorem dX2_append_28 : decode cX2_append 28 = .ok (.getfield 15, 3) := by decide +kernel
theorem dX2_append_31 : decode cX2_append 31 = .ok (.lload_n 1, 1) := by decide +kernel
theorem dX2_append_32 : decode cX2_append 32 = .ok (.bipush 8, 2) := by decide +kernel
theorem dX2_append_34 : decode cX2_append 34 = .ok (.iload 4, 2) := by decide +kernel
theorem dX2_append_36 : decode cX2_append 36 = .ok (.imul, 1) := by decide +kernel
theorem dX2_append_37 : decode cX2_append 37 = .ok (.lushr, 1) := by decide +kernel
theorem dX2_append_38 : decode cX2_append 38 = .ok (.ldc2_w 19, 3) := by decide +kernel
theorem dX2_append_41 : decode cX2_append 41 = .ok (.land, 1) := by decide +kernel
theorem dX2_append_42 : decode cX2_append 42 = .ok (.l2i, 1) := by decide +kernel
theorem dX2_append_43 : decode cX2_append 43 = .ok (.i2c, 1) := by decide +kernel
theorem dX2_append_44 : decode cX2_append 44 = .ok (.castore, 1) := by decide +kernel
theorem dX2_append_45 : decode cX2_append 45 = .ok (.aload_n 0, 1) := by decide +kernel
theorem dX2_append_46 : decode cX2_append 46 = .ok (.dup, 1) := by decide +kernel
theorem dX2_append_47 : decode cX2_append 47 = .ok (.getfield 15, 3) := by decide +kernel
theorem dX2_append_50 : decode cX2_append 50 = .ok (.iconst 1, 1) := by decide +kernel
theorem dX2_append_51 : decode cX2_append 51 = .ok (.iadd, 1) := by decide +kernel
theorem dX2_append_52 : decode cX2_append 52 = .ok (.putfield 15, 3) := by decide +kernel
theorem dX2_append_55 : decode cX2_append 55 = .ok (.iinc 4 (-1), 3) := by decide +kernel
theorem dX2_append_58 : decode cX2_append 58 = .ok (.goto (-53), 3) := by decide +kernel
theorem dX2_append_61 : decode cX2_append 61 = .ok (.return_, 1) := by decide +kernel
set_option maxRecDepth 20000 in
theorem ggX2_layOut_X2_pressOf : GoodIn wsX2_layOut wsX2_pressOf := goodIn_r _ [7] (by decide +kernel) (by decide +kernel)
set_option maxRecDepth 20000 in
theorem gX2_layOut_X2_pressOf : GoodIn wsX2_layOut (va_wsS RX2 32 yX2_pressOf wsX2_pressOf) := goodIn_app (goodIn_of _ (by decide +kernel)) ggX2_layOut_X2_pressOf
set_option maxRecDepth 20000 in
theorem ggX2_layOut_X2_timesOf : GoodIn wsX2_layOut wsX2_timesOf := goodIn_r _ [10] (by decide +kernel) (by decide +kernel)
set_option maxRecDepth 20000 in
theorem gX2_layOut_X2_timesOf : GoodIn wsX2_layOut (va_wsS RX2 36 yX2_timesOf wsX2_timesOf) := goodIn_app (goodIn_of _ (by decide +kernel)) ggX2_layOut_X2_timesOf
set_option maxRecDepth 20000 in
theorem ggX2_layOut_X0_add : GoodIn wsX2_layOut wsX0_add := goodIn_r _ [15, 16, 17, 18, 19, 20, 21, 22] (by decide +kernel) (by decide +kernel)
set_option maxRecDepth 20000 in
theorem gX2_layOut_X0_add : GoodIn wsX2_layOut (wsV RX2 39 RX0 yX0_add wsX0_add) := goodIn_app (goodIn_of _ (by decide +kernel)) ggX2_layOut_X0_add
theorem dX2_layOut_0 : decode cX2_layOut 0 = .ok (.aload_n 1, 1) := by decide +kernel
theorem dX2_layOut_1 : decode cX2_layOut 1 = .ok (.iconst 0, 1) := by decide +kernel
theorem dX2_layOut_2 : decode cX2_layOut 2 = .ok (.putfield 29, 3) := by decide +kernel
theorem dX2_layOut_5 : decode cX2_layOut 5 = .ok (.iconst (-1), 1) := by decide +kernel
theorem dX2_layOut_6 : decode cX2_layOut 6 = .ok (.istore_n 2, 1) := by decide +kernel
theorem dX2_layOut_7 : decode cX2_layOut 7 = .ok (.iconst 0, 1) := by decide +kernel
theorem dX2_layOut_8 : decode cX2_layOut 8 = .ok (.istore_n 3, 1) := by decide +kernel
theorem dX2_layOut_9 : decode cX2_layOut 9 = .ok (.iload_n 3, 1) := by decide +kernel
theorem dX2_layOut_10 : decode cX2_layOut 10 = .ok (.aload_n 0, 1) := by decide +kernel
theorem dX2_layOut_11 : decode cX2_layOut 11 = .ok (.getfield 15, 3) := by decide +kernel
theorem dX2_layOut_14 : decode cX2_layOut 14 = .ok (.if_icmp .ge 123, 3) := by decide +kernel
theorem dX2_layOut_17 : decode cX2_layOut 17 = .ok (.iload_n 3, 1) := by decide +kernel
theorem dX2_layOut_18 : decode cX2_layOut 18 = .ok (.bipush 40, 2) := by decide +kernel
theorem dX2_layOut_20 : decode cX2_layOut 20 = .ok (.if_icmp .ge 117, 3) := by decide +kernel
theorem dX2_layOut_23 : decode cX2_layOut 23 = .ok (.aload_n 0, 1) := by decide +kernel
theorem dX2_layOut_24 : decode cX2_layOut 24 = .ok (.getfield 9, 3) := by decide +kernel
theorem dX2_layOut_27 : decode cX2_layOut 27 = .ok (.iload_n 3, 1) := by decide +kernel
theorem dX2_layOut_28 : decode cX2_layOut 28 = .ok (.caload, 1) := by decide +kernel
theorem dX2_layOut_29 : decode cX2_layOut 29 = .ok (.invokestatic 32, 3) := by decide +kernel
theorem dX2_layOut_32 : decode cX2_layOut 32 = .ok (.istore 4, 2) := by decide +kernel
theorem dX2_layOut_34 : decode cX2_layOut 34 = .ok (.iload 4, 2) := by decide +kernel
theorem dX2_layOut_36 : decode cX2_layOut 36 = .ok (.ifCond .lt 7, 3) := by decide +kernel
theorem dX2_layOut_39 : decode cX2_layOut 39 = .ok (.iconst 1, 1) := by decide +kernel
theorem dX2_layOut_40 : decode cX2_layOut 40 = .ok (.goto 4, 3) := by decide +kernel
theorem dX2_layOut_43 : decode cX2_layOut 43 = .ok (.iconst 0, 1) := by decide +kernel
theorem dX2_layOut_44 : decode cX2_layOut 44 = .ok (.istore 5, 2) := by decide +kernel
theorem dX2_layOut_46 : decode cX2_layOut 46 = .ok (.iload 5, 2) := by decide +kernel
theorem dX2_layOut_48 : decode cX2_layOut 48 = .ok (.ifCond .eq 8, 3) := by decide +kernel
theorem dX2_layOut_51 : decode cX2_layOut 51 = .ok (.iload 4, 2) := by decide +kernel
theorem dX2_layOut_53 : decode cX2_layOut 53 = .ok (.goto 4, 3) := by decide +kernel
theorem dX2_layOut_56 : decode cX2_layOut 56 = .ok (.iload_n 2, 1) := by decide +kernel
theorem dX2_layOut_57 : decode cX2_layOut 57 = .ok (.istore 6, 2) := by decide +kernel
theorem dX2_layOut_59 : decode cX2_layOut 59 = .ok (.iload 5, 2) := by decide +kernel
theorem dX2_layOut_61 : decode cX2_layOut 61 = .ok (.ifCond .eq 7, 3) := by decide +kernel
theorem dX2_layOut_64 : decode cX2_layOut 64 = .ok (.iconst 1, 1) := by decide +kernel
theorem dX2_layOut_65 : decode cX2_layOut 65 = .ok (.goto 14, 3) := by decide +kernel
theorem dX2_layOut_68 : decode cX2_layOut 68 = .ok (.aload_n 0, 1) := by decide +kernel
theorem dX2_layOut_69 : decode cX2_layOut 69 = .ok (.getfield 9, 3) := by decide +kernel
theorem dX2_layOut_72 : decode cX2_layOut 72 = .ok (.iload_n 3, 1) := by decide +kernel
theorem dX2_layOut_73 : decode cX2_layOut 73 = .ok (.caload, 1) := by decide +kernel
theorem dX2_layOut_74 : decode cX2_layOut 74 = .ok (.invokestatic 36, 3) := by decide +kernel
theorem dX2_layOut_77 : decode cX2_layOut 77 = .ok (.iconst 1, 1) := by decide +kernel
theorem dX2_layOut_78 : decode cX2_layOut 78 = .ok (.isub, 1) := by decide +kernel
theorem dX2_layOut_79 : decode cX2_layOut 79 = .ok (.istore 7, 2) := by decide +kernel
theorem dX2_layOut_81 : decode cX2_layOut 81 = .ok (.iload 6, 2) := by decide +kernel
theorem dX2_layOut_83 : decode cX2_layOut 83 = .ok (.ifCond .lt 21, 3) := by decide +kernel
theorem dX2_layOut_86 : decode cX2_layOut 86 = .ok (.iload 7, 2) := by decide +kernel
theorem dX2_layOut_88 : decode cX2_layOut 88 = .ok (.iconst 1, 1) := by decide +kernel
theorem dX2_layOut_89 : decode cX2_layOut 89 = .ok (.if_icmp .lt 15, 3) := by decide +kernel
theorem dX2_layOut_92 : decode cX2_layOut 92 = .ok (.aload_n 1, 1) := by decide +kernel
theorem dX2_layOut_93 : decode cX2_layOut 93 = .ok (.getfield 29, 3) := by decide +kernel
theorem dX2_layOut_96 : decode cX2_layOut 96 = .ok (.iload 7, 2) := by decide +kernel
theorem dX2_layOut_98 : decode cX2_layOut 98 = .ok (.iadd, 1) := by decide +kernel
theorem dX2_layOut_99 : decode cX2_layOut 99 = .ok (.bipush 24, 2) := by decide +kernel
theorem dX2_layOut_101 : decode cX2_layOut 101 = .ok (.if_icmp .le 5, 3) := by decide +kernel
theorem dX2_layOut_104 : decode cX2_layOut 104 = .ok (.iload_n 3, 1) := by decide +kernel
theorem dX2_layOut_105 : decode cX2_layOut 105 = .ok (.ireturn, 1) := by decide +kernel
theorem dX2_layOut_106 : decode cX2_layOut 106 = .ok (.iconst 0, 1) := by decide +kernel
theorem dX2_layOut_107 : decode cX2_layOut 107 = .ok (.istore 8, 2) := by decide +kernel
theorem dX2_layOut_109 : decode cX2_layOut 109 = .ok (.iload 8, 2) := by decide +kernel
theorem dX2_layOut_111 : decode cX2_layOut 111 = .ok (.iload 7, 2) := by decide +kernel
theorem dX2_layOut_113 : decode cX2_layOut 113 = .ok (.if_icmp .ge 15, 3) := by decide +kernel
theorem dX2_layOut_116 : decode cX2_layOut 116 = .ok (.aload_n 1, 1) := by decide +kernel
theorem dX2_layOut_117 : decode cX2_layOut 117 = .ok (.iload 6, 2) := by decide +kernel
theorem dX2_layOut_119 : decode cX2_layOut 119 = .ok (.invokevirtual 39, 3) := by decide +kernel
theorem dX2_layOut_122 : decode cX2_layOut 122 = .ok (.iinc 8 1, 3) := by decide +kernel
theorem dX2_layOut_125 : decode cX2_layOut 125 = .ok (.goto (-16), 3) := by decide +kernel
theorem dX2_layOut_128 : decode cX2_layOut 128 = .ok (.iload 4, 2) := by decide +kernel
theorem dX2_layOut_130 : decode cX2_layOut 130 = .ok (.istore_n 2, 1) := by decide +kernel
theorem dX2_layOut_131 : decode cX2_layOut 131 = .ok (.iinc 3 1, 3) := by decide +kernel
theorem dX2_layOut_134 : decode cX2_layOut 134 = .ok (.goto (-125), 3) := by decide +kernel
theorem dX2_layOut_137 : decode cX2_layOut 137 = .ok (.aload_n 0, 1) := by decide +kernel
theorem dX2_layOut_138 : decode cX2_layOut 138 = .ok (.getfield 15, 3) := by decide +kernel
theorem dX2_layOut_141 : decode cX2_layOut 141 = .ok (.ifCond .ne 7, 3) := by decide +kernel
theorem dX2_layOut_144 : decode cX2_layOut 144 = .ok (.iconst 0, 1) := by decide +kernel
theorem dX2_layOut_145 : decode cX2_layOut 145 = .ok (.goto 5, 3) := by decide +kernel
theorem dX2_layOut_148 : decode cX2_layOut 148 = .ok (.bipush (-6), 2) := by decide +kernel
theorem dX2_layOut_150 : decode cX2_layOut 150 = .ok (.ireturn, 1) := by decide +kernel
theorem dX2_pressOf_0 : decode cX2_pressOf 0 = .ok (.iload_n 0, 1) := by decide +kernel
theorem dX2_pressOf_1 : decode cX2_pressOf 1 = .ok (.bipush 97, 2) := by decide +kernel
theorem dX2_pressOf_3 : decode cX2_pressOf 3 = .ok (.if_icmp .lt 14, 3) := by decide +kernel
theorem dX2_pressOf_6 : decode cX2_pressOf 6 = .ok (.iload_n 0, 1) := by decide +kernel
theorem dX2_pressOf_7 : decode cX2_pressOf 7 = .ok (.bipush 102, 2) := by decide +kernel
theorem dX2_pressOf_9 : decode cX2_pressOf 9 = .ok (.if_icmp .gt 8, 3) := by decide +kernel
theorem dX2_pressOf_12 : decode cX2_pressOf 12 = .ok (.iload_n 0, 1) := by decide +kernel
theorem dX2_pressOf_13 : decode cX2_pressOf 13 = .ok (.bipush 97, 2) := by decide +kernel
theorem dX2_pressOf_15 : decode cX2_pressOf 15 = .ok (.isub, 1) := by decide +kernel
theorem dX2_pressOf_16 : decode cX2_pressOf 16 = .ok (.ireturn, 1) := by decide +kernel
theorem dX2_pressOf_17 : decode cX2_pressOf 17 = .ok (.iload_n 0, 1) := by decide +kernel
theorem dX2_pressOf_18 : decode cX2_pressOf 18 = .ok (.bipush 65, 2) := by decide +kernel
theorem dX2_pressOf_20 : decode cX2_pressOf 20 = .ok (.if_icmp .lt 17, 3) := by decide +kernel
theorem dX2_pressOf_23 : decode cX2_pressOf 23 = .ok (.iload_n 0, 1) := by decide +kernel
theorem dX2_pressOf_24 : decode cX2_pressOf 24 = .ok (.bipush 70, 2) := by decide +kernel
theorem dX2_pressOf_26 : decode cX2_pressOf 26 = .ok (.if_icmp .gt 11, 3) := by decide +kernel
theorem dX2_pressOf_29 : decode cX2_pressOf 29 = .ok (.iload_n 0, 1) := by decide +kernel
theorem dX2_pressOf_30 : decode cX2_pressOf 30 = .ok (.bipush 65, 2) := by decide +kernel
theorem dX2_pressOf_32 : decode cX2_pressOf 32 = .ok (.isub, 1) := by decide +kernel
theorem dX2_pressOf_33 : decode cX2_pressOf 33 = .ok (.bipush 6, 2) := by decide +kernel
theorem dX2_pressOf_35 : decode cX2_pressOf 35 = .ok (.iadd, 1) := by decide +kernel
theorem dX2_pressOf_36 : decode cX2_pressOf 36 = .ok (.ireturn, 1) := by decide +kernel
theorem dX2_pressOf_37 : decode cX2_pressOf 37 = .ok (.iconst (-1), 1) := by decide +kernel
theorem dX2_pressOf_38 : decode cX2_pressOf 38 = .ok (.ireturn, 1) := by decide +kernel
theorem dX2_timesOf_0 : decode cX2_timesOf 0 = .ok (.iload_n 0, 1) := by decide +kernel
theorem dX2_timesOf_1 : decode cX2_timesOf 1 = .ok (.bipush 50, 2) := by decide +kernel
theorem dX2_timesOf_3 : decode cX2_timesOf 3 = .ok (.if_icmp .lt 16, 3) := by decide +kernel
theorem dX2_timesOf_6 : decode cX2_timesOf 6 = .ok (.iload_n 0, 1) := by decide +kernel
theorem dX2_timesOf_7 : decode cX2_timesOf 7 = .ok (.bipush 57, 2) := by decide +kernel
theorem dX2_timesOf_9 : decode cX2_timesOf 9 = .ok (.if_icmp .gt 10, 3) := by decide +kernel
theorem dX2_timesOf_12 : decode cX2_timesOf 12 = .ok (.iload_n 0, 1) := by decide +kernel
theorem dX2_timesOf_13 : decode cX2_timesOf 13 = .ok (.bipush 48, 2) := by decide +kernel
theorem dX2_timesOf_15 : decode cX2_timesOf 15 = .ok (.isub, 1) := by decide +kernel
theorem dX2_timesOf_16 : decode cX2_timesOf 16 = .ok (.goto 4, 3) := by decide +kernel
theorem dX2_timesOf_19 : decode cX2_timesOf 19 = .ok (.iconst 0, 1) := by decide +kernel
theorem dX2_timesOf_20 : decode cX2_timesOf 20 = .ok (.ireturn, 1) := by decide +kernel
theorem dX3_init_0 : decode cX3_init 0 = .ok (.aload_n 0, 1) := by decide +kernel
theorem dX3_init_1 : decode cX3_init 1 = .ok (.invokespecial 3, 3) := by decide +kernel
theorem dX3_init_4 : decode cX3_init 4 = .ok (.aload_n 0, 1) := by decide +kernel
theorem dX3_init_5 : decode cX3_init 5 = .ok (.bipush 6, 2) := by decide +kernel
theorem dX3_init_7 : decode cX3_init 7 = .ok (.anewarray 9, 3) := by decide +kernel
theorem dX3_init_10 : decode cX3_init 10 = .ok (.putfield 11, 3) := by decide +kernel
theorem dX3_init_13 : decode cX3_init 13 = .ok (.aload_n 0, 1) := by decide +kernel
theorem dX3_init_14 : decode cX3_init 14 = .ok (.iconst 0, 1) := by decide +kernel
theorem dX3_init_15 : decode cX3_init 15 = .ok (.putfield 17, 3) := by decide +kernel
theorem dX3_init_18 : decode cX3_init 18 = .ok (.return_, 1) := by decide +kernel
set_option maxRecDepth 20000 in
theorem ggX3_keep_X3_dropOldest : GoodIn wsX3_keep wsX3_dropOldest := goodIn_r _ [10, 2, 1, 51, 52] (by decide +kernel) (by decide +kernel)
set_option maxRecDepth 20000 in
theorem gX3_keep_X3_dropOldest : GoodIn wsX3_keep (wsV RX3 21 RX3 yX3_dropOldest wsX3_dropOldest) := goodIn_app (goodIn_of _ (by decide +kernel)) ggX3_keep_X3_dropOldest
set_option maxRecDepth 20000 in
theorem ggX3_keep_X7_isBelow : GoodIn wsX3_keep wsX7_isBelow := goodIn_r _ [13] (by decide +kernel) (by decide +kernel)
set_option maxRecDepth 20000 in
theorem gX3_keep_X7_isBelow_n24 : GoodIn wsX3_keep (wsX7_isBelow) := ggX3_keep_X7_isBelow
set_option maxRecDepth 20000 in
theorem ggX3_keep_X1_init : GoodIn wsX3_keep wsX1_init := goodIn_r _ [16, 17, 18, 19, 20, 21, 22, 23, 24, 25, 26, 27, 28, 29, 30, 31, 32, 33, 34, 35, 36, 37, 53, 54, 55, 56, 57, 58, 59, 60, 61] (by decide +kernel) (by decide +kernel)
set_option maxRecDepth 20000 in
theorem gX3_keep_X1_init : GoodIn wsX3_keep (wsX1_init) := ggX3_keep_X1_init
set_option maxRecDepth 20000 in
theorem ggX3_keep_X1_copyFrom : GoodIn wsX3_keep wsX1_copyFrom := goodIn_r _ [41, 21, 23, 24, 26, 42, 43, 44, 45, 28, 29, 30, 46, 47, 48, 32, 49, 36, 50, 37, 53, 54, 55, 56, 57, 58, 59, 60, 61] (by decide +kernel) (by decide +kernel)
set_option maxRecDepth 20000 in
theorem gX3_keep_X1_copyFrom : GoodIn wsX3_keep (wsV RX3 29 RX1 yX1_copyFrom wsX1_copyFrom) := goodIn_app (goodIn_of _ (by decide +kernel)) ggX3_keep_X1_copyFrom
theorem dX3_keep_0 : decode cX3_keep 0 = .ok (.aload_n 0, 1) := by decide +kernel
theorem dX3_keep_1 : decode cX3_keep 1 = .ok (.getfield 17, 3) := by decide +kernel
theorem dX3_keep_4 : decode cX3_keep 4 = .ok (.bipush 6, 2) := by decide +kernel
theorem dX3_keep_6 : decode cX3_keep 6 = .ok (.if_icmp .lt 7, 3) := by decide +kernel
theorem dX3_keep_9 : decode cX3_keep 9 = .ok (.aload_n 0, 1) := by decide +kernel
theorem dX3_keep_10 : decode cX3_keep 10 = .ok (.invokevirtual 21, 3) := by decide +kernel
theorem dX3_keep_13 : decode cX3_keep 13 = .ok (.aload_n 0, 1) := by decide +kernel
theorem dX3_keep_14 : decode cX3_keep 14 = .ok (.getfield 17, 3) := by decide +kernel
theorem dX3_keep_17 : decode cX3_keep 17 = .ok (.bipush 6, 2) := by decide +kernel
theorem dX3_keep_19 : decode cX3_keep 19 = .ok (.invokestatic 24, 3) := by decide +kernel
theorem dX3_keep_22 : decode cX3_keep 22 = .ok (.ifCond .ne 4, 3) := by decide +kernel
theorem dX3_keep_25 : decode cX3_keep 25 = .ok (.return_, 1) := by decide +kernel
theorem dX3_keep_26 : decode cX3_keep 26 = .ok (.aload_n 0, 1) := by decide +kernel
theorem dX3_keep_27 : decode cX3_keep 27 = .ok (.getfield 11, 3) := by decide +kernel
theorem dX3_keep_30 : decode cX3_keep 30 = .ok (.aload_n 0, 1) := by decide +kernel
theorem dX3_keep_31 : decode cX3_keep 31 = .ok (.getfield 17, 3) := by decide +kernel
theorem dX3_keep_34 : decode cX3_keep 34 = .ok (.aaload, 1) := by decide +kernel
theorem dX3_keep_35 : decode cX3_keep 35 = .ok (.astore_n 2, 1) := by decide +kernel
theorem dX3_keep_36 : decode cX3_keep 36 = .ok (.aload_n 2, 1) := by decide +kernel
theorem dX3_keep_37 : decode cX3_keep 37 = .ok (.ifnonnull 11, 3) := by decide +kernel
theorem dX3_keep_40 : decode cX3_keep 40 = .ok (.new 9, 3) := by decide +kernel
theorem dX3_keep_43 : decode cX3_keep 43 = .ok (.dup, 1) := by decide +kernel
theorem dX3_keep_44 : decode cX3_keep 44 = .ok (.invokespecial 28, 3) := by decide +kernel
theorem dX3_keep_47 : decode cX3_keep 47 = .ok (.astore_n 2, 1) := by decide +kernel
theorem dX3_keep_48 : decode cX3_keep 48 = .ok (.aload_n 2, 1) := by decide +kernel
theorem dX3_keep_49 : decode cX3_keep 49 = .ok (.aload_n 1, 1) := by decide +kernel
theorem dX3_keep_50 : decode cX3_keep 50 = .ok (.invokevirtual 29, 3) := by decide +kernel
theorem dX3_keep_53 : decode cX3_keep 53 = .ok (.aload_n 0, 1) := by decide +kernel
theorem dX3_keep_54 : decode cX3_keep 54 = .ok (.getfield 11, 3) := by decide +kernel
theorem dX3_keep_57 : decode cX3_keep 57 = .ok (.aload_n 0, 1) := by decide +kernel
theorem dX3_keep_58 : decode cX3_keep 58 = .ok (.getfield 17, 3) := by decide +kernel
theorem dX3_keep_61 : decode cX3_keep 61 = .ok (.aload_n 2, 1) := by decide +kernel
theorem dX3_keep_62 : decode cX3_keep 62 = .ok (.aastore, 1) := by decide +kernel
theorem dX3_keep_63 : decode cX3_keep 63 = .ok (.aload_n 0, 1) := by decide +kernel
theorem dX3_keep_64 : decode cX3_keep 64 = .ok (.dup, 1) := by decide +kernel
theorem dX3_keep_65 : decode cX3_keep 65 = .ok (.getfield 17, 3) := by decide +kernel
theorem dX3_keep_68 : decode cX3_keep 68 = .ok (.iconst 1, 1) := by decide +kernel
theorem dX3_keep_69 : decode cX3_keep 69 = .ok (.iadd, 1) := by decide +kernel
theorem dX3_keep_70 : decode cX3_keep 70 = .ok (.putfield 17, 3) := by decide +kernel
theorem dX3_keep_73 : decode cX3_keep 73 = .ok (.return_, 1) := by decide +kernel
set_option maxRecDepth 20000 in
theorem ggX3_giveBack_X7_isBelow : GoodIn wsX3_giveBack wsX7_isBelow := goodIn_r _ [5] (by decide +kernel) (by decide +kernel)
set_option maxRecDepth 20000 in
theorem gX3_giveBack_X7_isBelow_n24 : GoodIn wsX3_giveBack (wsX7_isBelow) := ggX3_giveBack_X7_isBelow
set_option maxRecDepth 20000 in
theorem ggX3_giveBack_X1_copyFrom : GoodIn wsX3_giveBack wsX1_copyFrom := goodIn_r _ [10, 11, 12, 13, 14, 15, 16, 17, 18, 19, 20, 21, 22, 23, 24, 25, 26, 27, 28, 29, 32, 33, 34, 35, 36, 37, 38, 39, 40] (by decide +kernel) (by decide +kernel)
set_option maxRecDepth 20000 in
theorem gX3_giveBack_X1_copyFrom : GoodIn wsX3_giveBack (wsV RX3 29 RX1 yX1_copyFrom wsX1_copyFrom) := goodIn_app (goodIn_of _ (by decide +kernel)) ggX3_giveBack_X1_copyFrom
theorem dX3_giveBack_0 : decode cX3_giveBack 0 = .ok (.aload_n 0, 1) := by decide +kernel
theorem dX3_giveBack_1 : decode cX3_giveBack 1 = .ok (.getfield 17, 3) := by decide +kernel
theorem dX3_giveBack_4 : decode cX3_giveBack 4 = .ok (.iconst 1, 1) := by decide +kernel
theorem dX3_giveBack_5 : decode cX3_giveBack 5 = .ok (.isub, 1) := by decide +kernel
theorem dX3_giveBack_6 : decode cX3_giveBack 6 = .ok (.bipush 6, 2) := by decide +kernel
theorem dX3_giveBack_8 : decode cX3_giveBack 8 = .ok (.invokestatic 24, 3) := by decide +kernel
theorem dX3_giveBack_11 : decode cX3_giveBack 11 = .ok (.ifCond .ne 4, 3) := by decide +kernel
theorem dX3_giveBack_14 : decode cX3_giveBack 14 = .ok (.return_, 1) := by decide +kernel
theorem dX3_giveBack_15 : decode cX3_giveBack 15 = .ok (.aload_n 0, 1) := by decide +kernel
theorem dX3_giveBack_16 : decode cX3_giveBack 16 = .ok (.dup, 1) := by decide +kernel
theorem dX3_giveBack_17 : decode cX3_giveBack 17 = .ok (.getfield 17, 3) := by decide +kernel
theorem dX3_giveBack_20 : decode cX3_giveBack 20 = .ok (.iconst 1, 1) := by decide +kernel
theorem dX3_giveBack_21 : decode cX3_giveBack 21 = .ok (.isub, 1) := by decide +kernel
theorem dX3_giveBack_22 : decode cX3_giveBack 22 = .ok (.putfield 17, 3) := by decide +kernel
theorem dX3_giveBack_25 : decode cX3_giveBack 25 = .ok (.aload_n 0, 1) := by decide +kernel
theorem dX3_giveBack_26 : decode cX3_giveBack 26 = .ok (.getfield 11, 3) := by decide +kernel
theorem dX3_giveBack_29 : decode cX3_giveBack 29 = .ok (.aload_n 0, 1) := by decide +kernel
theorem dX3_giveBack_30 : decode cX3_giveBack 30 = .ok (.getfield 17, 3) := by decide +kernel
theorem dX3_giveBack_33 : decode cX3_giveBack 33 = .ok (.aaload, 1) := by decide +kernel
theorem dX3_giveBack_34 : decode cX3_giveBack 34 = .ok (.astore_n 2, 1) := by decide +kernel
theorem dX3_giveBack_35 : decode cX3_giveBack 35 = .ok (.aload_n 2, 1) := by decide +kernel
theorem dX3_giveBack_36 : decode cX3_giveBack 36 = .ok (.ifnull 8, 3) := by decide +kernel
theorem dX3_giveBack_39 : decode cX3_giveBack 39 = .ok (.aload_n 1, 1) := by decide +kernel
theorem dX3_giveBack_40 : decode cX3_giveBack 40 = .ok (.aload_n 2, 1) := by decide +kernel
theorem dX3_giveBack_41 : decode cX3_giveBack 41 = .ok (.invokevirtual 29, 3) := by decide +kernel
theorem dX3_giveBack_44 : decode cX3_giveBack 44 = .ok (.return_, 1) := by decide +kernel
theorem dX3_dropOldest_0 : decode cX3_dropOldest 0 = .ok (.aload_n 0, 1) := by decide +kernel
theorem dX3_dropOldest_1 : decode cX3_dropOldest 1 = .ok (.getfield 11, 3) := by decide +kernel
theorem dX3_dropOldest_4 : decode cX3_dropOldest 4 = .ok (.iconst 0, 1) := by decide +kernel
theorem dX3_dropOldest_5 : decode cX3_dropOldest 5 = .ok (.aaload, 1) := by decide +kernel
theorem dX3_dropOldest_6 : decode cX3_dropOldest 6 = .ok (.astore_n 1, 1) := by decide +kernel
theorem dX3_dropOldest_7 : decode cX3_dropOldest 7 = .ok (.iconst 1, 1) := by decide +kernel
theorem dX3_dropOldest_8 : decode cX3_dropOldest 8 = .ok (.istore_n 2, 1) := by decide +kernel
theorem dX3_dropOldest_9 : decode cX3_dropOldest 9 = .ok (.iload_n 2, 1) := by decide +kernel
theorem dX3_dropOldest_10 : decode cX3_dropOldest 10 = .ok (.bipush 6, 2) := by decide +kernel
theorem dX3_dropOldest_12 : decode cX3_dropOldest 12 = .ok (.if_icmp .ge 23, 3) := by decide +kernel
theorem dX3_dropOldest_15 : decode cX3_dropOldest 15 = .ok (.aload_n 0, 1) := by decide +kernel
theorem dX3_dropOldest_16 : decode cX3_dropOldest 16 = .ok (.getfield 11, 3) := by decide +kernel
theorem dX3_dropOldest_19 : decode cX3_dropOldest 19 = .ok (.iload_n 2, 1) := by decide +kernel
theorem dX3_dropOldest_20 : decode cX3_dropOldest 20 = .ok (.iconst 1, 1) := by decide +kernel
theorem dX3_dropOldest_21 : decode cX3_dropOldest 21 = .ok (.isub, 1) := by decide +kernel
theorem dX3_dropOldest_22 : decode cX3_dropOldest 22 = .ok (.aload_n 0, 1) := by decide +kernel
theorem dX3_dropOldest_23 : decode cX3_dropOldest 23 = .ok (.getfield 11, 3) := by decide +kernel
theorem dX3_dropOldest_26 : decode cX3_dropOldest 26 = .ok (.iload_n 2, 1) := by decide +kernel
theorem dX3_dropOldest_27 : decode cX3_dropOldest 27 = .ok (.aaload, 1) := by decide +kernel
theorem dX3_dropOldest_28 : decode cX3_dropOldest 28 = .ok (.aastore, 1) := by decide +kernel
theorem dX3_dropOldest_29 : decode cX3_dropOldest 29 = .ok (.iinc 2 1, 3) := by decide +kernel
theorem dX3_dropOldest_32 : decode cX3_dropOldest 32 = .ok (.goto (-23), 3) := by decide +kernel
theorem dX3_dropOldest_35 : decode cX3_dropOldest 35 = .ok (.aload_n 0, 1) := by decide +kernel
theorem dX3_dropOldest_36 : decode cX3_dropOldest 36 = .ok (.getfield 11, 3) := by decide +kernel
theorem dX3_dropOldest_39 : decode cX3_dropOldest 39 = .ok (.iconst 5, 1) := by decide +kernel
theorem dX3_dropOldest_40 : decode cX3_dropOldest 40 = .ok (.aload_n 1, 1) := by decide +kernel
theorem dX3_dropOldest_41 : decode cX3_dropOldest 41 = .ok (.aastore, 1) := by decide +kernel
theorem dX3_dropOldest_42 : decode cX3_dropOldest 42 = .ok (.aload_n 0, 1) := by decide +kernel
theorem dX3_dropOldest_43 : decode cX3_dropOldest 43 = .ok (.iconst 5, 1) := by decide +kernel
theorem dX3_dropOldest_44 : decode cX3_dropOldest 44 = .ok (.putfield 17, 3) := by decide +kernel
theorem dX3_dropOldest_47 : decode cX3_dropOldest 47 = .ok (.return_, 1) := by decide +kernel
theorem dX4_at_0 : decode cX4_at 0 = .ok (.lload_n 0, 1) := by decide +kernel
theorem dX4_at_1 : decode cX4_at 1 = .ok (.iconst 4, 1) := by decide +kernel
theorem dX4_at_2 : decode cX4_at 2 = .ok (.iload_n 2, 1) := by decide +kernel
theorem dX4_at_3 : decode cX4_at 3 = .ok (.imul, 1) := by decide +kernel
theorem dX4_at_4 : decode cX4_at 4 = .ok (.lushr, 1) := by decide +kernel
theorem dX4_at_5 : decode cX4_at 5 = .ok (.l2i, 1) := by decide +kernel
theorem dX4_at_6 : decode cX4_at 6 = .ok (.bipush 15, 2) := by decide +kernel
theorem dX4_at_8 : decode cX4_at 8 = .ok (.iand, 1) := by decide +kernel
theorem dX4_at_9 : decode cX4_at 9 = .ok (.ireturn, 1) := by decide +kernel
theorem dX4_with_0 : decode cX4_with 0 = .ok (.lload_n 0, 1) := by decide +kernel
theorem dX4_with_1 : decode cX4_with 1 = .ok (.ldc2_w 9, 3) := by decide +kernel
theorem dX4_with_4 : decode cX4_with 4 = .ok (.iconst 4, 1) := by decide +kernel
theorem dX4_with_5 : decode cX4_with 5 = .ok (.iload_n 2, 1) := by decide +kernel
theorem dX4_with_6 : decode cX4_with 6 = .ok (.imul, 1) := by decide +kernel
theorem dX4_with_7 : decode cX4_with 7 = .ok (.lshl, 1) := by decide +kernel
theorem dX4_with_8 : decode cX4_with 8 = .ok (.ldc2_w 11, 3) := by decide +kernel
theorem dX4_with_11 : decode cX4_with 11 = .ok (.lxor, 1) := by decide +kernel
theorem dX4_with_12 : decode cX4_with 12 = .ok (.land, 1) := by decide +kernel
theorem dX4_with_13 : decode cX4_with 13 = .ok (.iload_n 3, 1) := by decide +kernel
theorem dX4_with_14 : decode cX4_with 14 = .ok (.i2l, 1) := by decide +kernel
theorem dX4_with_15 : decode cX4_with 15 = .ok (.iconst 4, 1) := by decide +kernel
theorem dX4_with_16 : decode cX4_with 16 = .ok (.iload_n 2, 1) := by decide +kernel
theorem dX4_with_17 : decode cX4_with 17 = .ok (.imul, 1) := by decide +kernel
theorem dX4_with_18 : decode cX4_with 18 = .ok (.lshl, 1) := by decide +kernel
theorem dX4_with_19 : decode cX4_with 19 = .ok (.lor, 1) := by decide +kernel
theorem dX4_with_20 : decode cX4_with 20 = .ok (.lreturn, 1) := by decide +kernel
set_option maxRecDepth 20000 in
theorem ggX4_moved_X4_at : GoodIn wsX4_moved wsX4_at := goodIn_r _ [4] (by decide +kernel) (by decide +kernel)
set_option maxRecDepth 20000 in
theorem gX4_moved_X4_at : GoodIn wsX4_moved (va_wsS RX4 13 yX4_at wsX4_at) := goodIn_app (goodIn_of _ (by decide +kernel)) ggX4_moved_X4_at
theorem dX4_moved_0 : decode cX4_moved 0 = .ok (.lconst 0, 1) := by decide +kernel
theorem dX4_moved_1 : decode cX4_moved 1 = .ok (.lstore 4, 2) := by decide +kernel
theorem dX4_moved_3 : decode cX4_moved 3 = .ok (.iconst 0, 1) := by decide +kernel
theorem dX4_moved_4 : decode cX4_moved 4 = .ok (.istore 6, 2) := by decide +kernel
theorem dX4_moved_6 : decode cX4_moved 6 = .ok (.iload 6, 2) := by decide +kernel
theorem dX4_moved_8 : decode cX4_moved 8 = .ok (.bipush 12, 2) := by decide +kernel
theorem dX4_moved_10 : decode cX4_moved 10 = .ok (.if_icmp .ge 30, 3) := by decide +kernel
theorem dX4_moved_13 : decode cX4_moved 13 = .ok (.lload 4, 2) := by decide +kernel
theorem dX4_moved_15 : decode cX4_moved 15 = .ok (.lload_n 0, 1) := by decide +kernel
theorem dX4_moved_16 : decode cX4_moved 16 = .ok (.iload 6, 2) := by decide +kernel
theorem dX4_moved_18 : decode cX4_moved 18 = .ok (.invokestatic 13, 3) := by decide +kernel
theorem dX4_moved_21 : decode cX4_moved 21 = .ok (.i2l, 1) := by decide +kernel
theorem dX4_moved_22 : decode cX4_moved 22 = .ok (.iconst 4, 1) := by decide +kernel
theorem dX4_moved_23 : decode cX4_moved 23 = .ok (.lload_n 2, 1) := by decide +kernel
theorem dX4_moved_24 : decode cX4_moved 24 = .ok (.iload 6, 2) := by decide +kernel
theorem dX4_moved_26 : decode cX4_moved 26 = .ok (.invokestatic 13, 3) := by decide +kernel
theorem dX4_moved_29 : decode cX4_moved 29 = .ok (.imul, 1) := by decide +kernel
theorem dX4_moved_30 : decode cX4_moved 30 = .ok (.lshl, 1) := by decide +kernel
theorem dX4_moved_31 : decode cX4_moved 31 = .ok (.lor, 1) := by decide +kernel
theorem dX4_moved_32 : decode cX4_moved 32 = .ok (.lstore 4, 2) := by decide +kernel
theorem dX4_moved_34 : decode cX4_moved 34 = .ok (.iinc 6 1, 3) := by decide +kernel
theorem dX4_moved_37 : decode cX4_moved 37 = .ok (.goto (-31), 3) := by decide +kernel
theorem dX4_moved_40 : decode cX4_moved 40 = .ok (.lload 4, 2) := by decide +kernel
theorem dX4_moved_42 : decode cX4_moved 42 = .ok (.lreturn, 1) := by decide +kernel
theorem dX5_init_0 : decode cX5_init 0 = .ok (.aload_n 0, 1) := by decide +kernel
theorem dX5_init_1 : decode cX5_init 1 = .ok (.invokespecial 3, 3) := by decide +kernel
theorem dX5_init_4 : decode cX5_init 4 = .ok (.aload_n 0, 1) := by decide +kernel
theorem dX5_init_5 : decode cX5_init 5 = .ok (.bipush 6, 2) := by decide +kernel
theorem dX5_init_7 : decode cX5_init 7 = .ok (.newarray .long, 2) := by decide +kernel
theorem dX5_init_9 : decode cX5_init 9 = .ok (.putfield 9, 3) := by decide +kernel
theorem dX5_init_12 : decode cX5_init 12 = .ok (.aload_n 0, 1) := by decide +kernel
theorem dX5_init_13 : decode cX5_init 13 = .ok (.iconst 0, 1) := by decide +kernel
theorem dX5_init_14 : decode cX5_init 14 = .ok (.putfield 15, 3) := by decide +kernel
theorem dX5_init_17 : decode cX5_init 17 = .ok (.aload_n 0, 1) := by decide +kernel
theorem dX5_init_18 : decode cX5_init 18 = .ok (.sipush 301, 3) := by decide +kernel
theorem dX5_init_21 : decode cX5_init 21 = .ok (.newarray .long, 2) := by decide +kernel
theorem dX5_init_23 : decode cX5_init 23 = .ok (.putfield 19, 3) := by decide +kernel
theorem dX5_init_26 : decode cX5_init 26 = .ok (.aload_n 0, 1) := by decide +kernel
theorem dX5_init_27 : decode cX5_init 27 = .ok (.iconst 0, 1) := by decide +kernel
theorem dX5_init_28 : decode cX5_init 28 = .ok (.putfield 22, 3) := by decide +kernel
theorem dX5_init_31 : decode cX5_init 31 = .ok (.aload_n 0, 1) := by decide +kernel
theorem dX5_init_32 : decode cX5_init 32 = .ok (.sipush 1024, 3) := by decide +kernel
theorem dX5_init_35 : decode cX5_init 35 = .ok (.newarray .long, 2) := by decide +kernel
theorem dX5_init_37 : decode cX5_init 37 = .ok (.putfield 25, 3) := by decide +kernel
theorem dX5_init_40 : decode cX5_init 40 = .ok (.return_, 1) := by decide +kernel
set_option maxRecDepth 20000 in
theorem ggX5_addMaker_X7_isBelow : GoodIn wsX5_addMaker wsX7_isBelow := goodIn_r _ [5] (by decide +kernel) (by decide +kernel)
set_option maxRecDepth 20000 in
theorem gX5_addMaker_X7_isBelow_n28 : GoodIn wsX5_addMaker (wsX7_isBelow) := ggX5_addMaker_X7_isBelow
theorem dX5_addMaker_0 : decode cX5_addMaker 0 = .ok (.aload_n 0, 1) := by decide +kernel
theorem dX5_addMaker_1 : decode cX5_addMaker 1 = .ok (.getfield 15, 3) := by decide +kernel
theorem dX5_addMaker_4 : decode cX5_addMaker 4 = .ok (.bipush 6, 2) := by decide +kernel
theorem dX5_addMaker_6 : decode cX5_addMaker 6 = .ok (.invokestatic 28, 3) := by decide +kernel
theorem dX5_addMaker_9 : decode cX5_addMaker 9 = .ok (.ifCond .ne 4, 3) := by decide +kernel
theorem dX5_addMaker_12 : decode cX5_addMaker 12 = .ok (.return_, 1) := by decide +kernel
end
section
theorem dX5_addMaker_13 : decode cX5_addMaker 13 = .ok (.aload_n 0, 1) := by decide +kernel
theorem dX5_addMaker_14 : decode cX5_addMaker 14 = .ok (.getfield 9, 3) := by decide +kernel
theorem dX5_addMaker_17 : decode cX5_addMaker 17 = .ok (.aload_n 0, 1) := by decide +kernel
theorem dX5_addMaker_18 : decode cX5_addMaker 18 = .ok (.getfield 15, 3) := by decide +kernel
theorem dX5_addMaker_21 : decode cX5_addMaker 21 = .ok (.lload_n 1, 1) := by decide +kernel
theorem dX5_addMaker_22 : decode cX5_addMaker 22 = .ok (.lastore, 1) := by decide +kernel
theorem dX5_addMaker_23 : decode cX5_addMaker 23 = .ok (.aload_n 0, 1) := by decide +kernel
theorem dX5_addMaker_24 : decode cX5_addMaker 24 = .ok (.dup, 1) := by decide +kernel
theorem dX5_addMaker_25 : decode cX5_addMaker 25 = .ok (.getfield 15, 3) := by decide +kernel
theorem dX5_addMaker_28 : decode cX5_addMaker 28 = .ok (.iconst 1, 1) := by decide +kernel
theorem dX5_addMaker_29 : decode cX5_addMaker 29 = .ok (.iadd, 1) := by decide +kernel
theorem dX5_addMaker_30 : decode cX5_addMaker 30 = .ok (.putfield 15, 3) := by decide +kernel
theorem dX5_addMaker_33 : decode cX5_addMaker 33 = .ok (.return_, 1) := by decide +kernel
set_option maxRecDepth 20000 in
theorem ggX5_placesFrom_X5_broughtTo : GoodIn wsX5_placesFrom wsX5_broughtTo := goodIn_r _ [6, 7, 8, 9, 10, 11, 12, 13] (by decide +kernel) (by decide +kernel)
set_option maxRecDepth 20000 in
theorem gX5_placesFrom_X5_broughtTo : GoodIn wsX5_placesFrom (va_wsS RX5 32 yX5_broughtTo wsX5_broughtTo) := goodIn_app (goodIn_of _ (by decide +kernel)) ggX5_placesFrom_X5_broughtTo
theorem dX5_placesFrom_0 : decode cX5_placesFrom 0 = .ok (.iconst 1, 1) := by decide +kernel
theorem dX5_placesFrom_1 : decode cX5_placesFrom 1 = .ok (.iload_n 1, 1) := by decide +kernel
theorem dX5_placesFrom_2 : decode cX5_placesFrom 2 = .ok (.ishl, 1) := by decide +kernel
theorem dX5_placesFrom_3 : decode cX5_placesFrom 3 = .ok (.istore_n 2, 1) := by decide +kernel
theorem dX5_placesFrom_4 : decode cX5_placesFrom 4 = .ok (.iconst 0, 1) := by decide +kernel
theorem dX5_placesFrom_5 : decode cX5_placesFrom 5 = .ok (.istore_n 3, 1) := by decide +kernel
theorem dX5_placesFrom_6 : decode cX5_placesFrom 6 = .ok (.iload_n 3, 1) := by decide +kernel
theorem dX5_placesFrom_7 : decode cX5_placesFrom 7 = .ok (.bipush 12, 2) := by decide +kernel
theorem dX5_placesFrom_9 : decode cX5_placesFrom 9 = .ok (.if_icmp .ge 48, 3) := by decide +kernel
theorem dX5_placesFrom_12 : decode cX5_placesFrom 12 = .ok (.iconst 0, 1) := by decide +kernel
theorem dX5_placesFrom_13 : decode cX5_placesFrom 13 = .ok (.istore 4, 2) := by decide +kernel
theorem dX5_placesFrom_15 : decode cX5_placesFrom 15 = .ok (.iload 4, 2) := by decide +kernel
theorem dX5_placesFrom_17 : decode cX5_placesFrom 17 = .ok (.aload_n 0, 1) := by decide +kernel
theorem dX5_placesFrom_18 : decode cX5_placesFrom 18 = .ok (.getfield 15, 3) := by decide +kernel
theorem dX5_placesFrom_21 : decode cX5_placesFrom 21 = .ok (.if_icmp .ge 30, 3) := by decide +kernel
theorem dX5_placesFrom_24 : decode cX5_placesFrom 24 = .ok (.iload 4, 2) := by decide +kernel
theorem dX5_placesFrom_26 : decode cX5_placesFrom 26 = .ok (.bipush 6, 2) := by decide +kernel
theorem dX5_placesFrom_28 : decode cX5_placesFrom 28 = .ok (.if_icmp .ge 23, 3) := by decide +kernel
theorem dX5_placesFrom_31 : decode cX5_placesFrom 31 = .ok (.iload_n 2, 1) := by decide +kernel
theorem dX5_placesFrom_32 : decode cX5_placesFrom 32 = .ok (.aload_n 0, 1) := by decide +kernel
theorem dX5_placesFrom_33 : decode cX5_placesFrom 33 = .ok (.getfield 9, 3) := by decide +kernel
theorem dX5_placesFrom_36 : decode cX5_placesFrom 36 = .ok (.iload 4, 2) := by decide +kernel
theorem dX5_placesFrom_38 : decode cX5_placesFrom 38 = .ok (.laload, 1) := by decide +kernel
theorem dX5_placesFrom_39 : decode cX5_placesFrom 39 = .ok (.iload_n 2, 1) := by decide +kernel
theorem dX5_placesFrom_40 : decode cX5_placesFrom 40 = .ok (.invokestatic 32, 3) := by decide +kernel
theorem dX5_placesFrom_43 : decode cX5_placesFrom 43 = .ok (.ior, 1) := by decide +kernel
theorem dX5_placesFrom_44 : decode cX5_placesFrom 44 = .ok (.istore_n 2, 1) := by decide +kernel
theorem dX5_placesFrom_45 : decode cX5_placesFrom 45 = .ok (.iinc 4 1, 3) := by decide +kernel
theorem dX5_placesFrom_48 : decode cX5_placesFrom 48 = .ok (.goto (-33), 3) := by decide +kernel
theorem dX5_placesFrom_51 : decode cX5_placesFrom 51 = .ok (.iinc 3 1, 3) := by decide +kernel
theorem dX5_placesFrom_54 : decode cX5_placesFrom 54 = .ok (.goto (-48), 3) := by decide +kernel
theorem dX5_placesFrom_57 : decode cX5_placesFrom 57 = .ok (.iload_n 2, 1) := by decide +kernel
theorem dX5_placesFrom_58 : decode cX5_placesFrom 58 = .ok (.ireturn, 1) := by decide +kernel
set_option maxRecDepth 20000 in
theorem ggX5_allWays_X5_note : GoodIn wsX5_allWays wsX5_note := goodIn_r _ [11, 2, 12, 1, 5, 13, 14, 15, 24, 25, 26, 27, 28] (by decide +kernel) (by decide +kernel)
set_option maxRecDepth 20000 in
theorem gX5_allWays_X5_note : GoodIn wsX5_allWays (wsV RX5 40 RX5 yX5_note wsX5_note) := goodIn_app (goodIn_of _ (by decide +kernel)) ggX5_allWays_X5_note
set_option maxRecDepth 20000 in
theorem ggX5_allWays_X6_then : GoodIn wsX5_allWays wsX6_then := goodIn_r _ [19, 20, 21, 22, 23] (by decide +kernel) (by decide +kernel)
set_option maxRecDepth 20000 in
theorem gX5_allWays_X6_then : GoodIn wsX5_allWays (va_wsS RX5 44 yX6_then wsX6_then) := goodIn_app (goodIn_of _ (by decide +kernel)) ggX5_allWays_X6_then
theorem dX5_allWays_0 : decode cX5_allWays 0 = .ok (.iconst 0, 1) := by decide +kernel
theorem dX5_allWays_1 : decode cX5_allWays 1 = .ok (.istore_n 1, 1) := by decide +kernel
theorem dX5_allWays_2 : decode cX5_allWays 2 = .ok (.iload_n 1, 1) := by decide +kernel
theorem dX5_allWays_3 : decode cX5_allWays 3 = .ok (.sipush 1024, 3) := by decide +kernel
theorem dX5_allWays_6 : decode cX5_allWays 6 = .ok (.if_icmp .ge 16, 3) := by decide +kernel
theorem dX5_allWays_9 : decode cX5_allWays 9 = .ok (.aload_n 0, 1) := by decide +kernel
theorem dX5_allWays_10 : decode cX5_allWays 10 = .ok (.getfield 25, 3) := by decide +kernel
theorem dX5_allWays_13 : decode cX5_allWays 13 = .ok (.iload_n 1, 1) := by decide +kernel
theorem dX5_allWays_14 : decode cX5_allWays 14 = .ok (.lconst 0, 1) := by decide +kernel
theorem dX5_allWays_15 : decode cX5_allWays 15 = .ok (.lastore, 1) := by decide +kernel
theorem dX5_allWays_16 : decode cX5_allWays 16 = .ok (.iinc 1 1, 3) := by decide +kernel
theorem dX5_allWays_19 : decode cX5_allWays 19 = .ok (.goto (-17), 3) := by decide +kernel
theorem dX5_allWays_22 : decode cX5_allWays 22 = .ok (.aload_n 0, 1) := by decide +kernel
theorem dX5_allWays_23 : decode cX5_allWays 23 = .ok (.iconst 0, 1) := by decide +kernel
theorem dX5_allWays_24 : decode cX5_allWays 24 = .ok (.putfield 22, 3) := by decide +kernel
theorem dX5_allWays_27 : decode cX5_allWays 27 = .ok (.aload_n 0, 1) := by decide +kernel
theorem dX5_allWays_28 : decode cX5_allWays 28 = .ok (.ldc2_w 38, 3) := by decide +kernel
theorem dX5_allWays_31 : decode cX5_allWays 31 = .ok (.invokevirtual 40, 3) := by decide +kernel
theorem dX5_allWays_34 : decode cX5_allWays 34 = .ok (.iconst 0, 1) := by decide +kernel
theorem dX5_allWays_35 : decode cX5_allWays 35 = .ok (.istore_n 1, 1) := by decide +kernel
theorem dX5_allWays_36 : decode cX5_allWays 36 = .ok (.iload_n 1, 1) := by decide +kernel
theorem dX5_allWays_37 : decode cX5_allWays 37 = .ok (.sipush 300, 3) := by decide +kernel
theorem dX5_allWays_40 : decode cX5_allWays 40 = .ok (.if_icmp .ge 71, 3) := by decide +kernel
theorem dX5_allWays_43 : decode cX5_allWays 43 = .ok (.iload_n 1, 1) := by decide +kernel
theorem dX5_allWays_44 : decode cX5_allWays 44 = .ok (.aload_n 0, 1) := by decide +kernel
theorem dX5_allWays_45 : decode cX5_allWays 45 = .ok (.getfield 22, 3) := by decide +kernel
theorem dX5_allWays_48 : decode cX5_allWays 48 = .ok (.if_icmp .ge 63, 3) := by decide +kernel
theorem dX5_allWays_51 : decode cX5_allWays 51 = .ok (.iconst 0, 1) := by decide +kernel
theorem dX5_allWays_52 : decode cX5_allWays 52 = .ok (.istore_n 2, 1) := by decide +kernel
theorem dX5_allWays_53 : decode cX5_allWays 53 = .ok (.iload_n 2, 1) := by decide +kernel
theorem dX5_allWays_54 : decode cX5_allWays 54 = .ok (.aload_n 0, 1) := by decide +kernel
theorem dX5_allWays_55 : decode cX5_allWays 55 = .ok (.getfield 15, 3) := by decide +kernel
theorem dX5_allWays_58 : decode cX5_allWays 58 = .ok (.if_icmp .ge 34, 3) := by decide +kernel
theorem dX5_allWays_61 : decode cX5_allWays 61 = .ok (.iload_n 2, 1) := by decide +kernel
theorem dX5_allWays_62 : decode cX5_allWays 62 = .ok (.bipush 6, 2) := by decide +kernel
theorem dX5_allWays_64 : decode cX5_allWays 64 = .ok (.if_icmp .ge 28, 3) := by decide +kernel
theorem dX5_allWays_67 : decode cX5_allWays 67 = .ok (.aload_n 0, 1) := by decide +kernel
theorem dX5_allWays_68 : decode cX5_allWays 68 = .ok (.aload_n 0, 1) := by decide +kernel
theorem dX5_allWays_69 : decode cX5_allWays 69 = .ok (.getfield 19, 3) := by decide +kernel
theorem dX5_allWays_72 : decode cX5_allWays 72 = .ok (.iload_n 1, 1) := by decide +kernel
theorem dX5_allWays_73 : decode cX5_allWays 73 = .ok (.laload, 1) := by decide +kernel
theorem dX5_allWays_74 : decode cX5_allWays 74 = .ok (.aload_n 0, 1) := by decide +kernel
theorem dX5_allWays_75 : decode cX5_allWays 75 = .ok (.getfield 9, 3) := by decide +kernel
theorem dX5_allWays_78 : decode cX5_allWays 78 = .ok (.iload_n 2, 1) := by decide +kernel
theorem dX5_allWays_79 : decode cX5_allWays 79 = .ok (.laload, 1) := by decide +kernel
theorem dX5_allWays_80 : decode cX5_allWays 80 = .ok (.invokestatic 44, 3) := by decide +kernel
theorem dX5_allWays_83 : decode cX5_allWays 83 = .ok (.invokevirtual 40, 3) := by decide +kernel
theorem dX5_allWays_86 : decode cX5_allWays 86 = .ok (.iinc 2 1, 3) := by decide +kernel
theorem dX5_allWays_89 : decode cX5_allWays 89 = .ok (.goto (-36), 3) := by decide +kernel
theorem dX5_allWays_92 : decode cX5_allWays 92 = .ok (.aload_n 0, 1) := by decide +kernel
theorem dX5_allWays_93 : decode cX5_allWays 93 = .ok (.getfield 22, 3) := by decide +kernel
theorem dX5_allWays_96 : decode cX5_allWays 96 = .ok (.sipush 300, 3) := by decide +kernel
theorem dX5_allWays_99 : decode cX5_allWays 99 = .ok (.if_icmp .le 6, 3) := by decide +kernel
theorem dX5_allWays_102 : decode cX5_allWays 102 = .ok (.bipush (-6), 2) := by decide +kernel
theorem dX5_allWays_104 : decode cX5_allWays 104 = .ok (.ireturn, 1) := by decide +kernel
theorem dX5_allWays_105 : decode cX5_allWays 105 = .ok (.iinc 1 1, 3) := by decide +kernel
theorem dX5_allWays_108 : decode cX5_allWays 108 = .ok (.goto (-72), 3) := by decide +kernel
theorem dX5_allWays_111 : decode cX5_allWays 111 = .ok (.aload_n 0, 1) := by decide +kernel
theorem dX5_allWays_112 : decode cX5_allWays 112 = .ok (.getfield 22, 3) := by decide +kernel
theorem dX5_allWays_115 : decode cX5_allWays 115 = .ok (.ireturn, 1) := by decide +kernel
set_option maxRecDepth 20000 in
theorem ggX5_broughtTo_X7_hasBit : GoodIn wsX5_broughtTo wsX7_hasBit := goodIn_r _ [3] (by decide +kernel) (by decide +kernel)
set_option maxRecDepth 20000 in
theorem gX5_broughtTo_X7_hasBit_n50 : GoodIn wsX5_broughtTo (wsX7_hasBit) := ggX5_broughtTo_X7_hasBit
set_option maxRecDepth 20000 in
theorem ggX5_broughtTo_X4_at : GoodIn wsX5_broughtTo wsX4_at := goodIn_r _ [7] (by decide +kernel) (by decide +kernel)
set_option maxRecDepth 20000 in
theorem gX5_broughtTo_X4_at : GoodIn wsX5_broughtTo (va_wsS RX5 53 yX4_at wsX4_at) := goodIn_app (goodIn_of _ (by decide +kernel)) ggX5_broughtTo_X4_at
theorem dX5_broughtTo_0 : decode cX5_broughtTo 0 = .ok (.iconst 0, 1) := by decide +kernel
theorem dX5_broughtTo_1 : decode cX5_broughtTo 1 = .ok (.istore_n 3, 1) := by decide +kernel
theorem dX5_broughtTo_2 : decode cX5_broughtTo 2 = .ok (.iconst 0, 1) := by decide +kernel
theorem dX5_broughtTo_3 : decode cX5_broughtTo 3 = .ok (.istore 4, 2) := by decide +kernel
theorem dX5_broughtTo_5 : decode cX5_broughtTo 5 = .ok (.iload 4, 2) := by decide +kernel
theorem dX5_broughtTo_7 : decode cX5_broughtTo 7 = .ok (.bipush 12, 2) := by decide +kernel
theorem dX5_broughtTo_9 : decode cX5_broughtTo 9 = .ok (.if_icmp .ge 29, 3) := by decide +kernel
theorem dX5_broughtTo_12 : decode cX5_broughtTo 12 = .ok (.iload_n 2, 1) := by decide +kernel
theorem dX5_broughtTo_13 : decode cX5_broughtTo 13 = .ok (.iload 4, 2) := by decide +kernel
theorem dX5_broughtTo_15 : decode cX5_broughtTo 15 = .ok (.invokestatic 50, 3) := by decide +kernel
theorem dX5_broughtTo_18 : decode cX5_broughtTo 18 = .ok (.ifCond .eq 14, 3) := by decide +kernel
theorem dX5_broughtTo_21 : decode cX5_broughtTo 21 = .ok (.iload_n 3, 1) := by decide +kernel
theorem dX5_broughtTo_22 : decode cX5_broughtTo 22 = .ok (.iconst 1, 1) := by decide +kernel
theorem dX5_broughtTo_23 : decode cX5_broughtTo 23 = .ok (.lload_n 0, 1) := by decide +kernel
theorem dX5_broughtTo_24 : decode cX5_broughtTo 24 = .ok (.iload 4, 2) := by decide +kernel
theorem dX5_broughtTo_26 : decode cX5_broughtTo 26 = .ok (.invokestatic 53, 3) := by decide +kernel
theorem dX5_broughtTo_29 : decode cX5_broughtTo 29 = .ok (.ishl, 1) := by decide +kernel
theorem dX5_broughtTo_30 : decode cX5_broughtTo 30 = .ok (.ior, 1) := by decide +kernel
theorem dX5_broughtTo_31 : decode cX5_broughtTo 31 = .ok (.istore_n 3, 1) := by decide +kernel
theorem dX5_broughtTo_32 : decode cX5_broughtTo 32 = .ok (.iinc 4 1, 3) := by decide +kernel
theorem dX5_broughtTo_35 : decode cX5_broughtTo 35 = .ok (.goto (-30), 3) := by decide +kernel
theorem dX5_broughtTo_38 : decode cX5_broughtTo 38 = .ok (.iload_n 3, 1) := by decide +kernel
theorem dX5_broughtTo_39 : decode cX5_broughtTo 39 = .ok (.ireturn, 1) := by decide +kernel
set_option maxRecDepth 20000 in
theorem ggX5_note_X7_isBelow : GoodIn wsX5_note wsX7_isBelow := goodIn_r _ [7] (by decide +kernel) (by decide +kernel)
set_option maxRecDepth 20000 in
theorem gX5_note_X7_isBelow_n28 : GoodIn wsX5_note (wsX7_isBelow) := ggX5_note_X7_isBelow
theorem dX5_note_0 : decode cX5_note 0 = .ok (.aload_n 0, 1) := by decide +kernel
theorem dX5_note_1 : decode cX5_note 1 = .ok (.getfield 22, 3) := by decide +kernel
theorem dX5_note_4 : decode cX5_note 4 = .ok (.sipush 301, 3) := by decide +kernel
theorem dX5_note_7 : decode cX5_note 7 = .ok (.invokestatic 28, 3) := by decide +kernel
theorem dX5_note_10 : decode cX5_note 10 = .ok (.ifCond .ne 4, 3) := by decide +kernel
theorem dX5_note_13 : decode cX5_note 13 = .ok (.return_, 1) := by decide +kernel
theorem dX5_note_14 : decode cX5_note 14 = .ok (.lload_n 1, 1) := by decide +kernel
theorem dX5_note_15 : decode cX5_note 15 = .ok (.ldc2_w 56, 3) := by decide +kernel
theorem dX5_note_18 : decode cX5_note 18 = .ok (.lmul, 1) := by decide +kernel
theorem dX5_note_19 : decode cX5_note 19 = .ok (.bipush 54, 2) := by decide +kernel
theorem dX5_note_21 : decode cX5_note 21 = .ok (.lushr, 1) := by decide +kernel
theorem dX5_note_22 : decode cX5_note 22 = .ok (.l2i, 1) := by decide +kernel
theorem dX5_note_23 : decode cX5_note 23 = .ok (.istore_n 3, 1) := by decide +kernel
theorem dX5_note_24 : decode cX5_note 24 = .ok (.iconst 0, 1) := by decide +kernel
theorem dX5_note_25 : decode cX5_note 25 = .ok (.istore 4, 2) := by decide +kernel
theorem dX5_note_27 : decode cX5_note 27 = .ok (.iload 4, 2) := by decide +kernel
theorem dX5_note_29 : decode cX5_note 29 = .ok (.sipush 1024, 3) := by decide +kernel
theorem dX5_note_32 : decode cX5_note 32 = .ok (.if_icmp .ge 71, 3) := by decide +kernel
theorem dX5_note_35 : decode cX5_note 35 = .ok (.aload_n 0, 1) := by decide +kernel
theorem dX5_note_36 : decode cX5_note 36 = .ok (.getfield 25, 3) := by decide +kernel
theorem dX5_note_39 : decode cX5_note 39 = .ok (.iload_n 3, 1) := by decide +kernel
theorem dX5_note_40 : decode cX5_note 40 = .ok (.sipush 1023, 3) := by decide +kernel
theorem dX5_note_43 : decode cX5_note 43 = .ok (.iand, 1) := by decide +kernel
theorem dX5_note_44 : decode cX5_note 44 = .ok (.laload, 1) := by decide +kernel
theorem dX5_note_45 : decode cX5_note 45 = .ok (.lstore 5, 2) := by decide +kernel
theorem dX5_note_47 : decode cX5_note 47 = .ok (.lload 5, 2) := by decide +kernel
theorem dX5_note_49 : decode cX5_note 49 = .ok (.lload_n 1, 1) := by decide +kernel
theorem dX5_note_50 : decode cX5_note 50 = .ok (.lcmp, 1) := by decide +kernel
theorem dX5_note_51 : decode cX5_note 51 = .ok (.ifCond .ne 4, 3) := by decide +kernel
theorem dX5_note_54 : decode cX5_note 54 = .ok (.return_, 1) := by decide +kernel
theorem dX5_note_55 : decode cX5_note 55 = .ok (.lload 5, 2) := by decide +kernel
theorem dX5_note_57 : decode cX5_note 57 = .ok (.lconst 0, 1) := by decide +kernel
theorem dX5_note_58 : decode cX5_note 58 = .ok (.lcmp, 1) := by decide +kernel
theorem dX5_note_59 : decode cX5_note 59 = .ok (.ifCond .ne 35, 3) := by decide +kernel
theorem dX5_note_62 : decode cX5_note 62 = .ok (.aload_n 0, 1) := by decide +kernel
theorem dX5_note_63 : decode cX5_note 63 = .ok (.getfield 25, 3) := by decide +kernel
theorem dX5_note_66 : decode cX5_note 66 = .ok (.iload_n 3, 1) := by decide +kernel
theorem dX5_note_67 : decode cX5_note 67 = .ok (.sipush 1023, 3) := by decide +kernel
theorem dX5_note_70 : decode cX5_note 70 = .ok (.iand, 1) := by decide +kernel
theorem dX5_note_71 : decode cX5_note 71 = .ok (.lload_n 1, 1) := by decide +kernel
theorem dX5_note_72 : decode cX5_note 72 = .ok (.lastore, 1) := by decide +kernel
theorem dX5_note_73 : decode cX5_note 73 = .ok (.aload_n 0, 1) := by decide +kernel
theorem dX5_note_74 : decode cX5_note 74 = .ok (.getfield 19, 3) := by decide +kernel
theorem dX5_note_77 : decode cX5_note 77 = .ok (.aload_n 0, 1) := by decide +kernel
theorem dX5_note_78 : decode cX5_note 78 = .ok (.getfield 22, 3) := by decide +kernel
theorem dX5_note_81 : decode cX5_note 81 = .ok (.lload_n 1, 1) := by decide +kernel
theorem dX5_note_82 : decode cX5_note 82 = .ok (.lastore, 1) := by decide +kernel
theorem dX5_note_83 : decode cX5_note 83 = .ok (.aload_n 0, 1) := by decide +kernel
theorem dX5_note_84 : decode cX5_note 84 = .ok (.dup, 1) := by decide +kernel
theorem dX5_note_85 : decode cX5_note 85 = .ok (.getfield 22, 3) := by decide +kernel
theorem dX5_note_88 : decode cX5_note 88 = .ok (.iconst 1, 1) := by decide +kernel
theorem dX5_note_89 : decode cX5_note 89 = .ok (.iadd, 1) := by decide +kernel
theorem dX5_note_90 : decode cX5_note 90 = .ok (.putfield 22, 3) := by decide +kernel
theorem dX5_note_93 : decode cX5_note 93 = .ok (.return_, 1) := by decide +kernel
theorem dX5_note_94 : decode cX5_note 94 = .ok (.iinc 3 1, 3) := by decide +kernel
theorem dX5_note_97 : decode cX5_note 97 = .ok (.iinc 4 1, 3) := by decide +kernel
theorem dX5_note_100 : decode cX5_note 100 = .ok (.goto (-73), 3) := by decide +kernel
theorem dX5_note_103 : decode cX5_note 103 = .ok (.return_, 1) := by decide +kernel
set_option maxRecDepth 20000 in
theorem ggX6_then_X4_at : GoodIn wsX6_then wsX4_at := goodIn_r _ [4] (by decide +kernel) (by decide +kernel)
set_option maxRecDepth 20000 in
theorem gX6_then_X4_at : GoodIn wsX6_then (va_wsS RX6 9 yX4_at wsX4_at) := goodIn_app (goodIn_of _ (by decide +kernel)) ggX6_then_X4_at
theorem dX6_then_0 : decode cX6_then 0 = .ok (.lconst 0, 1) := by decide +kernel
theorem dX6_then_1 : decode cX6_then 1 = .ok (.lstore 4, 2) := by decide +kernel
theorem dX6_then_3 : decode cX6_then 3 = .ok (.iconst 0, 1) := by decide +kernel
theorem dX6_then_4 : decode cX6_then 4 = .ok (.istore 6, 2) := by decide +kernel
theorem dX6_then_6 : decode cX6_then 6 = .ok (.iload 6, 2) := by decide +kernel
theorem dX6_then_8 : decode cX6_then 8 = .ok (.bipush 12, 2) := by decide +kernel
theorem dX6_then_10 : decode cX6_then 10 = .ok (.if_icmp .ge 30, 3) := by decide +kernel
theorem dX6_then_13 : decode cX6_then 13 = .ok (.lload 4, 2) := by decide +kernel
theorem dX6_then_15 : decode cX6_then 15 = .ok (.lload_n 2, 1) := by decide +kernel
theorem dX6_then_16 : decode cX6_then 16 = .ok (.lload_n 0, 1) := by decide +kernel
theorem dX6_then_17 : decode cX6_then 17 = .ok (.iload 6, 2) := by decide +kernel
theorem dX6_then_19 : decode cX6_then 19 = .ok (.invokestatic 9, 3) := by decide +kernel
theorem dX6_then_22 : decode cX6_then 22 = .ok (.invokestatic 9, 3) := by decide +kernel
theorem dX6_then_25 : decode cX6_then 25 = .ok (.i2l, 1) := by decide +kernel
theorem dX6_then_26 : decode cX6_then 26 = .ok (.iconst 4, 1) := by decide +kernel
theorem dX6_then_27 : decode cX6_then 27 = .ok (.iload 6, 2) := by decide +kernel
theorem dX6_then_29 : decode cX6_then 29 = .ok (.imul, 1) := by decide +kernel
theorem dX6_then_30 : decode cX6_then 30 = .ok (.lshl, 1) := by decide +kernel
theorem dX6_then_31 : decode cX6_then 31 = .ok (.lor, 1) := by decide +kernel
theorem dX6_then_32 : decode cX6_then 32 = .ok (.lstore 4, 2) := by decide +kernel
theorem dX6_then_34 : decode cX6_then 34 = .ok (.iinc 6 1, 3) := by decide +kernel
theorem dX6_then_37 : decode cX6_then 37 = .ok (.goto (-31), 3) := by decide +kernel
theorem dX6_then_40 : decode cX6_then 40 = .ok (.lload 4, 2) := by decide +kernel
theorem dX6_then_42 : decode cX6_then 42 = .ok (.lreturn, 1) := by decide +kernel
set_option maxRecDepth 20000 in
theorem ggX6_round_X7_hasBit : GoodIn wsX6_round wsX7_hasBit := goodIn_r _ [4] (by decide +kernel) (by decide +kernel)
set_option maxRecDepth 20000 in
theorem gX6_round_X7_hasBit_n17 : GoodIn wsX6_round (wsX7_hasBit) := ggX6_round_X7_hasBit
set_option maxRecDepth 20000 in
theorem ggX6_round_X4_with : GoodIn wsX6_round wsX4_with := goodIn_r _ [8, 9, 10] (by decide +kernel) (by decide +kernel)
set_option maxRecDepth 20000 in
theorem gX6_round_X4_with : GoodIn wsX6_round (va_wsS RX6 21 yX4_with wsX4_with) := goodIn_app (goodIn_of _ (by decide +kernel)) ggX6_round_X4_with
theorem dX6_round_0 : decode cX6_round 0 = .ok (.ldc2_w 15, 3) := by decide +kernel
theorem dX6_round_3 : decode cX6_round 3 = .ok (.lstore_n 1, 1) := by decide +kernel
theorem dX6_round_4 : decode cX6_round 4 = .ok (.iconst (-1), 1) := by decide +kernel
theorem dX6_round_5 : decode cX6_round 5 = .ok (.istore_n 3, 1) := by decide +kernel
theorem dX6_round_6 : decode cX6_round 6 = .ok (.iconst (-1), 1) := by decide +kernel
theorem dX6_round_7 : decode cX6_round 7 = .ok (.istore 4, 2) := by decide +kernel
theorem dX6_round_9 : decode cX6_round 9 = .ok (.iconst 0, 1) := by decide +kernel
theorem dX6_round_10 : decode cX6_round 10 = .ok (.istore 5, 2) := by decide +kernel
theorem dX6_round_12 : decode cX6_round 12 = .ok (.iload 5, 2) := by decide +kernel
theorem dX6_round_14 : decode cX6_round 14 = .ok (.bipush 12, 2) := by decide +kernel
theorem dX6_round_16 : decode cX6_round 16 = .ok (.if_icmp .ge 44, 3) := by decide +kernel
theorem dX6_round_19 : decode cX6_round 19 = .ok (.iload_n 0, 1) := by decide +kernel
theorem dX6_round_20 : decode cX6_round 20 = .ok (.iload 5, 2) := by decide +kernel
theorem dX6_round_22 : decode cX6_round 22 = .ok (.invokestatic 17, 3) := by decide +kernel
theorem dX6_round_25 : decode cX6_round 25 = .ok (.ifCond .ne 6, 3) := by decide +kernel
theorem dX6_round_28 : decode cX6_round 28 = .ok (.goto 26, 3) := by decide +kernel
theorem dX6_round_31 : decode cX6_round 31 = .ok (.iload_n 3, 1) := by decide +kernel
theorem dX6_round_32 : decode cX6_round 32 = .ok (.ifCond .ge 9, 3) := by decide +kernel
theorem dX6_round_35 : decode cX6_round 35 = .ok (.iload 5, 2) := by decide +kernel
theorem dX6_round_37 : decode cX6_round 37 = .ok (.istore_n 3, 1) := by decide +kernel
theorem dX6_round_38 : decode cX6_round 38 = .ok (.goto 12, 3) := by decide +kernel
theorem dX6_round_41 : decode cX6_round 41 = .ok (.lload_n 1, 1) := by decide +kernel
theorem dX6_round_42 : decode cX6_round 42 = .ok (.iload 4, 2) := by decide +kernel
theorem dX6_round_44 : decode cX6_round 44 = .ok (.iload 5, 2) := by decide +kernel
theorem dX6_round_46 : decode cX6_round 46 = .ok (.invokestatic 21, 3) := by decide +kernel
theorem dX6_round_49 : decode cX6_round 49 = .ok (.lstore_n 1, 1) := by decide +kernel
theorem dX6_round_50 : decode cX6_round 50 = .ok (.iload 5, 2) := by decide +kernel
theorem dX6_round_52 : decode cX6_round 52 = .ok (.istore 4, 2) := by decide +kernel
theorem dX6_round_54 : decode cX6_round 54 = .ok (.iinc 5 1, 3) := by decide +kernel
theorem dX6_round_57 : decode cX6_round 57 = .ok (.goto (-45), 3) := by decide +kernel
theorem dX6_round_60 : decode cX6_round 60 = .ok (.iload_n 3, 1) := by decide +kernel
theorem dX6_round_61 : decode cX6_round 61 = .ok (.ifCond .ge 7, 3) := by decide +kernel
theorem dX6_round_64 : decode cX6_round 64 = .ok (.lload_n 1, 1) := by decide +kernel
theorem dX6_round_65 : decode cX6_round 65 = .ok (.goto 10, 3) := by decide +kernel
theorem dX6_round_68 : decode cX6_round 68 = .ok (.lload_n 1, 1) := by decide +kernel
theorem dX6_round_69 : decode cX6_round 69 = .ok (.iload 4, 2) := by decide +kernel
theorem dX6_round_71 : decode cX6_round 71 = .ok (.iload_n 3, 1) := by decide +kernel
theorem dX6_round_72 : decode cX6_round 72 = .ok (.invokestatic 21, 3) := by decide +kernel
theorem dX6_round_75 : decode cX6_round 75 = .ok (.lreturn, 1) := by decide +kernel
set_option maxRecDepth 20000 in
theorem ggX6_back_X4_moved : GoodIn wsX6_back wsX4_moved := goodIn_r _ [5, 6, 7, 4, 8] (by decide +kernel) (by decide +kernel)
set_option maxRecDepth 20000 in
theorem gX6_back_X4_moved : GoodIn wsX6_back (va_wsS RX6 25 yX4_moved wsX4_moved) := goodIn_app (goodIn_of _ (by decide +kernel)) ggX6_back_X4_moved
theorem dX6_back_0 : decode cX6_back 0 = .ok (.ldc2_w 15, 3) := by decide +kernel
theorem dX6_back_3 : decode cX6_back 3 = .ok (.lload_n 0, 1) := by decide +kernel
theorem dX6_back_4 : decode cX6_back 4 = .ok (.invokestatic 25, 3) := by decide +kernel
theorem dX6_back_7 : decode cX6_back 7 = .ok (.lreturn, 1) := by decide +kernel
set_option maxRecDepth 20000 in
theorem ggX6_power_X6_then : GoodIn wsX6_power wsX6_then := goodIn_r _ [5, 6, 7, 8, 9] (by decide +kernel) (by decide +kernel)
set_option maxRecDepth 20000 in
theorem gX6_power_X6_then : GoodIn wsX6_power (va_wsS RX6 29 yX6_then wsX6_then) := goodIn_app (goodIn_of _ (by decide +kernel)) ggX6_power_X6_then
theorem dX6_power_0 : decode cX6_power 0 = .ok (.ldc2_w 15, 3) := by decide +kernel
theorem dX6_power_3 : decode cX6_power 3 = .ok (.lstore_n 3, 1) := by decide +kernel
theorem dX6_power_4 : decode cX6_power 4 = .ok (.lload_n 0, 1) := by decide +kernel
theorem dX6_power_5 : decode cX6_power 5 = .ok (.lstore 5, 2) := by decide +kernel
theorem dX6_power_7 : decode cX6_power 7 = .ok (.iload_n 2, 1) := by decide +kernel
theorem dX6_power_8 : decode cX6_power 8 = .ok (.istore 7, 2) := by decide +kernel
theorem dX6_power_10 : decode cX6_power 10 = .ok (.iload 7, 2) := by decide +kernel
theorem dX6_power_12 : decode cX6_power 12 = .ok (.ifCond .le 36, 3) := by decide +kernel
theorem dX6_power_15 : decode cX6_power 15 = .ok (.iload 7, 2) := by decide +kernel
theorem dX6_power_17 : decode cX6_power 17 = .ok (.iconst 1, 1) := by decide +kernel
theorem dX6_power_18 : decode cX6_power 18 = .ok (.iand, 1) := by decide +kernel
theorem dX6_power_19 : decode cX6_power 19 = .ok (.iconst 1, 1) := by decide +kernel
theorem dX6_power_20 : decode cX6_power 20 = .ok (.if_icmp .ne 10, 3) := by decide +kernel
theorem dX6_power_23 : decode cX6_power 23 = .ok (.lload_n 3, 1) := by decide +kernel
theorem dX6_power_24 : decode cX6_power 24 = .ok (.lload 5, 2) := by decide +kernel
theorem dX6_power_26 : decode cX6_power 26 = .ok (.invokestatic 29, 3) := by decide +kernel
theorem dX6_power_29 : decode cX6_power 29 = .ok (.lstore_n 3, 1) := by decide +kernel
theorem dX6_power_30 : decode cX6_power 30 = .ok (.lload 5, 2) := by decide +kernel
theorem dX6_power_32 : decode cX6_power 32 = .ok (.lload 5, 2) := by decide +kernel
theorem dX6_power_34 : decode cX6_power 34 = .ok (.invokestatic 29, 3) := by decide +kernel
theorem dX6_power_37 : decode cX6_power 37 = .ok (.lstore 5, 2) := by decide +kernel
theorem dX6_power_39 : decode cX6_power 39 = .ok (.iload 7, 2) := by decide +kernel
theorem dX6_power_41 : decode cX6_power 41 = .ok (.iconst 1, 1) := by decide +kernel
theorem dX6_power_42 : decode cX6_power 42 = .ok (.ishr, 1) := by decide +kernel
theorem dX6_power_43 : decode cX6_power 43 = .ok (.istore 7, 2) := by decide +kernel
theorem dX6_power_45 : decode cX6_power 45 = .ok (.goto (-35), 3) := by decide +kernel
theorem dX6_power_48 : decode cX6_power 48 = .ok (.lload_n 3, 1) := by decide +kernel
theorem dX6_power_49 : decode cX6_power 49 = .ok (.lreturn, 1) := by decide +kernel
set_option maxRecDepth 20000 in
theorem ggX6_alikePlaces_X4_at : GoodIn wsX6_alikePlaces wsX4_at := goodIn_r _ [4] (by decide +kernel) (by decide +kernel)
set_option maxRecDepth 20000 in
theorem gX6_alikePlaces_X4_at : GoodIn wsX6_alikePlaces (va_wsS RX6 9 yX4_at wsX4_at) := goodIn_app (goodIn_of _ (by decide +kernel)) ggX6_alikePlaces_X4_at
theorem dX6_alikePlaces_0 : decode cX6_alikePlaces 0 = .ok (.iconst 0, 1) := by decide +kernel
theorem dX6_alikePlaces_1 : decode cX6_alikePlaces 1 = .ok (.istore 4, 2) := by decide +kernel
theorem dX6_alikePlaces_3 : decode cX6_alikePlaces 3 = .ok (.iconst 0, 1) := by decide +kernel
theorem dX6_alikePlaces_4 : decode cX6_alikePlaces 4 = .ok (.istore 5, 2) := by decide +kernel
theorem dX6_alikePlaces_6 : decode cX6_alikePlaces 6 = .ok (.iload 5, 2) := by decide +kernel
theorem dX6_alikePlaces_8 : decode cX6_alikePlaces 8 = .ok (.bipush 12, 2) := by decide +kernel
theorem dX6_alikePlaces_10 : decode cX6_alikePlaces 10 = .ok (.if_icmp .ge 33, 3) := by decide +kernel
theorem dX6_alikePlaces_13 : decode cX6_alikePlaces 13 = .ok (.lload_n 0, 1) := by decide +kernel
theorem dX6_alikePlaces_14 : decode cX6_alikePlaces 14 = .ok (.iload 5, 2) := by decide +kernel
theorem dX6_alikePlaces_16 : decode cX6_alikePlaces 16 = .ok (.invokestatic 9, 3) := by decide +kernel
theorem dX6_alikePlaces_19 : decode cX6_alikePlaces 19 = .ok (.lload_n 2, 1) := by decide +kernel
theorem dX6_alikePlaces_20 : decode cX6_alikePlaces 20 = .ok (.iload 5, 2) := by decide +kernel
theorem dX6_alikePlaces_22 : decode cX6_alikePlaces 22 = .ok (.invokestatic 9, 3) := by decide +kernel
theorem dX6_alikePlaces_25 : decode cX6_alikePlaces 25 = .ok (.if_icmp .ne 12, 3) := by decide +kernel
theorem dX6_alikePlaces_28 : decode cX6_alikePlaces 28 = .ok (.iload 4, 2) := by decide +kernel
theorem dX6_alikePlaces_30 : decode cX6_alikePlaces 30 = .ok (.iconst 1, 1) := by decide +kernel
theorem dX6_alikePlaces_31 : decode cX6_alikePlaces 31 = .ok (.iload 5, 2) := by decide +kernel
theorem dX6_alikePlaces_33 : decode cX6_alikePlaces 33 = .ok (.ishl, 1) := by decide +kernel
theorem dX6_alikePlaces_34 : decode cX6_alikePlaces 34 = .ok (.ior, 1) := by decide +kernel
theorem dX6_alikePlaces_35 : decode cX6_alikePlaces 35 = .ok (.istore 4, 2) := by decide +kernel
theorem dX6_alikePlaces_37 : decode cX6_alikePlaces 37 = .ok (.iinc 5 1, 3) := by decide +kernel
theorem dX6_alikePlaces_40 : decode cX6_alikePlaces 40 = .ok (.goto (-34), 3) := by decide +kernel
theorem dX6_alikePlaces_43 : decode cX6_alikePlaces 43 = .ok (.iload 4, 2) := by decide +kernel
theorem dX6_alikePlaces_45 : decode cX6_alikePlaces 45 = .ok (.ireturn, 1) := by decide +kernel
set_option maxRecDepth 20000 in
theorem ggX6_staying_X6_alikePlaces : GoodIn wsX6_staying wsX6_alikePlaces := goodIn_r _ [5, 6, 7, 8, 9] (by decide +kernel) (by decide +kernel)
set_option maxRecDepth 20000 in
theorem gX6_staying_X6_alikePlaces : GoodIn wsX6_staying (va_wsS RX6 34 yX6_alikePlaces wsX6_alikePlaces) := goodIn_app (goodIn_of _ (by decide +kernel)) ggX6_staying_X6_alikePlaces
set_option maxRecDepth 20000 in
theorem ggX6_staying_J6_bitCount_0f7a4 : GoodIn wsX6_staying wsJ6_bitCount_0f7a4 := goodIn_r _ [13, 14, 15, 16] (by decide +kernel) (by decide +kernel)
set_option maxRecDepth 20000 in
theorem gX6_staying_J6_bitCount_0f7a4 : GoodIn wsX6_staying (va_wsS RX6 38 yJ6_bitCount_0f7a4 wsJ6_bitCount_0f7a4) := goodIn_app (goodIn_of _ (by decide +kernel)) ggX6_staying_J6_bitCount_0f7a4
theorem dX6_staying_0 : decode cX6_staying 0 = .ok (.lload_n 0, 1) := by decide +kernel
theorem dX6_staying_1 : decode cX6_staying 1 = .ok (.ldc2_w 15, 3) := by decide +kernel
theorem dX6_staying_4 : decode cX6_staying 4 = .ok (.invokestatic 34, 3) := by decide +kernel
theorem dX6_staying_7 : decode cX6_staying 7 = .ok (.invokestatic 38, 3) := by decide +kernel
theorem dX6_staying_10 : decode cX6_staying 10 = .ok (.ireturn, 1) := by decide +kernel
set_option maxRecDepth 20000 in
theorem ggX6_timesUntilAgain_X4_moved : GoodIn wsX6_timesUntilAgain wsX4_moved := goodIn_r _ [4, 5, 6, 3, 7] (by decide +kernel) (by decide +kernel)
set_option maxRecDepth 20000 in
theorem gX6_timesUntilAgain_X4_moved : GoodIn wsX6_timesUntilAgain (va_wsS RX6 25 yX4_moved wsX4_moved) := goodIn_app (goodIn_of _ (by decide +kernel)) ggX6_timesUntilAgain_X4_moved
theorem dX6_timesUntilAgain_0 : decode cX6_timesUntilAgain 0 = .ok (.lload_n 2, 1) := by decide +kernel
theorem dX6_timesUntilAgain_1 : decode cX6_timesUntilAgain 1 = .ok (.lload_n 0, 1) := by decide +kernel
theorem dX6_timesUntilAgain_2 : decode cX6_timesUntilAgain 2 = .ok (.invokestatic 25, 3) := by decide +kernel
theorem dX6_timesUntilAgain_5 : decode cX6_timesUntilAgain 5 = .ok (.lstore 4, 2) := by decide +kernel
theorem dX6_timesUntilAgain_7 : decode cX6_timesUntilAgain 7 = .ok (.iconst 1, 1) := by decide +kernel
theorem dX6_timesUntilAgain_8 : decode cX6_timesUntilAgain 8 = .ok (.istore 6, 2) := by decide +kernel
theorem dX6_timesUntilAgain_10 : decode cX6_timesUntilAgain 10 = .ok (.lload 4, 2) := by decide +kernel
theorem dX6_timesUntilAgain_12 : decode cX6_timesUntilAgain 12 = .ok (.lload_n 2, 1) := by decide +kernel
theorem dX6_timesUntilAgain_13 : decode cX6_timesUntilAgain 13 = .ok (.lcmp, 1) := by decide +kernel
theorem dX6_timesUntilAgain_14 : decode cX6_timesUntilAgain 14 = .ok (.ifCond .eq 24, 3) := by decide +kernel
theorem dX6_timesUntilAgain_17 : decode cX6_timesUntilAgain 17 = .ok (.iload 6, 2) := by decide +kernel
theorem dX6_timesUntilAgain_19 : decode cX6_timesUntilAgain 19 = .ok (.bipush 60, 2) := by decide +kernel
theorem dX6_timesUntilAgain_21 : decode cX6_timesUntilAgain 21 = .ok (.if_icmp .ge 17, 3) := by decide +kernel
theorem dX6_timesUntilAgain_24 : decode cX6_timesUntilAgain 24 = .ok (.lload 4, 2) := by decide +kernel
theorem dX6_timesUntilAgain_26 : decode cX6_timesUntilAgain 26 = .ok (.lload_n 0, 1) := by decide +kernel
theorem dX6_timesUntilAgain_27 : decode cX6_timesUntilAgain 27 = .ok (.invokestatic 25, 3) := by decide +kernel
theorem dX6_timesUntilAgain_30 : decode cX6_timesUntilAgain 30 = .ok (.lstore 4, 2) := by decide +kernel
theorem dX6_timesUntilAgain_32 : decode cX6_timesUntilAgain 32 = .ok (.iinc 6 1, 3) := by decide +kernel
theorem dX6_timesUntilAgain_35 : decode cX6_timesUntilAgain 35 = .ok (.goto (-25), 3) := by decide +kernel
theorem dX6_timesUntilAgain_38 : decode cX6_timesUntilAgain 38 = .ok (.iload 6, 2) := by decide +kernel
theorem dX6_timesUntilAgain_40 : decode cX6_timesUntilAgain 40 = .ok (.ireturn, 1) := by decide +kernel
set_option maxRecDepth 20000 in
theorem ggX6_cycleOf_X4_at : GoodIn wsX6_cycleOf wsX4_at := goodIn_r _ [4] (by decide +kernel) (by decide +kernel)
set_option maxRecDepth 20000 in
theorem gX6_cycleOf_X4_at : GoodIn wsX6_cycleOf (va_wsS RX6 9 yX4_at wsX4_at) := goodIn_app (goodIn_of _ (by decide +kernel)) ggX6_cycleOf_X4_at
theorem dX6_cycleOf_0 : decode cX6_cycleOf 0 = .ok (.iconst 1, 1) := by decide +kernel
theorem dX6_cycleOf_1 : decode cX6_cycleOf 1 = .ok (.iload_n 2, 1) := by decide +kernel
theorem dX6_cycleOf_2 : decode cX6_cycleOf 2 = .ok (.ishl, 1) := by decide +kernel
theorem dX6_cycleOf_3 : decode cX6_cycleOf 3 = .ok (.istore_n 3, 1) := by decide +kernel
theorem dX6_cycleOf_4 : decode cX6_cycleOf 4 = .ok (.lload_n 0, 1) := by decide +kernel
theorem dX6_cycleOf_5 : decode cX6_cycleOf 5 = .ok (.iload_n 2, 1) := by decide +kernel
theorem dX6_cycleOf_6 : decode cX6_cycleOf 6 = .ok (.invokestatic 9, 3) := by decide +kernel
theorem dX6_cycleOf_9 : decode cX6_cycleOf 9 = .ok (.istore 4, 2) := by decide +kernel
theorem dX6_cycleOf_11 : decode cX6_cycleOf 11 = .ok (.iconst 1, 1) := by decide +kernel
theorem dX6_cycleOf_12 : decode cX6_cycleOf 12 = .ok (.istore 5, 2) := by decide +kernel
theorem dX6_cycleOf_14 : decode cX6_cycleOf 14 = .ok (.iload 5, 2) := by decide +kernel
theorem dX6_cycleOf_16 : decode cX6_cycleOf 16 = .ok (.bipush 12, 2) := by decide +kernel
theorem dX6_cycleOf_18 : decode cX6_cycleOf 18 = .ok (.if_icmp .ge 30, 3) := by decide +kernel
theorem dX6_cycleOf_21 : decode cX6_cycleOf 21 = .ok (.iload 4, 2) := by decide +kernel
theorem dX6_cycleOf_23 : decode cX6_cycleOf 23 = .ok (.iload_n 2, 1) := by decide +kernel
theorem dX6_cycleOf_24 : decode cX6_cycleOf 24 = .ok (.if_icmp .eq 24, 3) := by decide +kernel
theorem dX6_cycleOf_27 : decode cX6_cycleOf 27 = .ok (.iload_n 3, 1) := by decide +kernel
theorem dX6_cycleOf_28 : decode cX6_cycleOf 28 = .ok (.iconst 1, 1) := by decide +kernel
theorem dX6_cycleOf_29 : decode cX6_cycleOf 29 = .ok (.iload 4, 2) := by decide +kernel
theorem dX6_cycleOf_31 : decode cX6_cycleOf 31 = .ok (.ishl, 1) := by decide +kernel
theorem dX6_cycleOf_32 : decode cX6_cycleOf 32 = .ok (.ior, 1) := by decide +kernel
theorem dX6_cycleOf_33 : decode cX6_cycleOf 33 = .ok (.istore_n 3, 1) := by decide +kernel
theorem dX6_cycleOf_34 : decode cX6_cycleOf 34 = .ok (.lload_n 0, 1) := by decide +kernel
theorem dX6_cycleOf_35 : decode cX6_cycleOf 35 = .ok (.iload 4, 2) := by decide +kernel
theorem dX6_cycleOf_37 : decode cX6_cycleOf 37 = .ok (.invokestatic 9, 3) := by decide +kernel
theorem dX6_cycleOf_40 : decode cX6_cycleOf 40 = .ok (.istore 4, 2) := by decide +kernel
theorem dX6_cycleOf_42 : decode cX6_cycleOf 42 = .ok (.iinc 5 1, 3) := by decide +kernel
theorem dX6_cycleOf_45 : decode cX6_cycleOf 45 = .ok (.goto (-31), 3) := by decide +kernel
theorem dX6_cycleOf_48 : decode cX6_cycleOf 48 = .ok (.iload_n 3, 1) := by decide +kernel
theorem dX6_cycleOf_49 : decode cX6_cycleOf 49 = .ok (.ireturn, 1) := by decide +kernel
set_option maxRecDepth 20000 in
theorem ggX6_cycles_X6_cycleOf : GoodIn wsX6_cycles wsX6_cycleOf := goodIn_r _ [4, 5, 6, 7, 8] (by decide +kernel) (by decide +kernel)
set_option maxRecDepth 20000 in
theorem gX6_cycles_X6_cycleOf : GoodIn wsX6_cycles (va_wsS RX6 44 yX6_cycleOf wsX6_cycleOf) := goodIn_app (goodIn_of _ (by decide +kernel)) ggX6_cycles_X6_cycleOf
theorem dX6_cycles_0 : decode cX6_cycles 0 = .ok (.iconst 0, 1) := by decide +kernel
theorem dX6_cycles_1 : decode cX6_cycles 1 = .ok (.istore_n 2, 1) := by decide +kernel
theorem dX6_cycles_2 : decode cX6_cycles 2 = .ok (.iconst 0, 1) := by decide +kernel
theorem dX6_cycles_3 : decode cX6_cycles 3 = .ok (.istore_n 3, 1) := by decide +kernel
theorem dX6_cycles_4 : decode cX6_cycles 4 = .ok (.iload_n 3, 1) := by decide +kernel
theorem dX6_cycles_5 : decode cX6_cycles 5 = .ok (.bipush 12, 2) := by decide +kernel
theorem dX6_cycles_7 : decode cX6_cycles 7 = .ok (.if_icmp .ge 50, 3) := by decide +kernel
theorem dX6_cycles_10 : decode cX6_cycles 10 = .ok (.lload_n 0, 1) := by decide +kernel
theorem dX6_cycles_11 : decode cX6_cycles 11 = .ok (.iload_n 3, 1) := by decide +kernel
theorem dX6_cycles_12 : decode cX6_cycles 12 = .ok (.invokestatic 44, 3) := by decide +kernel
theorem dX6_cycles_15 : decode cX6_cycles 15 = .ok (.istore 4, 2) := by decide +kernel
theorem dX6_cycles_17 : decode cX6_cycles 17 = .ok (.iload 4, 2) := by decide +kernel
theorem dX6_cycles_19 : decode cX6_cycles 19 = .ok (.iconst 1, 1) := by decide +kernel
theorem dX6_cycles_20 : decode cX6_cycles 20 = .ok (.iload_n 3, 1) := by decide +kernel
theorem dX6_cycles_21 : decode cX6_cycles 21 = .ok (.ishl, 1) := by decide +kernel
theorem dX6_cycles_22 : decode cX6_cycles 22 = .ok (.iconst 1, 1) := by decide +kernel
theorem dX6_cycles_23 : decode cX6_cycles 23 = .ok (.isub, 1) := by decide +kernel
theorem dX6_cycles_24 : decode cX6_cycles 24 = .ok (.iand, 1) := by decide +kernel
theorem dX6_cycles_25 : decode cX6_cycles 25 = .ok (.ifCond .ne 7, 3) := by decide +kernel
theorem dX6_cycles_28 : decode cX6_cycles 28 = .ok (.iconst 1, 1) := by decide +kernel
theorem dX6_cycles_29 : decode cX6_cycles 29 = .ok (.goto 4, 3) := by decide +kernel
theorem dX6_cycles_32 : decode cX6_cycles 32 = .ok (.iconst 0, 1) := by decide +kernel
theorem dX6_cycles_33 : decode cX6_cycles 33 = .ok (.istore 5, 2) := by decide +kernel
theorem dX6_cycles_35 : decode cX6_cycles 35 = .ok (.iload 5, 2) := by decide +kernel
theorem dX6_cycles_37 : decode cX6_cycles 37 = .ok (.ifCond .eq 14, 3) := by decide +kernel
theorem dX6_cycles_40 : decode cX6_cycles 40 = .ok (.iload 4, 2) := by decide +kernel
theorem dX6_cycles_42 : decode cX6_cycles 42 = .ok (.iconst 1, 1) := by decide +kernel
theorem dX6_cycles_43 : decode cX6_cycles 43 = .ok (.iload_n 3, 1) := by decide +kernel
theorem dX6_cycles_44 : decode cX6_cycles 44 = .ok (.ishl, 1) := by decide +kernel
theorem dX6_cycles_45 : decode cX6_cycles 45 = .ok (.if_icmp .eq 6, 3) := by decide +kernel
theorem dX6_cycles_48 : decode cX6_cycles 48 = .ok (.iinc 2 1, 3) := by decide +kernel
theorem dX6_cycles_51 : decode cX6_cycles 51 = .ok (.iinc 3 1, 3) := by decide +kernel
theorem dX6_cycles_54 : decode cX6_cycles 54 = .ok (.goto (-50), 3) := by decide +kernel
theorem dX6_cycles_57 : decode cX6_cycles 57 = .ok (.iload_n 2, 1) := by decide +kernel
theorem dX6_cycles_58 : decode cX6_cycles 58 = .ok (.ireturn, 1) := by decide +kernel
set_option maxRecDepth 20000 in
theorem ggX6_longestCycle_X6_cycleOf : GoodIn wsX6_longestCycle wsX6_cycleOf := goodIn_r _ [4, 5, 6, 7, 8] (by decide +kernel) (by decide +kernel)
set_option maxRecDepth 20000 in
theorem gX6_longestCycle_X6_cycleOf : GoodIn wsX6_longestCycle (va_wsS RX6 44 yX6_cycleOf wsX6_cycleOf) := goodIn_app (goodIn_of _ (by decide +kernel)) ggX6_longestCycle_X6_cycleOf
set_option maxRecDepth 20000 in
theorem ggX6_longestCycle_J6_bitCount_0f7a4 : GoodIn wsX6_longestCycle wsJ6_bitCount_0f7a4 := goodIn_r _ [12, 13, 14, 15] (by decide +kernel) (by decide +kernel)
set_option maxRecDepth 20000 in
theorem gX6_longestCycle_J6_bitCount_0f7a4 : GoodIn wsX6_longestCycle (va_wsS RX6 38 yJ6_bitCount_0f7a4 wsJ6_bitCount_0f7a4) := goodIn_app (goodIn_of _ (by decide +kernel)) ggX6_longestCycle_J6_bitCount_0f7a4
theorem dX6_longestCycle_0 : decode cX6_longestCycle 0 = .ok (.iconst 0, 1) := by decide +kernel
theorem dX6_longestCycle_1 : decode cX6_longestCycle 1 = .ok (.istore_n 2, 1) := by decide +kernel
theorem dX6_longestCycle_2 : decode cX6_longestCycle 2 = .ok (.iconst 0, 1) := by decide +kernel
theorem dX6_longestCycle_3 : decode cX6_longestCycle 3 = .ok (.istore_n 3, 1) := by decide +kernel
theorem dX6_longestCycle_4 : decode cX6_longestCycle 4 = .ok (.iload_n 3, 1) := by decide +kernel
theorem dX6_longestCycle_5 : decode cX6_longestCycle 5 = .ok (.bipush 12, 2) := by decide +kernel
theorem dX6_longestCycle_7 : decode cX6_longestCycle 7 = .ok (.if_icmp .ge 34, 3) := by decide +kernel
theorem dX6_longestCycle_10 : decode cX6_longestCycle 10 = .ok (.lload_n 0, 1) := by decide +kernel
theorem dX6_longestCycle_11 : decode cX6_longestCycle 11 = .ok (.iload_n 3, 1) := by decide +kernel
theorem dX6_longestCycle_12 : decode cX6_longestCycle 12 = .ok (.invokestatic 44, 3) := by decide +kernel
theorem dX6_longestCycle_15 : decode cX6_longestCycle 15 = .ok (.invokestatic 38, 3) := by decide +kernel
theorem dX6_longestCycle_18 : decode cX6_longestCycle 18 = .ok (.istore 4, 2) := by decide +kernel
theorem dX6_longestCycle_20 : decode cX6_longestCycle 20 = .ok (.iload 4, 2) := by decide +kernel
theorem dX6_longestCycle_22 : decode cX6_longestCycle 22 = .ok (.iconst 1, 1) := by decide +kernel
theorem dX6_longestCycle_23 : decode cX6_longestCycle 23 = .ok (.if_icmp .le 12, 3) := by decide +kernel
theorem dX6_longestCycle_26 : decode cX6_longestCycle 26 = .ok (.iload 4, 2) := by decide +kernel
theorem dX6_longestCycle_28 : decode cX6_longestCycle 28 = .ok (.iload_n 2, 1) := by decide +kernel
theorem dX6_longestCycle_29 : decode cX6_longestCycle 29 = .ok (.if_icmp .le 6, 3) := by decide +kernel
theorem dX6_longestCycle_32 : decode cX6_longestCycle 32 = .ok (.iload 4, 2) := by decide +kernel
theorem dX6_longestCycle_34 : decode cX6_longestCycle 34 = .ok (.istore_n 2, 1) := by decide +kernel
theorem dX6_longestCycle_35 : decode cX6_longestCycle 35 = .ok (.iinc 3 1, 3) := by decide +kernel
theorem dX6_longestCycle_38 : decode cX6_longestCycle 38 = .ok (.goto (-34), 3) := by decide +kernel
theorem dX6_longestCycle_41 : decode cX6_longestCycle 41 = .ok (.iload_n 2, 1) := by decide +kernel
theorem dX6_longestCycle_42 : decode cX6_longestCycle 42 = .ok (.ireturn, 1) := by decide +kernel
set_option maxRecDepth 20000 in
theorem ggX6_crossings_X4_at : GoodIn wsX6_crossings wsX4_at := goodIn_r _ [4] (by decide +kernel) (by decide +kernel)
set_option maxRecDepth 20000 in
theorem gX6_crossings_X4_at : GoodIn wsX6_crossings (va_wsS RX6 9 yX4_at wsX4_at) := goodIn_app (goodIn_of _ (by decide +kernel)) ggX6_crossings_X4_at
theorem dX6_crossings_0 : decode cX6_crossings 0 = .ok (.iconst 0, 1) := by decide +kernel
theorem dX6_crossings_1 : decode cX6_crossings 1 = .ok (.istore_n 2, 1) := by decide +kernel
theorem dX6_crossings_2 : decode cX6_crossings 2 = .ok (.iconst 0, 1) := by decide +kernel
theorem dX6_crossings_3 : decode cX6_crossings 3 = .ok (.istore_n 3, 1) := by decide +kernel
theorem dX6_crossings_4 : decode cX6_crossings 4 = .ok (.iload_n 3, 1) := by decide +kernel
theorem dX6_crossings_5 : decode cX6_crossings 5 = .ok (.bipush 12, 2) := by decide +kernel
theorem dX6_crossings_7 : decode cX6_crossings 7 = .ok (.if_icmp .ge 44, 3) := by decide +kernel
theorem dX6_crossings_10 : decode cX6_crossings 10 = .ok (.iload_n 3, 1) := by decide +kernel
theorem dX6_crossings_11 : decode cX6_crossings 11 = .ok (.iconst 1, 1) := by decide +kernel
theorem dX6_crossings_12 : decode cX6_crossings 12 = .ok (.iadd, 1) := by decide +kernel
theorem dX6_crossings_13 : decode cX6_crossings 13 = .ok (.istore 4, 2) := by decide +kernel
theorem dX6_crossings_15 : decode cX6_crossings 15 = .ok (.iload 4, 2) := by decide +kernel
theorem dX6_crossings_17 : decode cX6_crossings 17 = .ok (.bipush 12, 2) := by decide +kernel
theorem dX6_crossings_19 : decode cX6_crossings 19 = .ok (.if_icmp .ge 26, 3) := by decide +kernel
theorem dX6_crossings_22 : decode cX6_crossings 22 = .ok (.lload_n 0, 1) := by decide +kernel
theorem dX6_crossings_23 : decode cX6_crossings 23 = .ok (.iload_n 3, 1) := by decide +kernel
theorem dX6_crossings_24 : decode cX6_crossings 24 = .ok (.invokestatic 9, 3) := by decide +kernel
theorem dX6_crossings_27 : decode cX6_crossings 27 = .ok (.lload_n 0, 1) := by decide +kernel
theorem dX6_crossings_28 : decode cX6_crossings 28 = .ok (.iload 4, 2) := by decide +kernel
theorem dX6_crossings_30 : decode cX6_crossings 30 = .ok (.invokestatic 9, 3) := by decide +kernel
theorem dX6_crossings_33 : decode cX6_crossings 33 = .ok (.if_icmp .le 6, 3) := by decide +kernel
theorem dX6_crossings_36 : decode cX6_crossings 36 = .ok (.iinc 2 1, 3) := by decide +kernel
theorem dX6_crossings_39 : decode cX6_crossings 39 = .ok (.iinc 4 1, 3) := by decide +kernel
theorem dX6_crossings_42 : decode cX6_crossings 42 = .ok (.goto (-27), 3) := by decide +kernel
theorem dX6_crossings_45 : decode cX6_crossings 45 = .ok (.iinc 3 1, 3) := by decide +kernel
theorem dX6_crossings_48 : decode cX6_crossings 48 = .ok (.goto (-44), 3) := by decide +kernel
theorem dX6_crossings_51 : decode cX6_crossings 51 = .ok (.iload_n 2, 1) := by decide +kernel
theorem dX6_crossings_52 : decode cX6_crossings 52 = .ok (.ireturn, 1) := by decide +kernel
set_option maxRecDepth 20000 in
theorem ggX7_init_X1_init : GoodIn wsX7_init wsX1_init := goodIn_r _ [27, 28, 2, 3, 29, 30, 31, 32, 33, 34, 35, 36, 37, 38, 39, 22, 23, 40, 41, 42, 43, 44, 66, 67, 68, 69, 70, 71, 72, 88, 89] (by decide +kernel) (by decide +kernel)
set_option maxRecDepth 20000 in
theorem gX7_init_X1_init : GoodIn wsX7_init (wsX1_init) := ggX7_init_X1_init
set_option maxRecDepth 20000 in
theorem ggX7_init_X3_init : GoodIn wsX7_init wsX3_init := goodIn_r _ [46, 47, 2, 3, 48, 49, 50, 79, 80] (by decide +kernel) (by decide +kernel)
set_option maxRecDepth 20000 in
theorem gX7_init_X3_init_n18 : GoodIn wsX7_init (wsX3_init) := ggX7_init_X3_init
set_option maxRecDepth 20000 in
theorem ggX7_init_X2_init : GoodIn wsX7_init wsX2_init := goodIn_r _ [52, 53, 2, 3, 54, 55, 56, 81, 82] (by decide +kernel) (by decide +kernel)
set_option maxRecDepth 20000 in
theorem gX7_init_X2_init_n29 : GoodIn wsX7_init (wsX2_init) := ggX7_init_X2_init
set_option maxRecDepth 20000 in
theorem ggX7_init_X5_init : GoodIn wsX7_init wsX5_init := goodIn_r _ [58, 59, 2, 3, 60, 61, 62, 63, 64, 65, 83, 84, 85, 86, 87] (by decide +kernel) (by decide +kernel)
set_option maxRecDepth 20000 in
theorem gX7_init_X5_init_n36 : GoodIn wsX7_init (wsX5_init) := ggX7_init_X5_init
set_option maxRecDepth 20000 in
theorem ggX7_init_X0_init : GoodIn wsX7_init wsX0_init := goodIn_r _ [41, 42, 2, 3, 34, 43, 44, 88, 89] (by decide +kernel) (by decide +kernel)
set_option maxRecDepth 20000 in
theorem gX7_init_X0_init_n43 : GoodIn wsX7_init (wsX0_init) := ggX7_init_X0_init
theorem dX7_init_0 : decode cX7_init 0 = .ok (.aload_n 0, 1) := by decide +kernel
theorem dX7_init_1 : decode cX7_init 1 = .ok (.invokespecial 1, 3) := by decide +kernel
theorem dX7_init_4 : decode cX7_init 4 = .ok (.aload_n 0, 1) := by decide +kernel
theorem dX7_init_5 : decode cX7_init 5 = .ok (.new 7, 3) := by decide +kernel
theorem dX7_init_8 : decode cX7_init 8 = .ok (.dup, 1) := by decide +kernel
theorem dX7_init_9 : decode cX7_init 9 = .ok (.invokespecial 9, 3) := by decide +kernel
theorem dX7_init_12 : decode cX7_init 12 = .ok (.putfield 10, 3) := by decide +kernel
theorem dX7_init_15 : decode cX7_init 15 = .ok (.aload_n 0, 1) := by decide +kernel
theorem dX7_init_16 : decode cX7_init 16 = .ok (.new 16, 3) := by decide +kernel
theorem dX7_init_19 : decode cX7_init 19 = .ok (.dup, 1) := by decide +kernel
theorem dX7_init_20 : decode cX7_init 20 = .ok (.invokespecial 18, 3) := by decide +kernel
theorem dX7_init_23 : decode cX7_init 23 = .ok (.putfield 19, 3) := by decide +kernel
theorem dX7_init_26 : decode cX7_init 26 = .ok (.aload_n 0, 1) := by decide +kernel
theorem dX7_init_27 : decode cX7_init 27 = .ok (.iconst 2, 1) := by decide +kernel
theorem dX7_init_28 : decode cX7_init 28 = .ok (.anewarray 7, 3) := by decide +kernel
theorem dX7_init_31 : decode cX7_init 31 = .ok (.putfield 23, 3) := by decide +kernel
theorem dX7_init_34 : decode cX7_init 34 = .ok (.aload_n 0, 1) := by decide +kernel
theorem dX7_init_35 : decode cX7_init 35 = .ok (.new 27, 3) := by decide +kernel
theorem dX7_init_38 : decode cX7_init 38 = .ok (.dup, 1) := by decide +kernel
theorem dX7_init_39 : decode cX7_init 39 = .ok (.invokespecial 29, 3) := by decide +kernel
theorem dX7_init_42 : decode cX7_init 42 = .ok (.putfield 30, 3) := by decide +kernel
theorem dX7_init_45 : decode cX7_init 45 = .ok (.aload_n 0, 1) := by decide +kernel
theorem dX7_init_46 : decode cX7_init 46 = .ok (.new 34, 3) := by decide +kernel
theorem dX7_init_49 : decode cX7_init 49 = .ok (.dup, 1) := by decide +kernel
theorem dX7_init_50 : decode cX7_init 50 = .ok (.invokespecial 36, 3) := by decide +kernel
theorem dX7_init_53 : decode cX7_init 53 = .ok (.putfield 37, 3) := by decide +kernel
theorem dX7_init_56 : decode cX7_init 56 = .ok (.aload_n 0, 1) := by decide +kernel
theorem dX7_init_57 : decode cX7_init 57 = .ok (.new 41, 3) := by decide +kernel
theorem dX7_init_60 : decode cX7_init 60 = .ok (.dup, 1) := by decide +kernel
theorem dX7_init_61 : decode cX7_init 61 = .ok (.invokespecial 43, 3) := by decide +kernel
theorem dX7_init_64 : decode cX7_init 64 = .ok (.putfield 44, 3) := by decide +kernel
theorem dX7_init_67 : decode cX7_init 67 = .ok (.return_, 1) := by decide +kernel
set_option maxRecDepth 20000 in
theorem ggX7_put_X7_isBelow : GoodIn wsX7_put wsX7_isBelow := goodIn_r _ [7] (by decide +kernel) (by decide +kernel)
set_option maxRecDepth 20000 in
theorem gX7_put_X7_isBelow : GoodIn wsX7_put (va_wsS RX7 48 yX7_isBelow wsX7_isBelow) := goodIn_app (goodIn_of _ (by decide +kernel)) ggX7_put_X7_isBelow
set_option maxRecDepth 20000 in
theorem ggX7_put_X3_keep : GoodIn wsX7_put wsX3_keep := goodIn_r _ [12, 13, 14, 15, 16, 17, 18, 19, 20, 11, 21, 5, 6, 7, 22, 23, 24, 25, 26, 27, 28, 29, 30, 31, 32, 33, 34, 35, 36, 37, 38, 39, 40, 41, 42, 43, 44, 45, 46, 47, 48, 49, 50, 51, 52, 53, 54, 55, 56, 57, 58, 81, 82, 74, 75, 76, 77, 78, 79, 80, 83, 84] (by decide +kernel) (by decide +kernel)
set_option maxRecDepth 20000 in
theorem gX7_put_X3_keep : GoodIn wsX7_put (wsV RX7 52 RX3 yX3_keep wsX3_keep) := goodIn_app (goodIn_of _ (by decide +kernel)) ggX7_put_X3_keep
set_option maxRecDepth 20000 in
theorem ggX7_put_X4_at : GoodIn wsX7_put wsX4_at := goodIn_r _ [62] (by decide +kernel) (by decide +kernel)
set_option maxRecDepth 20000 in
theorem gX7_put_X4_at : GoodIn wsX7_put (va_wsS RX7 60 yX4_at wsX4_at) := goodIn_app (goodIn_of _ (by decide +kernel)) ggX7_put_X4_at
set_option maxRecDepth 20000 in
theorem ggX7_put_X4_with : GoodIn wsX7_put wsX4_with := goodIn_r _ [65, 66, 67] (by decide +kernel) (by decide +kernel)
set_option maxRecDepth 20000 in
theorem gX7_put_X4_with : GoodIn wsX7_put (va_wsS RX7 66 yX4_with wsX4_with) := goodIn_app (goodIn_of _ (by decide +kernel)) ggX7_put_X4_with
theorem dX7_put_0 : decode cX7_put 0 = .ok (.iload_n 1, 1) := by decide +kernel
theorem dX7_put_1 : decode cX7_put 1 = .ok (.bipush 12, 2) := by decide +kernel
theorem dX7_put_3 : decode cX7_put 3 = .ok (.invokestatic 48, 3) := by decide +kernel
theorem dX7_put_6 : decode cX7_put 6 = .ok (.ifCond .eq 12, 3) := by decide +kernel
theorem dX7_put_9 : decode cX7_put 9 = .ok (.iload_n 2, 1) := by decide +kernel
theorem dX7_put_10 : decode cX7_put 10 = .ok (.bipush 6, 2) := by decide +kernel
theorem dX7_put_12 : decode cX7_put 12 = .ok (.invokestatic 48, 3) := by decide +kernel
theorem dX7_put_15 : decode cX7_put 15 = .ok (.ifCond .ne 5, 3) := by decide +kernel
theorem dX7_put_18 : decode cX7_put 18 = .ok (.iconst (-1), 1) := by decide +kernel
theorem dX7_put_19 : decode cX7_put 19 = .ok (.ireturn, 1) := by decide +kernel
theorem dX7_put_20 : decode cX7_put 20 = .ok (.aload_n 0, 1) := by decide +kernel
theorem dX7_put_21 : decode cX7_put 21 = .ok (.getfield 19, 3) := by decide +kernel
theorem dX7_put_24 : decode cX7_put 24 = .ok (.aload_n 0, 1) := by decide +kernel
theorem dX7_put_25 : decode cX7_put 25 = .ok (.getfield 10, 3) := by decide +kernel
theorem dX7_put_28 : decode cX7_put 28 = .ok (.invokevirtual 52, 3) := by decide +kernel
theorem dX7_put_31 : decode cX7_put 31 = .ok (.aload_n 0, 1) := by decide +kernel
theorem dX7_put_32 : decode cX7_put 32 = .ok (.getfield 10, 3) := by decide +kernel
theorem dX7_put_35 : decode cX7_put 35 = .ok (.getfield 56, 3) := by decide +kernel
theorem dX7_put_38 : decode cX7_put 38 = .ok (.iload_n 1, 1) := by decide +kernel
theorem dX7_put_39 : decode cX7_put 39 = .ok (.invokestatic 60, 3) := by decide +kernel
theorem dX7_put_42 : decode cX7_put 42 = .ok (.istore_n 3, 1) := by decide +kernel
theorem dX7_put_43 : decode cX7_put 43 = .ok (.aload_n 0, 1) := by decide +kernel
theorem dX7_put_44 : decode cX7_put 44 = .ok (.getfield 10, 3) := by decide +kernel
theorem dX7_put_47 : decode cX7_put 47 = .ok (.aload_n 0, 1) := by decide +kernel
theorem dX7_put_48 : decode cX7_put 48 = .ok (.getfield 10, 3) := by decide +kernel
theorem dX7_put_51 : decode cX7_put 51 = .ok (.getfield 56, 3) := by decide +kernel
theorem dX7_put_54 : decode cX7_put 54 = .ok (.iload_n 1, 1) := by decide +kernel
theorem dX7_put_55 : decode cX7_put 55 = .ok (.iload_n 2, 1) := by decide +kernel
theorem dX7_put_56 : decode cX7_put 56 = .ok (.invokestatic 66, 3) := by decide +kernel
theorem dX7_put_59 : decode cX7_put 59 = .ok (.putfield 56, 3) := by decide +kernel
theorem dX7_put_62 : decode cX7_put 62 = .ok (.iload_n 3, 1) := by decide +kernel
theorem dX7_put_63 : decode cX7_put 63 = .ok (.ireturn, 1) := by decide +kernel
set_option maxRecDepth 20000 in
theorem ggX7_tie_X7_isBelow : GoodIn wsX7_tie wsX7_isBelow := goodIn_r _ [7] (by decide +kernel) (by decide +kernel)
set_option maxRecDepth 20000 in
theorem gX7_tie_X7_isBelow : GoodIn wsX7_tie (va_wsS RX7 48 yX7_isBelow wsX7_isBelow) := goodIn_app (goodIn_of _ (by decide +kernel)) ggX7_tie_X7_isBelow
set_option maxRecDepth 20000 in
theorem ggX7_tie_X3_keep : GoodIn wsX7_tie wsX3_keep := goodIn_r _ [12, 13, 14, 15, 16, 17, 18, 19, 20, 11, 21, 5, 6, 7, 22, 23, 24, 25, 26, 27, 28, 29, 30, 31, 32, 33, 34, 35, 36, 37, 38, 39, 40, 41, 42, 43, 44, 45, 46, 47, 48, 49, 50, 51, 52, 53, 54, 55, 56, 57, 58, 89, 90, 82, 83, 84, 85, 86, 87, 88, 91, 92] (by decide +kernel) (by decide +kernel)
set_option maxRecDepth 20000 in
theorem gX7_tie_X3_keep : GoodIn wsX7_tie (wsV RX7 52 RX3 yX3_keep wsX3_keep) := goodIn_app (goodIn_of _ (by decide +kernel)) ggX7_tie_X3_keep
set_option maxRecDepth 20000 in
theorem ggX7_tie_X1_raisedBy : GoodIn wsX7_tie wsX1_raisedBy := goodIn_r _ [62, 34, 29, 5, 6, 7, 63, 64, 65, 66, 67, 68, 82, 83, 84, 85, 86, 87, 88] (by decide +kernel) (by decide +kernel)
set_option maxRecDepth 20000 in
theorem gX7_tie_X1_raisedBy : GoodIn wsX7_tie (wsV RX7 74 RX1 yX1_raisedBy wsX1_raisedBy) := goodIn_app (goodIn_of _ (by decide +kernel)) ggX7_tie_X1_raisedBy
set_option maxRecDepth 20000 in
theorem ggX7_tie_J6_bitCount_0f7a4 : GoodIn wsX7_tie wsJ6_bitCount_0f7a4 := goodIn_r _ [72, 73, 74, 75] (by decide +kernel) (by decide +kernel)
set_option maxRecDepth 20000 in
theorem gX7_tie_J6_bitCount_0f7a4 : GoodIn wsX7_tie (va_wsS RX7 78 yJ6_bitCount_0f7a4 wsJ6_bitCount_0f7a4) := goodIn_app (goodIn_of _ (by decide +kernel)) ggX7_tie_J6_bitCount_0f7a4
theorem dX7_tie_0 : decode cX7_tie 0 = .ok (.iload_n 1, 1) := by decide +kernel
theorem dX7_tie_1 : decode cX7_tie 1 = .ok (.bipush 6, 2) := by decide +kernel
theorem dX7_tie_3 : decode cX7_tie 3 = .ok (.invokestatic 48, 3) := by decide +kernel
theorem dX7_tie_6 : decode cX7_tie 6 = .ok (.ifCond .ne 5, 3) := by decide +kernel
theorem dX7_tie_9 : decode cX7_tie 9 = .ok (.iconst (-1), 1) := by decide +kernel
theorem dX7_tie_10 : decode cX7_tie 10 = .ok (.ireturn, 1) := by decide +kernel
theorem dX7_tie_11 : decode cX7_tie 11 = .ok (.iload_n 2, 1) := by decide +kernel
theorem dX7_tie_12 : decode cX7_tie 12 = .ok (.bipush 64, 2) := by decide +kernel
theorem dX7_tie_14 : decode cX7_tie 14 = .ok (.invokestatic 48, 3) := by decide +kernel
theorem dX7_tie_17 : decode cX7_tie 17 = .ok (.ifCond .ne 6, 3) := by decide +kernel
theorem dX7_tie_20 : decode cX7_tie 20 = .ok (.bipush (-2), 2) := by decide +kernel
theorem dX7_tie_22 : decode cX7_tie 22 = .ok (.ireturn, 1) := by decide +kernel
theorem dX7_tie_23 : decode cX7_tie 23 = .ok (.aload_n 0, 1) := by decide +kernel
theorem dX7_tie_24 : decode cX7_tie 24 = .ok (.getfield 19, 3) := by decide +kernel
theorem dX7_tie_27 : decode cX7_tie 27 = .ok (.aload_n 0, 1) := by decide +kernel
theorem dX7_tie_28 : decode cX7_tie 28 = .ok (.getfield 10, 3) := by decide +kernel
theorem dX7_tie_31 : decode cX7_tie 31 = .ok (.invokevirtual 52, 3) := by decide +kernel
theorem dX7_tie_34 : decode cX7_tie 34 = .ok (.aload_n 0, 1) := by decide +kernel
theorem dX7_tie_35 : decode cX7_tie 35 = .ok (.getfield 10, 3) := by decide +kernel
theorem dX7_tie_38 : decode cX7_tie 38 = .ok (.getfield 70, 3) := by decide +kernel
theorem dX7_tie_41 : decode cX7_tie 41 = .ok (.iload_n 1, 1) := by decide +kernel
theorem dX7_tie_42 : decode cX7_tie 42 = .ok (.iload_n 2, 1) := by decide +kernel
theorem dX7_tie_43 : decode cX7_tie 43 = .ok (.iastore, 1) := by decide +kernel
theorem dX7_tie_44 : decode cX7_tie 44 = .ok (.aload_n 0, 1) := by decide +kernel
theorem dX7_tie_45 : decode cX7_tie 45 = .ok (.getfield 10, 3) := by decide +kernel
theorem dX7_tie_48 : decode cX7_tie 48 = .ok (.iload_n 1, 1) := by decide +kernel
theorem dX7_tie_49 : decode cX7_tie 49 = .ok (.invokevirtual 74, 3) := by decide +kernel
theorem dX7_tie_52 : decode cX7_tie 52 = .ok (.invokestatic 78, 3) := by decide +kernel
theorem dX7_tie_55 : decode cX7_tie 55 = .ok (.ireturn, 1) := by decide +kernel
set_option maxRecDepth 20000 in
theorem ggX7_read_X1_draftAt : GoodIn wsX7_read wsX1_draftAt := goodIn_r _ [11, 12, 13, 14, 15, 94, 95, 96, 97, 98, 99, 100] (by decide +kernel) (by decide +kernel)
set_option maxRecDepth 20000 in
theorem gX7_read_X1_draftAt : GoodIn wsX7_read (wsV RX7 83 RX1 yX1_draftAt wsX1_draftAt) := goodIn_app (goodIn_of _ (by decide +kernel)) ggX7_read_X1_draftAt
set_option maxRecDepth 20000 in
theorem ggX7_read_X2_layOut : GoodIn wsX7_read wsX2_layOut := goodIn_r _ [20, 21, 22, 23, 24, 25, 19, 26, 27, 28, 29, 30, 31, 32, 33, 34, 35, 36, 13, 14, 15, 92, 93, 90, 91] (by decide +kernel) (by decide +kernel)
set_option maxRecDepth 20000 in
theorem gX7_read_X2_layOut : GoodIn wsX7_read (wsV RX7 87 RX2 yX2_layOut wsX2_layOut) := goodIn_app (goodIn_of _ (by decide +kernel)) ggX7_read_X2_layOut
set_option maxRecDepth 20000 in
theorem ggX7_read_X3_keep : GoodIn wsX7_read wsX3_keep := goodIn_r _ [41, 42, 43, 44, 45, 10, 46, 47, 48, 40, 49, 13, 14, 15, 50, 51, 52, 53, 54, 55, 56, 57, 58, 59, 60, 61, 62, 63, 12, 64, 65, 66, 33, 67, 68, 69, 36, 35, 70, 71, 72, 73, 74, 75, 76, 77, 78, 79, 80, 81, 82, 101, 102, 94, 95, 96, 97, 98, 99, 100, 92, 93] (by decide +kernel) (by decide +kernel)
set_option maxRecDepth 20000 in
theorem gX7_read_X3_keep : GoodIn wsX7_read (wsV RX7 52 RX3 yX3_keep wsX3_keep) := goodIn_app (goodIn_of _ (by decide +kernel)) ggX7_read_X3_keep
set_option maxRecDepth 20000 in
theorem ggX7_read_X0_copyFrom : GoodIn wsX7_read wsX0_copyFrom := goodIn_r _ [81, 36, 82, 75, 76, 77, 35, 92, 93] (by decide +kernel) (by decide +kernel)
set_option maxRecDepth 20000 in
theorem gX7_read_X0_copyFrom : GoodIn wsX7_read (wsV RX7 91 RX0 yX0_copyFrom wsX0_copyFrom) := goodIn_app (goodIn_of _ (by decide +kernel)) ggX7_read_X0_copyFrom
theorem dX7_read_0 : decode cX7_read 0 = .ok (.aload_n 0, 1) := by decide +kernel
theorem dX7_read_1 : decode cX7_read 1 = .ok (.getfield 10, 3) := by decide +kernel
theorem dX7_read_4 : decode cX7_read 4 = .ok (.iload_n 1, 1) := by decide +kernel
theorem dX7_read_5 : decode cX7_read 5 = .ok (.invokevirtual 83, 3) := by decide +kernel
theorem dX7_read_8 : decode cX7_read 8 = .ok (.astore_n 2, 1) := by decide +kernel
theorem dX7_read_9 : decode cX7_read 9 = .ok (.aload_n 2, 1) := by decide +kernel
theorem dX7_read_10 : decode cX7_read 10 = .ok (.ifnonnull 5, 3) := by decide +kernel
theorem dX7_read_13 : decode cX7_read 13 = .ok (.iconst (-1), 1) := by decide +kernel
theorem dX7_read_14 : decode cX7_read 14 = .ok (.ireturn, 1) := by decide +kernel
theorem dX7_read_15 : decode cX7_read 15 = .ok (.aload_n 0, 1) := by decide +kernel
theorem dX7_read_16 : decode cX7_read 16 = .ok (.getfield 30, 3) := by decide +kernel
theorem dX7_read_19 : decode cX7_read 19 = .ok (.aload_n 0, 1) := by decide +kernel
theorem dX7_read_20 : decode cX7_read 20 = .ok (.getfield 44, 3) := by decide +kernel
theorem dX7_read_23 : decode cX7_read 23 = .ok (.invokevirtual 87, 3) := by decide +kernel
theorem dX7_read_26 : decode cX7_read 26 = .ok (.bipush (-6), 2) := by decide +kernel
theorem dX7_read_28 : decode cX7_read 28 = .ok (.if_icmp .eq 6, 3) := by decide +kernel
theorem dX7_read_31 : decode cX7_read 31 = .ok (.bipush (-3), 2) := by decide +kernel
theorem dX7_read_33 : decode cX7_read 33 = .ok (.ireturn, 1) := by decide +kernel
theorem dX7_read_34 : decode cX7_read 34 = .ok (.aload_n 0, 1) := by decide +kernel
theorem dX7_read_35 : decode cX7_read 35 = .ok (.getfield 19, 3) := by decide +kernel
theorem dX7_read_38 : decode cX7_read 38 = .ok (.aload_n 0, 1) := by decide +kernel
theorem dX7_read_39 : decode cX7_read 39 = .ok (.getfield 10, 3) := by decide +kernel
theorem dX7_read_42 : decode cX7_read 42 = .ok (.invokevirtual 52, 3) := by decide +kernel
theorem dX7_read_45 : decode cX7_read 45 = .ok (.aload_n 2, 1) := by decide +kernel
theorem dX7_read_46 : decode cX7_read 46 = .ok (.aload_n 0, 1) := by decide +kernel
theorem dX7_read_47 : decode cX7_read 47 = .ok (.getfield 44, 3) := by decide +kernel
theorem dX7_read_50 : decode cX7_read 50 = .ok (.invokevirtual 91, 3) := by decide +kernel
theorem dX7_read_53 : decode cX7_read 53 = .ok (.aload_n 0, 1) := by decide +kernel
theorem dX7_read_54 : decode cX7_read 54 = .ok (.getfield 30, 3) := by decide +kernel
theorem dX7_read_57 : decode cX7_read 57 = .ok (.iconst 0, 1) := by decide +kernel
theorem dX7_read_58 : decode cX7_read 58 = .ok (.putfield 95, 3) := by decide +kernel
theorem dX7_read_61 : decode cX7_read 61 = .ok (.aload_n 2, 1) := by decide +kernel
theorem dX7_read_62 : decode cX7_read 62 = .ok (.getfield 99, 3) := by decide +kernel
theorem dX7_read_65 : decode cX7_read 65 = .ok (.ireturn, 1) := by decide +kernel
set_option maxRecDepth 20000 in
theorem ggX7_compose_X1_draftAt : GoodIn wsX7_compose wsX1_draftAt := goodIn_r _ [9, 10, 11, 12, 13, 84, 85, 86, 87, 88, 89, 90] (by decide +kernel) (by decide +kernel)
set_option maxRecDepth 20000 in
theorem gX7_compose_X1_draftAt : GoodIn wsX7_compose (wsV RX7 83 RX1 yX1_draftAt wsX1_draftAt) := goodIn_app (goodIn_of _ (by decide +kernel)) ggX7_compose_X1_draftAt
set_option maxRecDepth 20000 in
theorem ggX7_compose_X3_keep : GoodIn wsX7_compose wsX3_keep := goodIn_r _ [18, 19, 20, 21, 22, 8, 23, 24, 25, 17, 26, 11, 12, 13, 27, 28, 29, 30, 31, 32, 33, 34, 35, 36, 37, 38, 39, 40, 10, 41, 42, 43, 44, 45, 46, 47, 48, 49, 50, 51, 52, 53, 54, 55, 56, 57, 58, 59, 60, 61, 62, 91, 92, 84, 85, 86, 87, 88, 89, 90, 82, 83] (by decide +kernel) (by decide +kernel)
set_option maxRecDepth 20000 in
theorem gX7_compose_X3_keep : GoodIn wsX7_compose (wsV RX7 52 RX3 yX3_keep wsX3_keep) := goodIn_app (goodIn_of _ (by decide +kernel)) ggX7_compose_X3_keep
set_option maxRecDepth 20000 in
theorem ggX7_compose_X0_append : GoodIn wsX7_compose wsX0_append := goodIn_r _ [66, 49, 67, 68, 69, 44, 70, 48, 11, 12, 13, 71, 72, 73, 74, 82, 83] (by decide +kernel) (by decide +kernel)
set_option maxRecDepth 20000 in
theorem gX7_compose_X0_append : GoodIn wsX7_compose (wsV RX7 100 RX0 yX0_append wsX0_append) := goodIn_app (goodIn_of _ (by decide +kernel)) ggX7_compose_X0_append
set_option maxRecDepth 20000 in
theorem ggX7_compose_X0_copyFrom : GoodIn wsX7_compose wsX0_copyFrom := goodIn_r _ [61, 48, 62, 55, 56, 57, 49, 82, 83] (by decide +kernel) (by decide +kernel)
set_option maxRecDepth 20000 in
theorem gX7_compose_X0_copyFrom : GoodIn wsX7_compose (wsV RX7 91 RX0 yX0_copyFrom wsX0_copyFrom) := goodIn_app (goodIn_of _ (by decide +kernel)) ggX7_compose_X0_copyFrom
theorem dX7_compose_0 : decode cX7_compose 0 = .ok (.aload_n 0, 1) := by decide +kernel
theorem dX7_compose_1 : decode cX7_compose 1 = .ok (.getfield 10, 3) := by decide +kernel
theorem dX7_compose_4 : decode cX7_compose 4 = .ok (.iload_n 1, 1) := by decide +kernel
theorem dX7_compose_5 : decode cX7_compose 5 = .ok (.invokevirtual 83, 3) := by decide +kernel
theorem dX7_compose_8 : decode cX7_compose 8 = .ok (.astore 4, 2) := by decide +kernel
theorem dX7_compose_10 : decode cX7_compose 10 = .ok (.aload_n 0, 1) := by decide +kernel
theorem dX7_compose_11 : decode cX7_compose 11 = .ok (.getfield 10, 3) := by decide +kernel
theorem dX7_compose_14 : decode cX7_compose 14 = .ok (.iload_n 2, 1) := by decide +kernel
theorem dX7_compose_15 : decode cX7_compose 15 = .ok (.invokevirtual 83, 3) := by decide +kernel
theorem dX7_compose_18 : decode cX7_compose 18 = .ok (.astore 5, 2) := by decide +kernel
theorem dX7_compose_20 : decode cX7_compose 20 = .ok (.aload_n 0, 1) := by decide +kernel
theorem dX7_compose_21 : decode cX7_compose 21 = .ok (.getfield 10, 3) := by decide +kernel
theorem dX7_compose_24 : decode cX7_compose 24 = .ok (.iload_n 3, 1) := by decide +kernel
theorem dX7_compose_25 : decode cX7_compose 25 = .ok (.invokevirtual 83, 3) := by decide +kernel
theorem dX7_compose_28 : decode cX7_compose 28 = .ok (.astore 6, 2) := by decide +kernel
theorem dX7_compose_30 : decode cX7_compose 30 = .ok (.aload 4, 2) := by decide +kernel
theorem dX7_compose_32 : decode cX7_compose 32 = .ok (.ifnull 13, 3) := by decide +kernel
theorem dX7_compose_35 : decode cX7_compose 35 = .ok (.aload 5, 2) := by decide +kernel
theorem dX7_compose_37 : decode cX7_compose 37 = .ok (.ifnull 8, 3) := by decide +kernel
theorem dX7_compose_40 : decode cX7_compose 40 = .ok (.aload 6, 2) := by decide +kernel
theorem dX7_compose_42 : decode cX7_compose 42 = .ok (.ifnonnull 5, 3) := by decide +kernel
theorem dX7_compose_45 : decode cX7_compose 45 = .ok (.iconst (-1), 1) := by decide +kernel
theorem dX7_compose_46 : decode cX7_compose 46 = .ok (.ireturn, 1) := by decide +kernel
theorem dX7_compose_47 : decode cX7_compose 47 = .ok (.aload 5, 2) := by decide +kernel
theorem dX7_compose_49 : decode cX7_compose 49 = .ok (.getfield 99, 3) := by decide +kernel
theorem dX7_compose_52 : decode cX7_compose 52 = .ok (.aload 6, 2) := by decide +kernel
theorem dX7_compose_54 : decode cX7_compose 54 = .ok (.getfield 99, 3) := by decide +kernel
theorem dX7_compose_57 : decode cX7_compose 57 = .ok (.iadd, 1) := by decide +kernel
theorem dX7_compose_58 : decode cX7_compose 58 = .ok (.bipush 24, 2) := by decide +kernel
theorem dX7_compose_60 : decode cX7_compose 60 = .ok (.if_icmp .le 6, 3) := by decide +kernel
theorem dX7_compose_63 : decode cX7_compose 63 = .ok (.bipush (-4), 2) := by decide +kernel
theorem dX7_compose_65 : decode cX7_compose 65 = .ok (.ireturn, 1) := by decide +kernel
theorem dX7_compose_66 : decode cX7_compose 66 = .ok (.aload_n 0, 1) := by decide +kernel
theorem dX7_compose_67 : decode cX7_compose 67 = .ok (.getfield 19, 3) := by decide +kernel
theorem dX7_compose_70 : decode cX7_compose 70 = .ok (.aload_n 0, 1) := by decide +kernel
theorem dX7_compose_71 : decode cX7_compose 71 = .ok (.getfield 10, 3) := by decide +kernel
theorem dX7_compose_74 : decode cX7_compose 74 = .ok (.invokevirtual 52, 3) := by decide +kernel
theorem dX7_compose_77 : decode cX7_compose 77 = .ok (.aload_n 0, 1) := by decide +kernel
theorem dX7_compose_78 : decode cX7_compose 78 = .ok (.getfield 44, 3) := by decide +kernel
theorem dX7_compose_81 : decode cX7_compose 81 = .ok (.iconst 0, 1) := by decide +kernel
theorem dX7_compose_82 : decode cX7_compose 82 = .ok (.putfield 99, 3) := by decide +kernel
theorem dX7_compose_85 : decode cX7_compose 85 = .ok (.aload_n 0, 1) := by decide +kernel
theorem dX7_compose_86 : decode cX7_compose 86 = .ok (.getfield 44, 3) := by decide +kernel
theorem dX7_compose_89 : decode cX7_compose 89 = .ok (.aload 5, 2) := by decide +kernel
theorem dX7_compose_91 : decode cX7_compose 91 = .ok (.invokevirtual 100, 3) := by decide +kernel
theorem dX7_compose_94 : decode cX7_compose 94 = .ok (.aload_n 0, 1) := by decide +kernel
theorem dX7_compose_95 : decode cX7_compose 95 = .ok (.getfield 44, 3) := by decide +kernel
theorem dX7_compose_98 : decode cX7_compose 98 = .ok (.aload 6, 2) := by decide +kernel
theorem dX7_compose_100 : decode cX7_compose 100 = .ok (.invokevirtual 100, 3) := by decide +kernel
theorem dX7_compose_103 : decode cX7_compose 103 = .ok (.aload 4, 2) := by decide +kernel
theorem dX7_compose_105 : decode cX7_compose 105 = .ok (.aload_n 0, 1) := by decide +kernel
theorem dX7_compose_106 : decode cX7_compose 106 = .ok (.getfield 44, 3) := by decide +kernel
theorem dX7_compose_109 : decode cX7_compose 109 = .ok (.invokevirtual 91, 3) := by decide +kernel
theorem dX7_compose_112 : decode cX7_compose 112 = .ok (.aload 4, 2) := by decide +kernel
theorem dX7_compose_114 : decode cX7_compose 114 = .ok (.getfield 99, 3) := by decide +kernel
theorem dX7_compose_117 : decode cX7_compose 117 = .ok (.ireturn, 1) := by decide +kernel
set_option maxRecDepth 20000 in
theorem ggX7_turnRound_X1_draftAt : GoodIn wsX7_turnRound wsX1_draftAt := goodIn_r _ [9, 10, 11, 12, 13, 84, 85, 86, 87, 88, 89, 90] (by decide +kernel) (by decide +kernel)
set_option maxRecDepth 20000 in
theorem gX7_turnRound_X1_draftAt : GoodIn wsX7_turnRound (wsV RX7 83 RX1 yX1_draftAt wsX1_draftAt) := goodIn_app (goodIn_of _ (by decide +kernel)) ggX7_turnRound_X1_draftAt
set_option maxRecDepth 20000 in
theorem ggX7_turnRound_X3_keep : GoodIn wsX7_turnRound wsX3_keep := goodIn_r _ [18, 19, 20, 21, 22, 8, 23, 24, 25, 17, 26, 11, 12, 13, 27, 28, 29, 30, 31, 32, 33, 34, 35, 36, 37, 38, 39, 40, 10, 41, 42, 43, 44, 45, 46, 47, 48, 49, 50, 51, 52, 53, 54, 55, 56, 57, 58, 59, 60, 61, 62, 91, 92, 84, 85, 86, 87, 88, 89, 90, 82, 83] (by decide +kernel) (by decide +kernel)
set_option maxRecDepth 20000 in
theorem gX7_turnRound_X3_keep : GoodIn wsX7_turnRound (wsV RX7 52 RX3 yX3_keep wsX3_keep) := goodIn_app (goodIn_of _ (by decide +kernel)) ggX7_turnRound_X3_keep
set_option maxRecDepth 20000 in
theorem ggX7_turnRound_X0_appendTurned : GoodIn wsX7_turnRound wsX0_appendTurned := goodIn_r _ [66, 49, 67, 68, 69, 44, 70, 48, 11, 12, 13, 71, 72, 73, 74, 82, 83] (by decide +kernel) (by decide +kernel)
set_option maxRecDepth 20000 in
theorem gX7_turnRound_X0_appendTurned : GoodIn wsX7_turnRound (wsV RX7 103 RX0 yX0_appendTurned wsX0_appendTurned) := goodIn_app (goodIn_of _ (by decide +kernel)) ggX7_turnRound_X0_appendTurned
set_option maxRecDepth 20000 in
theorem ggX7_turnRound_X0_copyFrom : GoodIn wsX7_turnRound wsX0_copyFrom := goodIn_r _ [61, 48, 62, 55, 56, 57, 49, 82, 83] (by decide +kernel) (by decide +kernel)
set_option maxRecDepth 20000 in
theorem gX7_turnRound_X0_copyFrom : GoodIn wsX7_turnRound (wsV RX7 91 RX0 yX0_copyFrom wsX0_copyFrom) := goodIn_app (goodIn_of _ (by decide +kernel)) ggX7_turnRound_X0_copyFrom
theorem dX7_turnRound_0 : decode cX7_turnRound 0 = .ok (.aload_n 0, 1) := by decide +kernel
theorem dX7_turnRound_1 : decode cX7_turnRound 1 = .ok (.getfield 10, 3) := by decide +kernel
theorem dX7_turnRound_4 : decode cX7_turnRound 4 = .ok (.iload_n 1, 1) := by decide +kernel
theorem dX7_turnRound_5 : decode cX7_turnRound 5 = .ok (.invokevirtual 83, 3) := by decide +kernel
theorem dX7_turnRound_8 : decode cX7_turnRound 8 = .ok (.astore_n 3, 1) := by decide +kernel
theorem dX7_turnRound_9 : decode cX7_turnRound 9 = .ok (.aload_n 0, 1) := by decide +kernel
theorem dX7_turnRound_10 : decode cX7_turnRound 10 = .ok (.getfield 10, 3) := by decide +kernel
theorem dX7_turnRound_13 : decode cX7_turnRound 13 = .ok (.iload_n 2, 1) := by decide +kernel
theorem dX7_turnRound_14 : decode cX7_turnRound 14 = .ok (.invokevirtual 83, 3) := by decide +kernel
theorem dX7_turnRound_17 : decode cX7_turnRound 17 = .ok (.astore 4, 2) := by decide +kernel
theorem dX7_turnRound_19 : decode cX7_turnRound 19 = .ok (.aload_n 3, 1) := by decide +kernel
theorem dX7_turnRound_20 : decode cX7_turnRound 20 = .ok (.ifnull 8, 3) := by decide +kernel
theorem dX7_turnRound_23 : decode cX7_turnRound 23 = .ok (.aload 4, 2) := by decide +kernel
theorem dX7_turnRound_25 : decode cX7_turnRound 25 = .ok (.ifnonnull 5, 3) := by decide +kernel
theorem dX7_turnRound_28 : decode cX7_turnRound 28 = .ok (.iconst (-1), 1) := by decide +kernel
theorem dX7_turnRound_29 : decode cX7_turnRound 29 = .ok (.ireturn, 1) := by decide +kernel
theorem dX7_turnRound_30 : decode cX7_turnRound 30 = .ok (.aload_n 0, 1) := by decide +kernel
theorem dX7_turnRound_31 : decode cX7_turnRound 31 = .ok (.getfield 19, 3) := by decide +kernel
theorem dX7_turnRound_34 : decode cX7_turnRound 34 = .ok (.aload_n 0, 1) := by decide +kernel
theorem dX7_turnRound_35 : decode cX7_turnRound 35 = .ok (.getfield 10, 3) := by decide +kernel
theorem dX7_turnRound_38 : decode cX7_turnRound 38 = .ok (.invokevirtual 52, 3) := by decide +kernel
theorem dX7_turnRound_41 : decode cX7_turnRound 41 = .ok (.aload_n 0, 1) := by decide +kernel
theorem dX7_turnRound_42 : decode cX7_turnRound 42 = .ok (.getfield 44, 3) := by decide +kernel
theorem dX7_turnRound_45 : decode cX7_turnRound 45 = .ok (.iconst 0, 1) := by decide +kernel
theorem dX7_turnRound_46 : decode cX7_turnRound 46 = .ok (.putfield 99, 3) := by decide +kernel
theorem dX7_turnRound_49 : decode cX7_turnRound 49 = .ok (.aload_n 0, 1) := by decide +kernel
theorem dX7_turnRound_50 : decode cX7_turnRound 50 = .ok (.getfield 44, 3) := by decide +kernel
theorem dX7_turnRound_53 : decode cX7_turnRound 53 = .ok (.aload 4, 2) := by decide +kernel
theorem dX7_turnRound_55 : decode cX7_turnRound 55 = .ok (.invokevirtual 103, 3) := by decide +kernel
theorem dX7_turnRound_58 : decode cX7_turnRound 58 = .ok (.aload_n 3, 1) := by decide +kernel
theorem dX7_turnRound_59 : decode cX7_turnRound 59 = .ok (.aload_n 0, 1) := by decide +kernel
theorem dX7_turnRound_60 : decode cX7_turnRound 60 = .ok (.getfield 44, 3) := by decide +kernel
theorem dX7_turnRound_63 : decode cX7_turnRound 63 = .ok (.invokevirtual 91, 3) := by decide +kernel
theorem dX7_turnRound_66 : decode cX7_turnRound 66 = .ok (.aload_n 3, 1) := by decide +kernel
theorem dX7_turnRound_67 : decode cX7_turnRound 67 = .ok (.getfield 99, 3) := by decide +kernel
theorem dX7_turnRound_70 : decode cX7_turnRound 70 = .ok (.ireturn, 1) := by decide +kernel
set_option maxRecDepth 20000 in
theorem ggX7_repeat_X1_draftAt : GoodIn wsX7_repeat wsX1_draftAt := goodIn_r _ [9, 10, 11, 12, 13, 84, 85, 86, 87, 88, 89, 90] (by decide +kernel) (by decide +kernel)
set_option maxRecDepth 20000 in
theorem gX7_repeat_X1_draftAt : GoodIn wsX7_repeat (wsV RX7 83 RX1 yX1_draftAt wsX1_draftAt) := goodIn_app (goodIn_of _ (by decide +kernel)) ggX7_repeat_X1_draftAt
set_option maxRecDepth 20000 in
theorem ggX7_repeat_X3_keep : GoodIn wsX7_repeat wsX3_keep := goodIn_r _ [18, 19, 20, 21, 22, 8, 23, 24, 25, 17, 26, 11, 12, 13, 27, 28, 29, 30, 31, 32, 33, 34, 35, 36, 37, 38, 39, 40, 10, 41, 42, 43, 44, 45, 46, 47, 48, 49, 50, 51, 52, 53, 54, 55, 56, 57, 58, 59, 60, 61, 62, 91, 92, 84, 85, 86, 87, 88, 89, 90, 82, 83] (by decide +kernel) (by decide +kernel)
set_option maxRecDepth 20000 in
theorem gX7_repeat_X3_keep : GoodIn wsX7_repeat (wsV RX7 52 RX3 yX3_keep wsX3_keep) := goodIn_app (goodIn_of _ (by decide +kernel)) ggX7_repeat_X3_keep
set_option maxRecDepth 20000 in
theorem ggX7_repeat_X0_append : GoodIn wsX7_repeat wsX0_append := goodIn_r _ [66, 49, 67, 68, 69, 44, 70, 48, 11, 12, 13, 71, 72, 73, 74, 82, 83] (by decide +kernel) (by decide +kernel)
set_option maxRecDepth 20000 in
theorem gX7_repeat_X0_append : GoodIn wsX7_repeat (wsV RX7 100 RX0 yX0_append wsX0_append) := goodIn_app (goodIn_of _ (by decide +kernel)) ggX7_repeat_X0_append
set_option maxRecDepth 20000 in
theorem ggX7_repeat_X0_copyFrom : GoodIn wsX7_repeat wsX0_copyFrom := goodIn_r _ [61, 48, 62, 55, 56, 57, 49, 82, 83] (by decide +kernel) (by decide +kernel)
set_option maxRecDepth 20000 in
theorem gX7_repeat_X0_copyFrom : GoodIn wsX7_repeat (wsV RX7 91 RX0 yX0_copyFrom wsX0_copyFrom) := goodIn_app (goodIn_of _ (by decide +kernel)) ggX7_repeat_X0_copyFrom
theorem dX7_repeat_0 : decode cX7_repeat 0 = .ok (.aload_n 0, 1) := by decide +kernel
theorem dX7_repeat_1 : decode cX7_repeat 1 = .ok (.getfield 10, 3) := by decide +kernel
theorem dX7_repeat_4 : decode cX7_repeat 4 = .ok (.iload_n 1, 1) := by decide +kernel
theorem dX7_repeat_5 : decode cX7_repeat 5 = .ok (.invokevirtual 83, 3) := by decide +kernel
theorem dX7_repeat_8 : decode cX7_repeat 8 = .ok (.astore 4, 2) := by decide +kernel
theorem dX7_repeat_10 : decode cX7_repeat 10 = .ok (.aload_n 0, 1) := by decide +kernel
theorem dX7_repeat_11 : decode cX7_repeat 11 = .ok (.getfield 10, 3) := by decide +kernel
theorem dX7_repeat_14 : decode cX7_repeat 14 = .ok (.iload_n 2, 1) := by decide +kernel
theorem dX7_repeat_15 : decode cX7_repeat 15 = .ok (.invokevirtual 83, 3) := by decide +kernel
theorem dX7_repeat_18 : decode cX7_repeat 18 = .ok (.astore 5, 2) := by decide +kernel
theorem dX7_repeat_20 : decode cX7_repeat 20 = .ok (.aload 4, 2) := by decide +kernel
theorem dX7_repeat_22 : decode cX7_repeat 22 = .ok (.ifnull 8, 3) := by decide +kernel
theorem dX7_repeat_25 : decode cX7_repeat 25 = .ok (.aload 5, 2) := by decide +kernel
theorem dX7_repeat_27 : decode cX7_repeat 27 = .ok (.ifnonnull 5, 3) := by decide +kernel
theorem dX7_repeat_30 : decode cX7_repeat 30 = .ok (.iconst (-1), 1) := by decide +kernel
theorem dX7_repeat_31 : decode cX7_repeat 31 = .ok (.ireturn, 1) := by decide +kernel
theorem dX7_repeat_32 : decode cX7_repeat 32 = .ok (.iload_n 3, 1) := by decide +kernel
theorem dX7_repeat_33 : decode cX7_repeat 33 = .ok (.ifCond .lt 9, 3) := by decide +kernel
theorem dX7_repeat_36 : decode cX7_repeat 36 = .ok (.iload_n 3, 1) := by decide +kernel
theorem dX7_repeat_37 : decode cX7_repeat 37 = .ok (.bipush 24, 2) := by decide +kernel
theorem dX7_repeat_39 : decode cX7_repeat 39 = .ok (.if_icmp .le 6, 3) := by decide +kernel
theorem dX7_repeat_42 : decode cX7_repeat 42 = .ok (.bipush (-2), 2) := by decide +kernel
theorem dX7_repeat_44 : decode cX7_repeat 44 = .ok (.ireturn, 1) := by decide +kernel
theorem dX7_repeat_45 : decode cX7_repeat 45 = .ok (.aload 5, 2) := by decide +kernel
theorem dX7_repeat_47 : decode cX7_repeat 47 = .ok (.getfield 99, 3) := by decide +kernel
theorem dX7_repeat_50 : decode cX7_repeat 50 = .ok (.iload_n 3, 1) := by decide +kernel
theorem dX7_repeat_51 : decode cX7_repeat 51 = .ok (.imul, 1) := by decide +kernel
theorem dX7_repeat_52 : decode cX7_repeat 52 = .ok (.bipush 24, 2) := by decide +kernel
theorem dX7_repeat_54 : decode cX7_repeat 54 = .ok (.if_icmp .le 6, 3) := by decide +kernel
theorem dX7_repeat_57 : decode cX7_repeat 57 = .ok (.bipush (-4), 2) := by decide +kernel
theorem dX7_repeat_59 : decode cX7_repeat 59 = .ok (.ireturn, 1) := by decide +kernel
theorem dX7_repeat_60 : decode cX7_repeat 60 = .ok (.aload_n 0, 1) := by decide +kernel
theorem dX7_repeat_61 : decode cX7_repeat 61 = .ok (.getfield 19, 3) := by decide +kernel
theorem dX7_repeat_64 : decode cX7_repeat 64 = .ok (.aload_n 0, 1) := by decide +kernel
theorem dX7_repeat_65 : decode cX7_repeat 65 = .ok (.getfield 10, 3) := by decide +kernel
theorem dX7_repeat_68 : decode cX7_repeat 68 = .ok (.invokevirtual 52, 3) := by decide +kernel
theorem dX7_repeat_71 : decode cX7_repeat 71 = .ok (.aload_n 0, 1) := by decide +kernel
end
section
theorem dX7_repeat_72 : decode cX7_repeat 72 = .ok (.getfield 44, 3) := by decide +kernel
theorem dX7_repeat_75 : decode cX7_repeat 75 = .ok (.iconst 0, 1) := by decide +kernel
theorem dX7_repeat_76 : decode cX7_repeat 76 = .ok (.putfield 99, 3) := by decide +kernel
theorem dX7_repeat_79 : decode cX7_repeat 79 = .ok (.iconst 0, 1) := by decide +kernel
theorem dX7_repeat_80 : decode cX7_repeat 80 = .ok (.istore 6, 2) := by decide +kernel
theorem dX7_repeat_82 : decode cX7_repeat 82 = .ok (.iload 6, 2) := by decide +kernel
theorem dX7_repeat_84 : decode cX7_repeat 84 = .ok (.iload_n 3, 1) := by decide +kernel
theorem dX7_repeat_85 : decode cX7_repeat 85 = .ok (.if_icmp .ge 18, 3) := by decide +kernel
theorem dX7_repeat_88 : decode cX7_repeat 88 = .ok (.aload_n 0, 1) := by decide +kernel
theorem dX7_repeat_89 : decode cX7_repeat 89 = .ok (.getfield 44, 3) := by decide +kernel
theorem dX7_repeat_92 : decode cX7_repeat 92 = .ok (.aload 5, 2) := by decide +kernel
theorem dX7_repeat_94 : decode cX7_repeat 94 = .ok (.invokevirtual 100, 3) := by decide +kernel
theorem dX7_repeat_97 : decode cX7_repeat 97 = .ok (.iinc 6 1, 3) := by decide +kernel
theorem dX7_repeat_100 : decode cX7_repeat 100 = .ok (.goto (-18), 3) := by decide +kernel
theorem dX7_repeat_103 : decode cX7_repeat 103 = .ok (.aload 4, 2) := by decide +kernel
theorem dX7_repeat_105 : decode cX7_repeat 105 = .ok (.aload_n 0, 1) := by decide +kernel
theorem dX7_repeat_106 : decode cX7_repeat 106 = .ok (.getfield 44, 3) := by decide +kernel
theorem dX7_repeat_109 : decode cX7_repeat 109 = .ok (.invokevirtual 91, 3) := by decide +kernel
theorem dX7_repeat_112 : decode cX7_repeat 112 = .ok (.aload 4, 2) := by decide +kernel
theorem dX7_repeat_114 : decode cX7_repeat 114 = .ok (.getfield 99, 3) := by decide +kernel
theorem dX7_repeat_117 : decode cX7_repeat 117 = .ok (.ireturn, 1) := by decide +kernel
set_option maxRecDepth 20000 in
theorem ggX7_weave_X1_draftAt : GoodIn wsX7_weave wsX1_draftAt := goodIn_r _ [11, 12, 13, 14, 15, 134, 135, 136, 137, 138, 139, 140] (by decide +kernel) (by decide +kernel)
set_option maxRecDepth 20000 in
theorem gX7_weave_X1_draftAt : GoodIn wsX7_weave (wsV RX7 83 RX1 yX1_draftAt wsX1_draftAt) := goodIn_app (goodIn_of _ (by decide +kernel)) ggX7_weave_X1_draftAt
set_option maxRecDepth 20000 in
theorem ggX7_weave_X3_keep : GoodIn wsX7_weave wsX3_keep := goodIn_r _ [20, 21, 22, 23, 24, 10, 25, 26, 27, 19, 28, 13, 14, 15, 29, 30, 31, 32, 33, 34, 35, 36, 37, 38, 39, 40, 41, 42, 12, 43, 44, 45, 46, 47, 48, 49, 50, 51, 52, 53, 54, 55, 56, 57, 58, 59, 60, 61, 62, 63, 64, 143, 144, 134, 135, 136, 137, 138, 139, 140, 141, 142] (by decide +kernel) (by decide +kernel)
set_option maxRecDepth 20000 in
theorem gX7_weave_X3_keep : GoodIn wsX7_weave (wsV RX7 52 RX3 yX3_keep wsX3_keep) := goodIn_app (goodIn_of _ (by decide +kernel)) ggX7_weave_X3_keep
set_option maxRecDepth 20000 in
theorem ggX7_weave_X1_wayOf : GoodIn wsX7_weave wsX1_wayOf := goodIn_r _ [68, 37, 69, 70, 8, 9, 10, 11, 12, 13, 14, 15, 71, 72, 73, 46, 74, 50, 75, 76, 77, 78, 79, 80, 81, 82, 41, 36, 83, 84, 85, 86, 87, 88, 89, 90, 91, 92, 93, 94, 95, 96, 97, 98, 99, 100, 101, 102, 103, 104, 105, 106, 107, 108, 109, 141, 142, 134, 135, 136, 137, 138, 139, 140] (by decide +kernel) (by decide +kernel)
set_option maxRecDepth 20000 in
theorem gX7_weave_X1_wayOf : GoodIn wsX7_weave (wsV RX7 109 RX1 yX1_wayOf wsX1_wayOf) := goodIn_app (goodIn_of _ (by decide +kernel)) ggX7_weave_X1_wayOf
set_option maxRecDepth 20000 in
theorem ggX7_weave_X6_power : GoodIn wsX7_weave wsX6_power := goodIn_r _ [112, 93, 113, 107, 91, 108, 109, 84, 85, 86] (by decide +kernel) (by decide +kernel)
set_option maxRecDepth 20000 in
theorem gX7_weave_X6_power : GoodIn wsX7_weave (va_wsS RX7 113 yX6_power wsX6_power) := goodIn_app (goodIn_of _ (by decide +kernel)) ggX7_weave_X6_power
set_option maxRecDepth 20000 in
theorem ggX7_weave_X4_moved : GoodIn wsX7_weave wsX4_moved := goodIn_r _ [104, 105, 84, 85, 86] (by decide +kernel) (by decide +kernel)
set_option maxRecDepth 20000 in
theorem gX7_weave_X4_moved : GoodIn wsX7_weave (va_wsS RX7 119 yX4_moved wsX4_moved) := goodIn_app (goodIn_of _ (by decide +kernel)) ggX7_weave_X4_moved
set_option maxRecDepth 20000 in
theorem ggX7_weave_X6_staying : GoodIn wsX7_weave wsX6_staying := goodIn_r _ [117, 93, 118, 119, 91, 120, 109, 84, 85, 86, 121, 122, 123, 124, 125, 126, 127] (by decide +kernel) (by decide +kernel)
set_option maxRecDepth 20000 in
theorem gX7_weave_X6_staying : GoodIn wsX7_weave (va_wsS RX7 129 yX6_staying wsX6_staying) := goodIn_app (goodIn_of _ (by decide +kernel)) ggX7_weave_X6_staying
theorem dX7_weave_0 : decode cX7_weave 0 = .ok (.aload_n 0, 1) := by decide +kernel
theorem dX7_weave_1 : decode cX7_weave 1 = .ok (.getfield 10, 3) := by decide +kernel
theorem dX7_weave_4 : decode cX7_weave 4 = .ok (.iload_n 1, 1) := by decide +kernel
theorem dX7_weave_5 : decode cX7_weave 5 = .ok (.invokevirtual 83, 3) := by decide +kernel
theorem dX7_weave_8 : decode cX7_weave 8 = .ok (.astore_n 3, 1) := by decide +kernel
theorem dX7_weave_9 : decode cX7_weave 9 = .ok (.aload_n 3, 1) := by decide +kernel
theorem dX7_weave_10 : decode cX7_weave 10 = .ok (.ifnonnull 5, 3) := by decide +kernel
theorem dX7_weave_13 : decode cX7_weave 13 = .ok (.iconst (-1), 1) := by decide +kernel
theorem dX7_weave_14 : decode cX7_weave 14 = .ok (.ireturn, 1) := by decide +kernel
theorem dX7_weave_15 : decode cX7_weave 15 = .ok (.iload_n 2, 1) := by decide +kernel
theorem dX7_weave_16 : decode cX7_weave 16 = .ok (.iconst 1, 1) := by decide +kernel
theorem dX7_weave_17 : decode cX7_weave 17 = .ok (.if_icmp .lt 10, 3) := by decide +kernel
theorem dX7_weave_20 : decode cX7_weave 20 = .ok (.iload_n 2, 1) := by decide +kernel
theorem dX7_weave_21 : decode cX7_weave 21 = .ok (.sipush 1000, 3) := by decide +kernel
theorem dX7_weave_24 : decode cX7_weave 24 = .ok (.if_icmp .le 6, 3) := by decide +kernel
theorem dX7_weave_27 : decode cX7_weave 27 = .ok (.bipush (-2), 2) := by decide +kernel
theorem dX7_weave_29 : decode cX7_weave 29 = .ok (.ireturn, 1) := by decide +kernel
theorem dX7_weave_30 : decode cX7_weave 30 = .ok (.aload_n 0, 1) := by decide +kernel
theorem dX7_weave_31 : decode cX7_weave 31 = .ok (.getfield 19, 3) := by decide +kernel
theorem dX7_weave_34 : decode cX7_weave 34 = .ok (.aload_n 0, 1) := by decide +kernel
theorem dX7_weave_35 : decode cX7_weave 35 = .ok (.getfield 10, 3) := by decide +kernel
theorem dX7_weave_38 : decode cX7_weave 38 = .ok (.invokevirtual 52, 3) := by decide +kernel
theorem dX7_weave_41 : decode cX7_weave 41 = .ok (.aload_n 0, 1) := by decide +kernel
theorem dX7_weave_42 : decode cX7_weave 42 = .ok (.getfield 10, 3) := by decide +kernel
theorem dX7_weave_45 : decode cX7_weave 45 = .ok (.aload_n 0, 1) := by decide +kernel
theorem dX7_weave_46 : decode cX7_weave 46 = .ok (.getfield 10, 3) := by decide +kernel
theorem dX7_weave_49 : decode cX7_weave 49 = .ok (.getfield 106, 3) := by decide +kernel
theorem dX7_weave_52 : decode cX7_weave 52 = .ok (.aload_n 0, 1) := by decide +kernel
theorem dX7_weave_53 : decode cX7_weave 53 = .ok (.getfield 10, 3) := by decide +kernel
theorem dX7_weave_56 : decode cX7_weave 56 = .ok (.iload_n 1, 1) := by decide +kernel
theorem dX7_weave_57 : decode cX7_weave 57 = .ok (.invokevirtual 109, 3) := by decide +kernel
theorem dX7_weave_60 : decode cX7_weave 60 = .ok (.iload_n 2, 1) := by decide +kernel
theorem dX7_weave_61 : decode cX7_weave 61 = .ok (.invokestatic 113, 3) := by decide +kernel
theorem dX7_weave_64 : decode cX7_weave 64 = .ok (.invokestatic 119, 3) := by decide +kernel
theorem dX7_weave_67 : decode cX7_weave 67 = .ok (.putfield 106, 3) := by decide +kernel
theorem dX7_weave_70 : decode cX7_weave 70 = .ok (.aload_n 0, 1) := by decide +kernel
theorem dX7_weave_71 : decode cX7_weave 71 = .ok (.getfield 10, 3) := by decide +kernel
theorem dX7_weave_74 : decode cX7_weave 74 = .ok (.dup, 1) := by decide +kernel
theorem dX7_weave_75 : decode cX7_weave 75 = .ok (.getfield 123, 3) := by decide +kernel
theorem dX7_weave_78 : decode cX7_weave 78 = .ok (.aload_n 3, 1) := by decide +kernel
theorem dX7_weave_79 : decode cX7_weave 79 = .ok (.getfield 99, 3) := by decide +kernel
theorem dX7_weave_82 : decode cX7_weave 82 = .ok (.iload_n 2, 1) := by decide +kernel
theorem dX7_weave_83 : decode cX7_weave 83 = .ok (.imul, 1) := by decide +kernel
theorem dX7_weave_84 : decode cX7_weave 84 = .ok (.iadd, 1) := by decide +kernel
theorem dX7_weave_85 : decode cX7_weave 85 = .ok (.putfield 123, 3) := by decide +kernel
theorem dX7_weave_88 : decode cX7_weave 88 = .ok (.aload_n 0, 1) := by decide +kernel
theorem dX7_weave_89 : decode cX7_weave 89 = .ok (.getfield 10, 3) := by decide +kernel
theorem dX7_weave_92 : decode cX7_weave 92 = .ok (.dup, 1) := by decide +kernel
theorem dX7_weave_93 : decode cX7_weave 93 = .ok (.getfield 126, 3) := by decide +kernel
theorem dX7_weave_96 : decode cX7_weave 96 = .ok (.iload_n 2, 1) := by decide +kernel
theorem dX7_weave_97 : decode cX7_weave 97 = .ok (.iadd, 1) := by decide +kernel
theorem dX7_weave_98 : decode cX7_weave 98 = .ok (.putfield 126, 3) := by decide +kernel
theorem dX7_weave_101 : decode cX7_weave 101 = .ok (.aload_n 0, 1) := by decide +kernel
theorem dX7_weave_102 : decode cX7_weave 102 = .ok (.getfield 10, 3) := by decide +kernel
theorem dX7_weave_105 : decode cX7_weave 105 = .ok (.getfield 106, 3) := by decide +kernel
theorem dX7_weave_108 : decode cX7_weave 108 = .ok (.invokestatic 129, 3) := by decide +kernel
theorem dX7_weave_111 : decode cX7_weave 111 = .ok (.ireturn, 1) := by decide +kernel
set_option maxRecDepth 20000 in
theorem ggX7_dye_X7_isBelow : GoodIn wsX7_dye wsX7_isBelow := goodIn_r _ [7] (by decide +kernel) (by decide +kernel)
set_option maxRecDepth 20000 in
theorem gX7_dye_X7_isBelow : GoodIn wsX7_dye (va_wsS RX7 48 yX7_isBelow wsX7_isBelow) := goodIn_app (goodIn_of _ (by decide +kernel)) ggX7_dye_X7_isBelow
set_option maxRecDepth 20000 in
theorem ggX7_dye_X3_keep : GoodIn wsX7_dye wsX3_keep := goodIn_r _ [12, 13, 14, 15, 16, 17, 18, 19, 20, 11, 21, 5, 6, 7, 22, 23, 24, 25, 26, 27, 28, 29, 30, 31, 32, 33, 34, 35, 36, 37, 38, 39, 40, 41, 42, 43, 44, 45, 46, 47, 48, 49, 50, 51, 52, 53, 54, 55, 56, 57, 58, 81, 82, 74, 75, 76, 77, 78, 79, 80, 83, 84] (by decide +kernel) (by decide +kernel)
set_option maxRecDepth 20000 in
theorem gX7_dye_X3_keep : GoodIn wsX7_dye (wsV RX7 52 RX3 yX3_keep wsX3_keep) := goodIn_app (goodIn_of _ (by decide +kernel)) ggX7_dye_X3_keep
set_option maxRecDepth 20000 in
theorem ggX7_dye_X4_at : GoodIn wsX7_dye wsX4_at := goodIn_r _ [62] (by decide +kernel) (by decide +kernel)
set_option maxRecDepth 20000 in
theorem gX7_dye_X4_at : GoodIn wsX7_dye (va_wsS RX7 60 yX4_at wsX4_at) := goodIn_app (goodIn_of _ (by decide +kernel)) ggX7_dye_X4_at
set_option maxRecDepth 20000 in
theorem ggX7_dye_X4_with : GoodIn wsX7_dye wsX4_with := goodIn_r _ [65, 66, 67] (by decide +kernel) (by decide +kernel)
set_option maxRecDepth 20000 in
theorem gX7_dye_X4_with : GoodIn wsX7_dye (va_wsS RX7 66 yX4_with wsX4_with) := goodIn_app (goodIn_of _ (by decide +kernel)) ggX7_dye_X4_with
theorem dX7_dye_0 : decode cX7_dye 0 = .ok (.iload_n 1, 1) := by decide +kernel
theorem dX7_dye_1 : decode cX7_dye 1 = .ok (.bipush 12, 2) := by decide +kernel
theorem dX7_dye_3 : decode cX7_dye 3 = .ok (.invokestatic 48, 3) := by decide +kernel
theorem dX7_dye_6 : decode cX7_dye 6 = .ok (.ifCond .ne 5, 3) := by decide +kernel
theorem dX7_dye_9 : decode cX7_dye 9 = .ok (.iconst (-1), 1) := by decide +kernel
theorem dX7_dye_10 : decode cX7_dye 10 = .ok (.ireturn, 1) := by decide +kernel
theorem dX7_dye_11 : decode cX7_dye 11 = .ok (.iload_n 2, 1) := by decide +kernel
theorem dX7_dye_12 : decode cX7_dye 12 = .ok (.iconst 4, 1) := by decide +kernel
theorem dX7_dye_13 : decode cX7_dye 13 = .ok (.invokestatic 48, 3) := by decide +kernel
theorem dX7_dye_16 : decode cX7_dye 16 = .ok (.ifCond .ne 6, 3) := by decide +kernel
theorem dX7_dye_19 : decode cX7_dye 19 = .ok (.bipush (-2), 2) := by decide +kernel
theorem dX7_dye_21 : decode cX7_dye 21 = .ok (.ireturn, 1) := by decide +kernel
theorem dX7_dye_22 : decode cX7_dye 22 = .ok (.aload_n 0, 1) := by decide +kernel
theorem dX7_dye_23 : decode cX7_dye 23 = .ok (.getfield 19, 3) := by decide +kernel
theorem dX7_dye_26 : decode cX7_dye 26 = .ok (.aload_n 0, 1) := by decide +kernel
theorem dX7_dye_27 : decode cX7_dye 27 = .ok (.getfield 10, 3) := by decide +kernel
theorem dX7_dye_30 : decode cX7_dye 30 = .ok (.invokevirtual 52, 3) := by decide +kernel
theorem dX7_dye_33 : decode cX7_dye 33 = .ok (.aload_n 0, 1) := by decide +kernel
theorem dX7_dye_34 : decode cX7_dye 34 = .ok (.getfield 10, 3) := by decide +kernel
theorem dX7_dye_37 : decode cX7_dye 37 = .ok (.getfield 133, 3) := by decide +kernel
theorem dX7_dye_40 : decode cX7_dye 40 = .ok (.iload_n 1, 1) := by decide +kernel
theorem dX7_dye_41 : decode cX7_dye 41 = .ok (.invokestatic 60, 3) := by decide +kernel
theorem dX7_dye_44 : decode cX7_dye 44 = .ok (.istore_n 3, 1) := by decide +kernel
theorem dX7_dye_45 : decode cX7_dye 45 = .ok (.aload_n 0, 1) := by decide +kernel
theorem dX7_dye_46 : decode cX7_dye 46 = .ok (.getfield 10, 3) := by decide +kernel
theorem dX7_dye_49 : decode cX7_dye 49 = .ok (.aload_n 0, 1) := by decide +kernel
theorem dX7_dye_50 : decode cX7_dye 50 = .ok (.getfield 10, 3) := by decide +kernel
theorem dX7_dye_53 : decode cX7_dye 53 = .ok (.getfield 133, 3) := by decide +kernel
theorem dX7_dye_56 : decode cX7_dye 56 = .ok (.iload_n 1, 1) := by decide +kernel
theorem dX7_dye_57 : decode cX7_dye 57 = .ok (.iload_n 2, 1) := by decide +kernel
theorem dX7_dye_58 : decode cX7_dye 58 = .ok (.invokestatic 66, 3) := by decide +kernel
theorem dX7_dye_61 : decode cX7_dye 61 = .ok (.putfield 133, 3) := by decide +kernel
theorem dX7_dye_64 : decode cX7_dye 64 = .ok (.iload_n 3, 1) := by decide +kernel
theorem dX7_dye_65 : decode cX7_dye 65 = .ok (.ireturn, 1) := by decide +kernel
set_option maxRecDepth 20000 in
theorem ggX7_place_X7_isBelow : GoodIn wsX7_place wsX7_isBelow := goodIn_r _ [7] (by decide +kernel) (by decide +kernel)
set_option maxRecDepth 20000 in
theorem gX7_place_X7_isBelow : GoodIn wsX7_place (va_wsS RX7 48 yX7_isBelow wsX7_isBelow) := goodIn_app (goodIn_of _ (by decide +kernel)) ggX7_place_X7_isBelow
set_option maxRecDepth 20000 in
theorem ggX7_place_X4_at : GoodIn wsX7_place wsX4_at := goodIn_r _ [11] (by decide +kernel) (by decide +kernel)
set_option maxRecDepth 20000 in
theorem gX7_place_X4_at : GoodIn wsX7_place (va_wsS RX7 60 yX4_at wsX4_at) := goodIn_app (goodIn_of _ (by decide +kernel)) ggX7_place_X4_at
set_option maxRecDepth 20000 in
theorem ggX7_place_X1_coloursByPlace : GoodIn wsX7_place wsX1_coloursByPlace := goodIn_r _ [16, 17, 18, 19, 20, 21, 22, 23, 9, 10, 11, 39, 40, 41, 42, 43, 44, 45] (by decide +kernel) (by decide +kernel)
set_option maxRecDepth 20000 in
theorem gX7_place_X1_coloursByPlace : GoodIn wsX7_place (wsV RX7 136 RX1 yX1_coloursByPlace wsX1_coloursByPlace) := goodIn_app (goodIn_of _ (by decide +kernel)) ggX7_place_X1_coloursByPlace
set_option maxRecDepth 20000 in
theorem ggX7_place_X1_treadlesRaising : GoodIn wsX7_place wsX1_treadlesRaising := goodIn_r _ [27, 28, 29, 30, 9, 10, 11, 31, 6, 32, 39, 40, 41, 42, 43, 44, 45] (by decide +kernel) (by decide +kernel)
set_option maxRecDepth 20000 in
theorem gX7_place_X1_treadlesRaising : GoodIn wsX7_place (wsV RX7 140 RX1 yX1_treadlesRaising wsX1_treadlesRaising) := goodIn_app (goodIn_of _ (by decide +kernel)) ggX7_place_X1_treadlesRaising
theorem dX7_place_0 : decode cX7_place 0 = .ok (.iload_n 1, 1) := by decide +kernel
theorem dX7_place_1 : decode cX7_place 1 = .ok (.bipush 12, 2) := by decide +kernel
theorem dX7_place_3 : decode cX7_place 3 = .ok (.invokestatic 48, 3) := by decide +kernel
theorem dX7_place_6 : decode cX7_place 6 = .ok (.ifCond .ne 5, 3) := by decide +kernel
theorem dX7_place_9 : decode cX7_place 9 = .ok (.iconst (-1), 1) := by decide +kernel
theorem dX7_place_10 : decode cX7_place 10 = .ok (.ireturn, 1) := by decide +kernel
theorem dX7_place_11 : decode cX7_place 11 = .ok (.iload_n 2, 1) := by decide +kernel
theorem dX7_place_12 : decode cX7_place 12 = .ok (.tableswitch 77 0 3 #[32, 44, 56, 68], 32) := by decide +kernel
theorem dX7_place_44 : decode cX7_place 44 = .ok (.aload_n 0, 1) := by decide +kernel
theorem dX7_place_45 : decode cX7_place 45 = .ok (.getfield 10, 3) := by decide +kernel
theorem dX7_place_48 : decode cX7_place 48 = .ok (.getfield 56, 3) := by decide +kernel
theorem dX7_place_51 : decode cX7_place 51 = .ok (.iload_n 1, 1) := by decide +kernel
theorem dX7_place_52 : decode cX7_place 52 = .ok (.invokestatic 60, 3) := by decide +kernel
theorem dX7_place_55 : decode cX7_place 55 = .ok (.ireturn, 1) := by decide +kernel
theorem dX7_place_56 : decode cX7_place 56 = .ok (.aload_n 0, 1) := by decide +kernel
theorem dX7_place_57 : decode cX7_place 57 = .ok (.getfield 10, 3) := by decide +kernel
theorem dX7_place_60 : decode cX7_place 60 = .ok (.getfield 106, 3) := by decide +kernel
theorem dX7_place_63 : decode cX7_place 63 = .ok (.iload_n 1, 1) := by decide +kernel
theorem dX7_place_64 : decode cX7_place 64 = .ok (.invokestatic 60, 3) := by decide +kernel
theorem dX7_place_67 : decode cX7_place 67 = .ok (.ireturn, 1) := by decide +kernel
theorem dX7_place_68 : decode cX7_place 68 = .ok (.aload_n 0, 1) := by decide +kernel
theorem dX7_place_69 : decode cX7_place 69 = .ok (.getfield 10, 3) := by decide +kernel
theorem dX7_place_72 : decode cX7_place 72 = .ok (.invokevirtual 136, 3) := by decide +kernel
theorem dX7_place_75 : decode cX7_place 75 = .ok (.iload_n 1, 1) := by decide +kernel
theorem dX7_place_76 : decode cX7_place 76 = .ok (.invokestatic 60, 3) := by decide +kernel
theorem dX7_place_79 : decode cX7_place 79 = .ok (.ireturn, 1) := by decide +kernel
theorem dX7_place_80 : decode cX7_place 80 = .ok (.aload_n 0, 1) := by decide +kernel
theorem dX7_place_81 : decode cX7_place 81 = .ok (.getfield 10, 3) := by decide +kernel
theorem dX7_place_84 : decode cX7_place 84 = .ok (.iload_n 1, 1) := by decide +kernel
theorem dX7_place_85 : decode cX7_place 85 = .ok (.invokevirtual 140, 3) := by decide +kernel
theorem dX7_place_88 : decode cX7_place 88 = .ok (.ireturn, 1) := by decide +kernel
theorem dX7_place_89 : decode cX7_place 89 = .ok (.bipush (-2), 2) := by decide +kernel
theorem dX7_place_91 : decode cX7_place 91 = .ok (.ireturn, 1) := by decide +kernel
set_option maxRecDepth 20000 in
theorem ggX7_treadle_X7_isBelow : GoodIn wsX7_treadle wsX7_isBelow := goodIn_r _ [6] (by decide +kernel) (by decide +kernel)
set_option maxRecDepth 20000 in
theorem gX7_treadle_X7_isBelow : GoodIn wsX7_treadle (va_wsS RX7 48 yX7_isBelow wsX7_isBelow) := goodIn_app (goodIn_of _ (by decide +kernel)) ggX7_treadle_X7_isBelow
set_option maxRecDepth 20000 in
theorem ggX7_treadle_X1_raisedBy : GoodIn wsX7_treadle wsX1_raisedBy := goodIn_r _ [11, 12, 13, 4, 5, 6, 14, 15, 16, 17, 18, 19, 26, 27, 28, 29, 30, 31, 32] (by decide +kernel) (by decide +kernel)
set_option maxRecDepth 20000 in
theorem gX7_treadle_X1_raisedBy : GoodIn wsX7_treadle (wsV RX7 74 RX1 yX1_raisedBy wsX1_raisedBy) := goodIn_app (goodIn_of _ (by decide +kernel)) ggX7_treadle_X1_raisedBy
theorem dX7_treadle_0 : decode cX7_treadle 0 = .ok (.iload_n 1, 1) := by decide +kernel
theorem dX7_treadle_1 : decode cX7_treadle 1 = .ok (.bipush 6, 2) := by decide +kernel
theorem dX7_treadle_3 : decode cX7_treadle 3 = .ok (.invokestatic 48, 3) := by decide +kernel
theorem dX7_treadle_6 : decode cX7_treadle 6 = .ok (.ifCond .ne 5, 3) := by decide +kernel
theorem dX7_treadle_9 : decode cX7_treadle 9 = .ok (.iconst (-1), 1) := by decide +kernel
theorem dX7_treadle_10 : decode cX7_treadle 10 = .ok (.ireturn, 1) := by decide +kernel
theorem dX7_treadle_11 : decode cX7_treadle 11 = .ok (.iload_n 2, 1) := by decide +kernel
theorem dX7_treadle_12 : decode cX7_treadle 12 = .ok (.lookupswitch 47 #[(0, 28), (1, 38)], 28) := by decide +kernel
theorem dX7_treadle_40 : decode cX7_treadle 40 = .ok (.aload_n 0, 1) := by decide +kernel
theorem dX7_treadle_41 : decode cX7_treadle 41 = .ok (.getfield 10, 3) := by decide +kernel
theorem dX7_treadle_44 : decode cX7_treadle 44 = .ok (.getfield 70, 3) := by decide +kernel
theorem dX7_treadle_47 : decode cX7_treadle 47 = .ok (.iload_n 1, 1) := by decide +kernel
theorem dX7_treadle_48 : decode cX7_treadle 48 = .ok (.iaload, 1) := by decide +kernel
theorem dX7_treadle_49 : decode cX7_treadle 49 = .ok (.ireturn, 1) := by decide +kernel
theorem dX7_treadle_50 : decode cX7_treadle 50 = .ok (.aload_n 0, 1) := by decide +kernel
theorem dX7_treadle_51 : decode cX7_treadle 51 = .ok (.getfield 10, 3) := by decide +kernel
theorem dX7_treadle_54 : decode cX7_treadle 54 = .ok (.iload_n 1, 1) := by decide +kernel
theorem dX7_treadle_55 : decode cX7_treadle 55 = .ok (.invokevirtual 74, 3) := by decide +kernel
theorem dX7_treadle_58 : decode cX7_treadle 58 = .ok (.ireturn, 1) := by decide +kernel
theorem dX7_treadle_59 : decode cX7_treadle 59 = .ok (.bipush (-2), 2) := by decide +kernel
theorem dX7_treadle_61 : decode cX7_treadle 61 = .ok (.ireturn, 1) := by decide +kernel
set_option maxRecDepth 20000 in
theorem ggX7_draft_X1_draftAt : GoodIn wsX7_draft wsX1_draftAt := goodIn_r _ [8, 9, 10, 11, 12, 102, 103, 104, 105, 106, 107, 108] (by decide +kernel) (by decide +kernel)
set_option maxRecDepth 20000 in
theorem gX7_draft_X1_draftAt : GoodIn wsX7_draft (wsV RX7 83 RX1 yX1_draftAt wsX1_draftAt) := goodIn_app (goodIn_of _ (by decide +kernel)) ggX7_draft_X1_draftAt
set_option maxRecDepth 20000 in
theorem ggX7_draft_X1_wayOf : GoodIn wsX7_draft wsX1_wayOf := goodIn_r _ [16, 17, 18, 19, 5, 6, 7, 8, 9, 10, 11, 12, 20, 21, 22, 23, 24, 25, 26, 27, 28, 29, 30, 31, 32, 33, 34, 35, 36, 37, 38, 39, 40, 41, 42, 43, 44, 45, 46, 47, 48, 49, 50, 51, 52, 53, 54, 55, 56, 57, 58, 59, 60, 61, 62, 100, 101, 102, 103, 104, 105, 106, 107, 108] (by decide +kernel) (by decide +kernel)
set_option maxRecDepth 20000 in
theorem gX7_draft_X1_wayOf : GoodIn wsX7_draft (wsV RX7 109 RX1 yX1_wayOf wsX1_wayOf) := goodIn_app (goodIn_of _ (by decide +kernel)) ggX7_draft_X1_wayOf
set_option maxRecDepth 20000 in
theorem ggX7_draft_X6_timesUntilAgain : GoodIn wsX7_draft wsX6_timesUntilAgain := goodIn_r _ [65, 55, 56, 38, 57, 58, 37, 39] (by decide +kernel) (by decide +kernel)
set_option maxRecDepth 20000 in
theorem gX7_draft_X6_timesUntilAgain : GoodIn wsX7_draft (va_wsS RX7 145 yX6_timesUntilAgain wsX6_timesUntilAgain) := goodIn_app (goodIn_of _ (by decide +kernel)) ggX7_draft_X6_timesUntilAgain
set_option maxRecDepth 20000 in
theorem ggX7_draft_X6_alikePlaces : GoodIn wsX7_draft wsX6_alikePlaces := goodIn_r _ [68, 62, 37, 38, 39] (by decide +kernel) (by decide +kernel)
set_option maxRecDepth 20000 in
theorem gX7_draft_X6_alikePlaces : GoodIn wsX7_draft (va_wsS RX7 149 yX6_alikePlaces wsX6_alikePlaces) := goodIn_app (goodIn_of _ (by decide +kernel)) ggX7_draft_X6_alikePlaces
set_option maxRecDepth 20000 in
theorem ggX7_draft_X6_cycles : GoodIn wsX7_draft wsX6_cycles := goodIn_r _ [71, 72, 73, 44, 74, 62, 37, 38, 39] (by decide +kernel) (by decide +kernel)
set_option maxRecDepth 20000 in
theorem gX7_draft_X6_cycles : GoodIn wsX7_draft (va_wsS RX7 152 yX6_cycles wsX6_cycles) := goodIn_app (goodIn_of _ (by decide +kernel)) ggX7_draft_X6_cycles
set_option maxRecDepth 20000 in
theorem ggX7_draft_X6_longestCycle : GoodIn wsX7_draft wsX6_longestCycle := goodIn_r _ [77, 72, 73, 44, 74, 62, 37, 38, 39, 78, 79, 80, 81, 82, 83, 84] (by decide +kernel) (by decide +kernel)
set_option maxRecDepth 20000 in
theorem gX7_draft_X6_longestCycle : GoodIn wsX7_draft (va_wsS RX7 155 yX6_longestCycle wsX6_longestCycle) := goodIn_app (goodIn_of _ (by decide +kernel)) ggX7_draft_X6_longestCycle
set_option maxRecDepth 20000 in
theorem ggX7_draft_X6_crossings : GoodIn wsX7_draft wsX6_crossings := goodIn_r _ [87, 62, 37, 38, 39] (by decide +kernel) (by decide +kernel)
set_option maxRecDepth 20000 in
theorem gX7_draft_X6_crossings : GoodIn wsX7_draft (va_wsS RX7 158 yX6_crossings wsX6_crossings) := goodIn_app (goodIn_of _ (by decide +kernel)) ggX7_draft_X6_crossings
set_option maxRecDepth 20000 in
theorem ggX7_draft_X1_coloursByPlace : GoodIn wsX7_draft wsX1_coloursByPlace := goodIn_r _ [91, 92, 93, 59, 60, 44, 61, 62, 37, 38, 39, 102, 103, 104, 105, 106, 107, 108] (by decide +kernel) (by decide +kernel)
set_option maxRecDepth 20000 in
theorem gX7_draft_X1_coloursByPlace : GoodIn wsX7_draft (wsV RX7 136 RX1 yX1_coloursByPlace wsX1_coloursByPlace) := goodIn_app (goodIn_of _ (by decide +kernel)) ggX7_draft_X1_coloursByPlace
theorem dX7_draft_0 : decode cX7_draft 0 = .ok (.aload_n 0, 1) := by decide +kernel
theorem dX7_draft_1 : decode cX7_draft 1 = .ok (.getfield 10, 3) := by decide +kernel
theorem dX7_draft_4 : decode cX7_draft 4 = .ok (.iload_n 1, 1) := by decide +kernel
theorem dX7_draft_5 : decode cX7_draft 5 = .ok (.invokevirtual 83, 3) := by decide +kernel
theorem dX7_draft_8 : decode cX7_draft 8 = .ok (.astore_n 3, 1) := by decide +kernel
theorem dX7_draft_9 : decode cX7_draft 9 = .ok (.aload_n 3, 1) := by decide +kernel
theorem dX7_draft_10 : decode cX7_draft 10 = .ok (.ifnonnull 5, 3) := by decide +kernel
theorem dX7_draft_13 : decode cX7_draft 13 = .ok (.iconst (-1), 1) := by decide +kernel
theorem dX7_draft_14 : decode cX7_draft 14 = .ok (.ireturn, 1) := by decide +kernel
theorem dX7_draft_15 : decode cX7_draft 15 = .ok (.aload_n 0, 1) := by decide +kernel
theorem dX7_draft_16 : decode cX7_draft 16 = .ok (.getfield 10, 3) := by decide +kernel
theorem dX7_draft_19 : decode cX7_draft 19 = .ok (.iload_n 1, 1) := by decide +kernel
theorem dX7_draft_20 : decode cX7_draft 20 = .ok (.invokevirtual 109, 3) := by decide +kernel
theorem dX7_draft_23 : decode cX7_draft 23 = .ok (.lstore 4, 2) := by decide +kernel
theorem dX7_draft_25 : decode cX7_draft 25 = .ok (.iload_n 2, 1) := by decide +kernel
theorem dX7_draft_26 : decode cX7_draft 26 = .ok (.tableswitch 96 0 6 #[42, 47, 56, 65, 71, 77, 83], 42) := by decide +kernel
theorem dX7_draft_68 : decode cX7_draft 68 = .ok (.aload_n 3, 1) := by decide +kernel
theorem dX7_draft_69 : decode cX7_draft 69 = .ok (.getfield 99, 3) := by decide +kernel
theorem dX7_draft_72 : decode cX7_draft 72 = .ok (.ireturn, 1) := by decide +kernel
theorem dX7_draft_73 : decode cX7_draft 73 = .ok (.lload 4, 2) := by decide +kernel
theorem dX7_draft_75 : decode cX7_draft 75 = .ok (.ldc2_w 143, 3) := by decide +kernel
theorem dX7_draft_78 : decode cX7_draft 78 = .ok (.invokestatic 145, 3) := by decide +kernel
theorem dX7_draft_81 : decode cX7_draft 81 = .ok (.ireturn, 1) := by decide +kernel
theorem dX7_draft_82 : decode cX7_draft 82 = .ok (.lload 4, 2) := by decide +kernel
theorem dX7_draft_84 : decode cX7_draft 84 = .ok (.ldc2_w 143, 3) := by decide +kernel
theorem dX7_draft_87 : decode cX7_draft 87 = .ok (.invokestatic 149, 3) := by decide +kernel
theorem dX7_draft_90 : decode cX7_draft 90 = .ok (.ireturn, 1) := by decide +kernel
theorem dX7_draft_91 : decode cX7_draft 91 = .ok (.lload 4, 2) := by decide +kernel
theorem dX7_draft_93 : decode cX7_draft 93 = .ok (.invokestatic 152, 3) := by decide +kernel
theorem dX7_draft_96 : decode cX7_draft 96 = .ok (.ireturn, 1) := by decide +kernel
theorem dX7_draft_97 : decode cX7_draft 97 = .ok (.lload 4, 2) := by decide +kernel
theorem dX7_draft_99 : decode cX7_draft 99 = .ok (.invokestatic 155, 3) := by decide +kernel
theorem dX7_draft_102 : decode cX7_draft 102 = .ok (.ireturn, 1) := by decide +kernel
theorem dX7_draft_103 : decode cX7_draft 103 = .ok (.lload 4, 2) := by decide +kernel
theorem dX7_draft_105 : decode cX7_draft 105 = .ok (.invokestatic 158, 3) := by decide +kernel
theorem dX7_draft_108 : decode cX7_draft 108 = .ok (.ireturn, 1) := by decide +kernel
theorem dX7_draft_109 : decode cX7_draft 109 = .ok (.lload 4, 2) := by decide +kernel
theorem dX7_draft_111 : decode cX7_draft 111 = .ok (.aload_n 0, 1) := by decide +kernel
theorem dX7_draft_112 : decode cX7_draft 112 = .ok (.getfield 10, 3) := by decide +kernel
theorem dX7_draft_115 : decode cX7_draft 115 = .ok (.invokevirtual 136, 3) := by decide +kernel
theorem dX7_draft_118 : decode cX7_draft 118 = .ok (.invokestatic 145, 3) := by decide +kernel
theorem dX7_draft_121 : decode cX7_draft 121 = .ok (.ireturn, 1) := by decide +kernel
theorem dX7_draft_122 : decode cX7_draft 122 = .ok (.bipush (-2), 2) := by decide +kernel
theorem dX7_draft_124 : decode cX7_draft 124 = .ok (.ireturn, 1) := by decide +kernel
set_option maxRecDepth 20000 in
theorem ggX7_press_X1_draftAt : GoodIn wsX7_press wsX1_draftAt := goodIn_r _ [7, 8, 9, 10, 11, 27, 28, 29, 30, 31, 32, 33] (by decide +kernel) (by decide +kernel)
set_option maxRecDepth 20000 in
theorem gX7_press_X1_draftAt : GoodIn wsX7_press (wsV RX7 83 RX1 yX1_draftAt wsX1_draftAt) := goodIn_app (goodIn_of _ (by decide +kernel)) ggX7_press_X1_draftAt
set_option maxRecDepth 20000 in
theorem ggX7_press_X7_isBelow : GoodIn wsX7_press wsX7_isBelow := goodIn_r _ [11] (by decide +kernel) (by decide +kernel)
set_option maxRecDepth 20000 in
theorem gX7_press_X7_isBelow : GoodIn wsX7_press (va_wsS RX7 48 yX7_isBelow wsX7_isBelow) := goodIn_app (goodIn_of _ (by decide +kernel)) ggX7_press_X7_isBelow
set_option maxRecDepth 20000 in
theorem ggX7_press_X0_pressAt : GoodIn wsX7_press wsX0_pressAt := goodIn_r _ [17, 18, 9, 10, 11, 25, 26] (by decide +kernel) (by decide +kernel)
set_option maxRecDepth 20000 in
theorem gX7_press_X0_pressAt : GoodIn wsX7_press (wsV RX7 161 RX0 yX0_pressAt wsX0_pressAt) := goodIn_app (goodIn_of _ (by decide +kernel)) ggX7_press_X0_pressAt
theorem dX7_press_0 : decode cX7_press 0 = .ok (.aload_n 0, 1) := by decide +kernel
theorem dX7_press_1 : decode cX7_press 1 = .ok (.getfield 10, 3) := by decide +kernel
theorem dX7_press_4 : decode cX7_press 4 = .ok (.iload_n 1, 1) := by decide +kernel
theorem dX7_press_5 : decode cX7_press 5 = .ok (.invokevirtual 83, 3) := by decide +kernel
theorem dX7_press_8 : decode cX7_press 8 = .ok (.astore_n 3, 1) := by decide +kernel
theorem dX7_press_9 : decode cX7_press 9 = .ok (.aload_n 3, 1) := by decide +kernel
theorem dX7_press_10 : decode cX7_press 10 = .ok (.ifnull 14, 3) := by decide +kernel
theorem dX7_press_13 : decode cX7_press 13 = .ok (.iload_n 2, 1) := by decide +kernel
theorem dX7_press_14 : decode cX7_press 14 = .ok (.aload_n 3, 1) := by decide +kernel
theorem dX7_press_15 : decode cX7_press 15 = .ok (.getfield 99, 3) := by decide +kernel
theorem dX7_press_18 : decode cX7_press 18 = .ok (.invokestatic 48, 3) := by decide +kernel
theorem dX7_press_21 : decode cX7_press 21 = .ok (.ifCond .ne 5, 3) := by decide +kernel
theorem dX7_press_24 : decode cX7_press 24 = .ok (.iconst (-1), 1) := by decide +kernel
theorem dX7_press_25 : decode cX7_press 25 = .ok (.ireturn, 1) := by decide +kernel
theorem dX7_press_26 : decode cX7_press 26 = .ok (.aload_n 3, 1) := by decide +kernel
theorem dX7_press_27 : decode cX7_press 27 = .ok (.iload_n 2, 1) := by decide +kernel
theorem dX7_press_28 : decode cX7_press 28 = .ok (.invokevirtual 161, 3) := by decide +kernel
theorem dX7_press_31 : decode cX7_press 31 = .ok (.ireturn, 1) := by decide +kernel
set_option maxRecDepth 20000 in
theorem ggX7_comesTo_X7_isBelow : GoodIn wsX7_comesTo wsX7_isBelow := goodIn_r _ [6] (by decide +kernel) (by decide +kernel)
set_option maxRecDepth 20000 in
theorem gX7_comesTo_X7_isBelow : GoodIn wsX7_comesTo (va_wsS RX7 48 yX7_isBelow wsX7_isBelow) := goodIn_app (goodIn_of _ (by decide +kernel)) ggX7_comesTo_X7_isBelow
set_option maxRecDepth 20000 in
theorem ggX7_comesTo_X1_wayOf : GoodIn wsX7_comesTo wsX1_wayOf := goodIn_r _ [11, 12, 13, 14, 15, 16, 10, 17, 18, 4, 5, 6, 19, 20, 21, 22, 23, 24, 25, 26, 27, 28, 29, 30, 31, 32, 33, 34, 35, 36, 37, 38, 39, 40, 41, 42, 43, 44, 45, 46, 47, 48, 49, 50, 51, 52, 53, 54, 55, 56, 57, 58, 59, 60, 61, 73, 74, 75, 76, 77, 78, 79, 80, 81] (by decide +kernel) (by decide +kernel)
set_option maxRecDepth 20000 in
theorem gX7_comesTo_X1_wayOf : GoodIn wsX7_comesTo (wsV RX7 109 RX1 yX1_wayOf wsX1_wayOf) := goodIn_app (goodIn_of _ (by decide +kernel)) ggX7_comesTo_X1_wayOf
set_option maxRecDepth 20000 in
theorem ggX7_comesTo_X6_power : GoodIn wsX7_comesTo wsX6_power := goodIn_r _ [64, 45, 65, 59, 43, 60, 61, 36, 37, 38] (by decide +kernel) (by decide +kernel)
set_option maxRecDepth 20000 in
theorem gX7_comesTo_X6_power : GoodIn wsX7_comesTo (va_wsS RX7 113 yX6_power wsX6_power) := goodIn_app (goodIn_of _ (by decide +kernel)) ggX7_comesTo_X6_power
set_option maxRecDepth 20000 in
theorem ggX7_comesTo_X4_at : GoodIn wsX7_comesTo wsX4_at := goodIn_r _ [38] (by decide +kernel) (by decide +kernel)
set_option maxRecDepth 20000 in
theorem gX7_comesTo_X4_at : GoodIn wsX7_comesTo (va_wsS RX7 60 yX4_at wsX4_at) := goodIn_app (goodIn_of _ (by decide +kernel)) ggX7_comesTo_X4_at
theorem dX7_comesTo_0 : decode cX7_comesTo 0 = .ok (.iload_n 1, 1) := by decide +kernel
theorem dX7_comesTo_1 : decode cX7_comesTo 1 = .ok (.bipush 6, 2) := by decide +kernel
theorem dX7_comesTo_3 : decode cX7_comesTo 3 = .ok (.invokestatic 48, 3) := by decide +kernel
theorem dX7_comesTo_6 : decode cX7_comesTo 6 = .ok (.ifCond .eq 12, 3) := by decide +kernel
theorem dX7_comesTo_9 : decode cX7_comesTo 9 = .ok (.iload_n 2, 1) := by decide +kernel
theorem dX7_comesTo_10 : decode cX7_comesTo 10 = .ok (.bipush 12, 2) := by decide +kernel
theorem dX7_comesTo_12 : decode cX7_comesTo 12 = .ok (.invokestatic 48, 3) := by decide +kernel
theorem dX7_comesTo_15 : decode cX7_comesTo 15 = .ok (.ifCond .ne 5, 3) := by decide +kernel
theorem dX7_comesTo_18 : decode cX7_comesTo 18 = .ok (.iconst (-1), 1) := by decide +kernel
theorem dX7_comesTo_19 : decode cX7_comesTo 19 = .ok (.ireturn, 1) := by decide +kernel
theorem dX7_comesTo_20 : decode cX7_comesTo 20 = .ok (.iload_n 3, 1) := by decide +kernel
theorem dX7_comesTo_21 : decode cX7_comesTo 21 = .ok (.ifCond .lt 9, 3) := by decide +kernel
theorem dX7_comesTo_24 : decode cX7_comesTo 24 = .ok (.iload_n 3, 1) := by decide +kernel
theorem dX7_comesTo_25 : decode cX7_comesTo 25 = .ok (.ldc 164, 2) := by decide +kernel
theorem dX7_comesTo_27 : decode cX7_comesTo 27 = .ok (.if_icmp .le 6, 3) := by decide +kernel
theorem dX7_comesTo_30 : decode cX7_comesTo 30 = .ok (.bipush (-2), 2) := by decide +kernel
theorem dX7_comesTo_32 : decode cX7_comesTo 32 = .ok (.ireturn, 1) := by decide +kernel
theorem dX7_comesTo_33 : decode cX7_comesTo 33 = .ok (.aload_n 0, 1) := by decide +kernel
theorem dX7_comesTo_34 : decode cX7_comesTo 34 = .ok (.getfield 10, 3) := by decide +kernel
theorem dX7_comesTo_37 : decode cX7_comesTo 37 = .ok (.iload_n 1, 1) := by decide +kernel
theorem dX7_comesTo_38 : decode cX7_comesTo 38 = .ok (.invokevirtual 109, 3) := by decide +kernel
theorem dX7_comesTo_41 : decode cX7_comesTo 41 = .ok (.iload_n 3, 1) := by decide +kernel
theorem dX7_comesTo_42 : decode cX7_comesTo 42 = .ok (.invokestatic 113, 3) := by decide +kernel
theorem dX7_comesTo_45 : decode cX7_comesTo 45 = .ok (.iload_n 2, 1) := by decide +kernel
theorem dX7_comesTo_46 : decode cX7_comesTo 46 = .ok (.invokestatic 60, 3) := by decide +kernel
theorem dX7_comesTo_49 : decode cX7_comesTo 49 = .ok (.ireturn, 1) := by decide +kernel
set_option maxRecDepth 20000 in
theorem ggX7_count_X6_staying : GoodIn wsX7_count wsX6_staying := goodIn_r _ [12, 13, 14, 15, 11, 16, 17, 18, 19, 20, 21, 22, 23, 24, 25, 26, 27] (by decide +kernel) (by decide +kernel)
set_option maxRecDepth 20000 in
theorem gX7_count_X6_staying : GoodIn wsX7_count (va_wsS RX7 129 yX6_staying wsX6_staying) := goodIn_app (goodIn_of _ (by decide +kernel)) ggX7_count_X6_staying
set_option maxRecDepth 20000 in
theorem ggX7_count_X1_neverRaised : GoodIn wsX7_count wsX1_neverRaised := goodIn_r _ [32, 33, 34, 35, 31, 36, 37, 38, 39, 40, 41, 42, 18, 19, 20, 43, 44, 57, 58, 59, 60, 61, 62, 63] (by decide +kernel) (by decide +kernel)
set_option maxRecDepth 20000 in
theorem gX7_count_X1_neverRaised : GoodIn wsX7_count (wsV RX7 165 RX1 yX1_neverRaised wsX1_neverRaised) := goodIn_app (goodIn_of _ (by decide +kernel)) ggX7_count_X1_neverRaised
set_option maxRecDepth 20000 in
theorem ggX7_count_X1_draftsWithPresses : GoodIn wsX7_count wsX1_draftsWithPresses := goodIn_r _ [48, 49, 50, 57, 58, 59, 60, 61, 62, 63, 68, 69] (by decide +kernel) (by decide +kernel)
set_option maxRecDepth 20000 in
theorem gX7_count_X1_draftsWithPresses : GoodIn wsX7_count (wsV RX7 169 RX1 yX1_draftsWithPresses wsX1_draftsWithPresses) := goodIn_app (goodIn_of _ (by decide +kernel)) ggX7_count_X1_draftsWithPresses
theorem dX7_count_0 : decode cX7_count 0 = .ok (.iload_n 1, 1) := by decide +kernel
theorem dX7_count_1 : decode cX7_count 1 = .ok (.tableswitch 102 0 6 #[43, 54, 62, 70, 78, 86, 94], 43) := by decide +kernel
theorem dX7_count_44 : decode cX7_count 44 = .ok (.aload_n 0, 1) := by decide +kernel
theorem dX7_count_45 : decode cX7_count 45 = .ok (.getfield 10, 3) := by decide +kernel
theorem dX7_count_48 : decode cX7_count 48 = .ok (.getfield 106, 3) := by decide +kernel
theorem dX7_count_51 : decode cX7_count 51 = .ok (.invokestatic 129, 3) := by decide +kernel
theorem dX7_count_54 : decode cX7_count 54 = .ok (.ireturn, 1) := by decide +kernel
theorem dX7_count_55 : decode cX7_count 55 = .ok (.aload_n 0, 1) := by decide +kernel
theorem dX7_count_56 : decode cX7_count 56 = .ok (.getfield 10, 3) := by decide +kernel
theorem dX7_count_59 : decode cX7_count 59 = .ok (.getfield 123, 3) := by decide +kernel
theorem dX7_count_62 : decode cX7_count 62 = .ok (.ireturn, 1) := by decide +kernel
theorem dX7_count_63 : decode cX7_count 63 = .ok (.aload_n 0, 1) := by decide +kernel
theorem dX7_count_64 : decode cX7_count 64 = .ok (.getfield 10, 3) := by decide +kernel
theorem dX7_count_67 : decode cX7_count 67 = .ok (.getfield 126, 3) := by decide +kernel
theorem dX7_count_70 : decode cX7_count 70 = .ok (.ireturn, 1) := by decide +kernel
theorem dX7_count_71 : decode cX7_count 71 = .ok (.aload_n 0, 1) := by decide +kernel
theorem dX7_count_72 : decode cX7_count 72 = .ok (.getfield 10, 3) := by decide +kernel
theorem dX7_count_75 : decode cX7_count 75 = .ok (.invokevirtual 165, 3) := by decide +kernel
theorem dX7_count_78 : decode cX7_count 78 = .ok (.ireturn, 1) := by decide +kernel
theorem dX7_count_79 : decode cX7_count 79 = .ok (.aload_n 0, 1) := by decide +kernel
theorem dX7_count_80 : decode cX7_count 80 = .ok (.getfield 10, 3) := by decide +kernel
theorem dX7_count_83 : decode cX7_count 83 = .ok (.invokevirtual 169, 3) := by decide +kernel
theorem dX7_count_86 : decode cX7_count 86 = .ok (.ireturn, 1) := by decide +kernel
theorem dX7_count_87 : decode cX7_count 87 = .ok (.aload_n 0, 1) := by decide +kernel
theorem dX7_count_88 : decode cX7_count 88 = .ok (.getfield 30, 3) := by decide +kernel
theorem dX7_count_91 : decode cX7_count 91 = .ok (.getfield 95, 3) := by decide +kernel
theorem dX7_count_94 : decode cX7_count 94 = .ok (.ireturn, 1) := by decide +kernel
theorem dX7_count_95 : decode cX7_count 95 = .ok (.aload_n 0, 1) := by decide +kernel
theorem dX7_count_96 : decode cX7_count 96 = .ok (.getfield 19, 3) := by decide +kernel
theorem dX7_count_99 : decode cX7_count 99 = .ok (.getfield 172, 3) := by decide +kernel
theorem dX7_count_102 : decode cX7_count 102 = .ok (.ireturn, 1) := by decide +kernel
theorem dX7_count_103 : decode cX7_count 103 = .ok (.bipush (-2), 2) := by decide +kernel
theorem dX7_count_105 : decode cX7_count 105 = .ok (.ireturn, 1) := by decide +kernel
set_option maxRecDepth 20000 in
theorem ggX7_kernel_X7_isBelow : GoodIn wsX7_kernel wsX7_isBelow := goodIn_r _ [6] (by decide +kernel) (by decide +kernel)
set_option maxRecDepth 20000 in
theorem gX7_kernel_X7_isBelow : GoodIn wsX7_kernel (va_wsS RX7 48 yX7_isBelow wsX7_isBelow) := goodIn_app (goodIn_of _ (by decide +kernel)) ggX7_kernel_X7_isBelow
set_option maxRecDepth 20000 in
theorem ggX7_kernel_X7_hasBit : GoodIn wsX7_kernel wsX7_hasBit := goodIn_r _ [9] (by decide +kernel) (by decide +kernel)
set_option maxRecDepth 20000 in
theorem gX7_kernel_X7_hasBit : GoodIn wsX7_kernel (va_wsS RX7 173 yX7_hasBit wsX7_hasBit) := goodIn_app (goodIn_of _ (by decide +kernel)) ggX7_kernel_X7_hasBit
set_option maxRecDepth 20000 in
theorem ggX7_kernel_X1_wayOf : GoodIn wsX7_kernel wsX1_wayOf := goodIn_r _ [14, 15, 16, 17, 18, 19, 13, 20, 21, 4, 5, 6, 22, 23, 24, 25, 26, 27, 28, 29, 30, 31, 32, 33, 34, 35, 36, 37, 38, 39, 40, 41, 8, 9, 42, 43, 44, 45, 46, 47, 48, 49, 50, 51, 52, 53, 54, 55, 56, 57, 58, 59, 60, 61, 62, 72, 73, 74, 75, 76, 77, 78, 79, 80] (by decide +kernel) (by decide +kernel)
set_option maxRecDepth 20000 in
theorem gX7_kernel_X1_wayOf : GoodIn wsX7_kernel (wsV RX7 109 RX1 yX1_wayOf wsX1_wayOf) := goodIn_app (goodIn_of _ (by decide +kernel)) ggX7_kernel_X1_wayOf
set_option maxRecDepth 20000 in
theorem ggX7_kernel_X6_alikePlaces : GoodIn wsX7_kernel wsX6_alikePlaces := goodIn_r _ [65, 62, 39, 40, 41] (by decide +kernel) (by decide +kernel)
set_option maxRecDepth 20000 in
theorem gX7_kernel_X6_alikePlaces : GoodIn wsX7_kernel (va_wsS RX7 149 yX6_alikePlaces wsX6_alikePlaces) := goodIn_app (goodIn_of _ (by decide +kernel)) ggX7_kernel_X6_alikePlaces
theorem dX7_kernel_0 : decode cX7_kernel 0 = .ok (.iload_n 1, 1) := by decide +kernel
theorem dX7_kernel_1 : decode cX7_kernel 1 = .ok (.bipush 64, 2) := by decide +kernel
theorem dX7_kernel_3 : decode cX7_kernel 3 = .ok (.invokestatic 48, 3) := by decide +kernel
theorem dX7_kernel_6 : decode cX7_kernel 6 = .ok (.ifCond .ne 6, 3) := by decide +kernel
theorem dX7_kernel_9 : decode cX7_kernel 9 = .ok (.bipush (-2), 2) := by decide +kernel
theorem dX7_kernel_11 : decode cX7_kernel 11 = .ok (.ireturn, 1) := by decide +kernel
theorem dX7_kernel_12 : decode cX7_kernel 12 = .ok (.sipush 4095, 3) := by decide +kernel
theorem dX7_kernel_15 : decode cX7_kernel 15 = .ok (.istore_n 2, 1) := by decide +kernel
theorem dX7_kernel_16 : decode cX7_kernel 16 = .ok (.iconst 0, 1) := by decide +kernel
theorem dX7_kernel_17 : decode cX7_kernel 17 = .ok (.istore_n 3, 1) := by decide +kernel
theorem dX7_kernel_18 : decode cX7_kernel 18 = .ok (.iload_n 3, 1) := by decide +kernel
theorem dX7_kernel_19 : decode cX7_kernel 19 = .ok (.bipush 6, 2) := by decide +kernel
theorem dX7_kernel_21 : decode cX7_kernel 21 = .ok (.if_icmp .ge 34, 3) := by decide +kernel
theorem dX7_kernel_24 : decode cX7_kernel 24 = .ok (.iload_n 1, 1) := by decide +kernel
theorem dX7_kernel_25 : decode cX7_kernel 25 = .ok (.iload_n 3, 1) := by decide +kernel
theorem dX7_kernel_26 : decode cX7_kernel 26 = .ok (.invokestatic 173, 3) := by decide +kernel
theorem dX7_kernel_29 : decode cX7_kernel 29 = .ok (.ifCond .eq 20, 3) := by decide +kernel
theorem dX7_kernel_32 : decode cX7_kernel 32 = .ok (.iload_n 2, 1) := by decide +kernel
theorem dX7_kernel_33 : decode cX7_kernel 33 = .ok (.aload_n 0, 1) := by decide +kernel
theorem dX7_kernel_34 : decode cX7_kernel 34 = .ok (.getfield 10, 3) := by decide +kernel
theorem dX7_kernel_37 : decode cX7_kernel 37 = .ok (.iload_n 3, 1) := by decide +kernel
theorem dX7_kernel_38 : decode cX7_kernel 38 = .ok (.invokevirtual 109, 3) := by decide +kernel
theorem dX7_kernel_41 : decode cX7_kernel 41 = .ok (.ldc2_w 143, 3) := by decide +kernel
theorem dX7_kernel_44 : decode cX7_kernel 44 = .ok (.invokestatic 149, 3) := by decide +kernel
theorem dX7_kernel_47 : decode cX7_kernel 47 = .ok (.iand, 1) := by decide +kernel
theorem dX7_kernel_48 : decode cX7_kernel 48 = .ok (.istore_n 2, 1) := by decide +kernel
theorem dX7_kernel_49 : decode cX7_kernel 49 = .ok (.iinc 3 1, 3) := by decide +kernel
theorem dX7_kernel_52 : decode cX7_kernel 52 = .ok (.goto (-34), 3) := by decide +kernel
theorem dX7_kernel_55 : decode cX7_kernel 55 = .ok (.iload_n 2, 1) := by decide +kernel
theorem dX7_kernel_56 : decode cX7_kernel 56 = .ok (.ireturn, 1) := by decide +kernel
set_option maxRecDepth 20000 in
theorem ggX7_orbit_X7_isBelow : GoodIn wsX7_orbit wsX7_isBelow := goodIn_r _ [5] (by decide +kernel) (by decide +kernel)
set_option maxRecDepth 20000 in
theorem gX7_orbit_X7_isBelow : GoodIn wsX7_orbit (va_wsS RX7 48 yX7_isBelow wsX7_isBelow) := goodIn_app (goodIn_of _ (by decide +kernel)) ggX7_orbit_X7_isBelow
set_option maxRecDepth 20000 in
theorem ggX7_orbit_X7_gatherWays : GoodIn wsX7_orbit wsX7_gatherWays := goodIn_r _ [9, 1, 10, 11, 12, 13, 4, 14, 15, 16, 17, 18, 19, 20, 21, 22, 23, 24, 25, 26, 3, 5, 27, 28, 29, 30, 31, 32, 33, 34, 35, 36, 37, 38, 39, 40, 41, 42, 43, 44, 45, 46, 47, 48, 49, 50, 51, 52, 53, 54, 55, 56, 57, 58, 59, 60, 61, 62, 63, 64, 65, 66, 67, 68, 69, 70, 71, 72, 73, 74, 83, 84, 85, 86, 87, 88, 89, 90, 91, 92, 93, 94, 95, 96, 97, 98, 99, 100, 101, 102] (by decide +kernel) (by decide +kernel)
set_option maxRecDepth 20000 in
theorem gX7_orbit_X7_gatherWays : GoodIn wsX7_orbit (wsV RX7 176 RX7 yX7_gatherWays wsX7_gatherWays) := goodIn_app (goodIn_of _ (by decide +kernel)) ggX7_orbit_X7_gatherWays
set_option maxRecDepth 20000 in
theorem ggX7_orbit_X5_placesFrom : GoodIn wsX7_orbit wsX5_placesFrom := goodIn_r _ [78, 73, 74, 79, 80, 71, 81, 13, 4, 14, 82, 44, 45, 46, 89, 90, 91, 92, 93] (by decide +kernel) (by decide +kernel)
set_option maxRecDepth 20000 in
theorem gX7_orbit_X5_placesFrom : GoodIn wsX7_orbit (wsV RX7 180 RX5 yX5_placesFrom wsX5_placesFrom) := goodIn_app (goodIn_of _ (by decide +kernel)) ggX7_orbit_X5_placesFrom
theorem dX7_orbit_0 : decode cX7_orbit 0 = .ok (.iload_n 2, 1) := by decide +kernel
theorem dX7_orbit_1 : decode cX7_orbit 1 = .ok (.bipush 12, 2) := by decide +kernel
theorem dX7_orbit_3 : decode cX7_orbit 3 = .ok (.invokestatic 48, 3) := by decide +kernel
theorem dX7_orbit_6 : decode cX7_orbit 6 = .ok (.ifCond .ne 5, 3) := by decide +kernel
theorem dX7_orbit_9 : decode cX7_orbit 9 = .ok (.iconst (-1), 1) := by decide +kernel
theorem dX7_orbit_10 : decode cX7_orbit 10 = .ok (.ireturn, 1) := by decide +kernel
theorem dX7_orbit_11 : decode cX7_orbit 11 = .ok (.iload_n 1, 1) := by decide +kernel
theorem dX7_orbit_12 : decode cX7_orbit 12 = .ok (.bipush 64, 2) := by decide +kernel
theorem dX7_orbit_14 : decode cX7_orbit 14 = .ok (.invokestatic 48, 3) := by decide +kernel
theorem dX7_orbit_17 : decode cX7_orbit 17 = .ok (.ifCond .ne 6, 3) := by decide +kernel
theorem dX7_orbit_20 : decode cX7_orbit 20 = .ok (.bipush (-2), 2) := by decide +kernel
theorem dX7_orbit_22 : decode cX7_orbit 22 = .ok (.ireturn, 1) := by decide +kernel
theorem dX7_orbit_23 : decode cX7_orbit 23 = .ok (.aload_n 0, 1) := by decide +kernel
theorem dX7_orbit_24 : decode cX7_orbit 24 = .ok (.iload_n 1, 1) := by decide +kernel
theorem dX7_orbit_25 : decode cX7_orbit 25 = .ok (.invokevirtual 176, 3) := by decide +kernel
theorem dX7_orbit_28 : decode cX7_orbit 28 = .ok (.aload_n 0, 1) := by decide +kernel
theorem dX7_orbit_29 : decode cX7_orbit 29 = .ok (.getfield 37, 3) := by decide +kernel
theorem dX7_orbit_32 : decode cX7_orbit 32 = .ok (.iload_n 2, 1) := by decide +kernel
theorem dX7_orbit_33 : decode cX7_orbit 33 = .ok (.invokevirtual 180, 3) := by decide +kernel
theorem dX7_orbit_36 : decode cX7_orbit 36 = .ok (.ireturn, 1) := by decide +kernel
set_option maxRecDepth 20000 in
theorem ggX7_pair_X7_isBelow : GoodIn wsX7_pair wsX7_isBelow := goodIn_r _ [6] (by decide +kernel) (by decide +kernel)
set_option maxRecDepth 20000 in
theorem gX7_pair_X7_isBelow : GoodIn wsX7_pair (va_wsS RX7 48 yX7_isBelow wsX7_isBelow) := goodIn_app (goodIn_of _ (by decide +kernel)) ggX7_pair_X7_isBelow
set_option maxRecDepth 20000 in
theorem ggX7_pair_X1_wayOf : GoodIn wsX7_pair wsX1_wayOf := goodIn_r _ [11, 12, 13, 14, 15, 16, 10, 17, 18, 4, 5, 6, 19, 20, 21, 22, 23, 24, 25, 26, 27, 28, 29, 30, 31, 32, 33, 34, 35, 36, 37, 38, 39, 40, 41, 42, 43, 44, 45, 46, 47, 48, 49, 50, 51, 52, 53, 54, 55, 56, 57, 58, 59, 60, 61, 75, 76, 77, 78, 79, 80, 81, 82, 83] (by decide +kernel) (by decide +kernel)
set_option maxRecDepth 20000 in
theorem gX7_pair_X1_wayOf : GoodIn wsX7_pair (wsV RX7 109 RX1 yX1_wayOf wsX1_wayOf) := goodIn_app (goodIn_of _ (by decide +kernel)) ggX7_pair_X1_wayOf
set_option maxRecDepth 20000 in
theorem ggX7_pair_X7_asNumber : GoodIn wsX7_pair wsX7_asNumber := goodIn_r _ [64] (by decide +kernel) (by decide +kernel)
set_option maxRecDepth 20000 in
theorem gX7_pair_X7_asNumber : GoodIn wsX7_pair (va_wsS RX7 183 yX7_asNumber wsX7_asNumber) := goodIn_app (goodIn_of _ (by decide +kernel)) ggX7_pair_X7_asNumber
set_option maxRecDepth 20000 in
theorem ggX7_pair_X6_then : GoodIn wsX7_pair wsX6_then := goodIn_r _ [60, 61, 36, 37, 38] (by decide +kernel) (by decide +kernel)
set_option maxRecDepth 20000 in
theorem gX7_pair_X6_then : GoodIn wsX7_pair (va_wsS RX7 187 yX6_then wsX6_then) := goodIn_app (goodIn_of _ (by decide +kernel)) ggX7_pair_X6_then
set_option maxRecDepth 20000 in
theorem ggX7_pair_X6_alikePlaces : GoodIn wsX7_pair wsX6_alikePlaces := goodIn_r _ [68, 61, 36, 37, 38] (by decide +kernel) (by decide +kernel)
set_option maxRecDepth 20000 in
theorem gX7_pair_X6_alikePlaces : GoodIn wsX7_pair (va_wsS RX7 149 yX6_alikePlaces wsX6_alikePlaces) := goodIn_app (goodIn_of _ (by decide +kernel)) ggX7_pair_X6_alikePlaces
theorem dX7_pair_0 : decode cX7_pair 0 = .ok (.iload_n 1, 1) := by decide +kernel
theorem dX7_pair_1 : decode cX7_pair 1 = .ok (.bipush 6, 2) := by decide +kernel
theorem dX7_pair_3 : decode cX7_pair 3 = .ok (.invokestatic 48, 3) := by decide +kernel
theorem dX7_pair_6 : decode cX7_pair 6 = .ok (.ifCond .eq 12, 3) := by decide +kernel
theorem dX7_pair_9 : decode cX7_pair 9 = .ok (.iload_n 2, 1) := by decide +kernel
theorem dX7_pair_10 : decode cX7_pair 10 = .ok (.bipush 6, 2) := by decide +kernel
theorem dX7_pair_12 : decode cX7_pair 12 = .ok (.invokestatic 48, 3) := by decide +kernel
theorem dX7_pair_15 : decode cX7_pair 15 = .ok (.ifCond .ne 5, 3) := by decide +kernel
theorem dX7_pair_18 : decode cX7_pair 18 = .ok (.iconst (-1), 1) := by decide +kernel
theorem dX7_pair_19 : decode cX7_pair 19 = .ok (.ireturn, 1) := by decide +kernel
theorem dX7_pair_20 : decode cX7_pair 20 = .ok (.aload_n 0, 1) := by decide +kernel
theorem dX7_pair_21 : decode cX7_pair 21 = .ok (.getfield 10, 3) := by decide +kernel
theorem dX7_pair_24 : decode cX7_pair 24 = .ok (.iload_n 1, 1) := by decide +kernel
theorem dX7_pair_25 : decode cX7_pair 25 = .ok (.invokevirtual 109, 3) := by decide +kernel
theorem dX7_pair_28 : decode cX7_pair 28 = .ok (.lstore 4, 2) := by decide +kernel
theorem dX7_pair_30 : decode cX7_pair 30 = .ok (.aload_n 0, 1) := by decide +kernel
theorem dX7_pair_31 : decode cX7_pair 31 = .ok (.getfield 10, 3) := by decide +kernel
theorem dX7_pair_34 : decode cX7_pair 34 = .ok (.iload_n 2, 1) := by decide +kernel
theorem dX7_pair_35 : decode cX7_pair 35 = .ok (.invokevirtual 109, 3) := by decide +kernel
theorem dX7_pair_38 : decode cX7_pair 38 = .ok (.lstore 6, 2) := by decide +kernel
theorem dX7_pair_40 : decode cX7_pair 40 = .ok (.iload_n 3, 1) := by decide +kernel
theorem dX7_pair_41 : decode cX7_pair 41 = .ok (.tableswitch 112 0 3 #[31, 48, 75, 98], 31) := by decide +kernel
theorem dX7_pair_72 : decode cX7_pair 72 = .ok (.lload 4, 2) := by decide +kernel
theorem dX7_pair_74 : decode cX7_pair 74 = .ok (.lload 6, 2) := by decide +kernel
theorem dX7_pair_76 : decode cX7_pair 76 = .ok (.lcmp, 1) := by decide +kernel
theorem dX7_pair_77 : decode cX7_pair 77 = .ok (.ifCond .ne 7, 3) := by decide +kernel
theorem dX7_pair_80 : decode cX7_pair 80 = .ok (.iconst 1, 1) := by decide +kernel
theorem dX7_pair_81 : decode cX7_pair 81 = .ok (.goto 4, 3) := by decide +kernel
theorem dX7_pair_84 : decode cX7_pair 84 = .ok (.iconst 0, 1) := by decide +kernel
theorem dX7_pair_85 : decode cX7_pair 85 = .ok (.invokestatic 183, 3) := by decide +kernel
theorem dX7_pair_88 : decode cX7_pair 88 = .ok (.ireturn, 1) := by decide +kernel
theorem dX7_pair_89 : decode cX7_pair 89 = .ok (.lload 4, 2) := by decide +kernel
theorem dX7_pair_91 : decode cX7_pair 91 = .ok (.lload 6, 2) := by decide +kernel
theorem dX7_pair_93 : decode cX7_pair 93 = .ok (.invokestatic 187, 3) := by decide +kernel
theorem dX7_pair_96 : decode cX7_pair 96 = .ok (.lload 6, 2) := by decide +kernel
theorem dX7_pair_98 : decode cX7_pair 98 = .ok (.lload 4, 2) := by decide +kernel
theorem dX7_pair_100 : decode cX7_pair 100 = .ok (.invokestatic 187, 3) := by decide +kernel
theorem dX7_pair_103 : decode cX7_pair 103 = .ok (.lcmp, 1) := by decide +kernel
theorem dX7_pair_104 : decode cX7_pair 104 = .ok (.ifCond .ne 7, 3) := by decide +kernel
theorem dX7_pair_107 : decode cX7_pair 107 = .ok (.iconst 1, 1) := by decide +kernel
theorem dX7_pair_108 : decode cX7_pair 108 = .ok (.goto 4, 3) := by decide +kernel
theorem dX7_pair_111 : decode cX7_pair 111 = .ok (.iconst 0, 1) := by decide +kernel
theorem dX7_pair_112 : decode cX7_pair 112 = .ok (.invokestatic 183, 3) := by decide +kernel
theorem dX7_pair_115 : decode cX7_pair 115 = .ok (.ireturn, 1) := by decide +kernel
theorem dX7_pair_116 : decode cX7_pair 116 = .ok (.lload 4, 2) := by decide +kernel
theorem dX7_pair_118 : decode cX7_pair 118 = .ok (.lload 6, 2) := by decide +kernel
theorem dX7_pair_120 : decode cX7_pair 120 = .ok (.invokestatic 187, 3) := by decide +kernel
theorem dX7_pair_123 : decode cX7_pair 123 = .ok (.ldc2_w 143, 3) := by decide +kernel
theorem dX7_pair_126 : decode cX7_pair 126 = .ok (.lcmp, 1) := by decide +kernel
theorem dX7_pair_127 : decode cX7_pair 127 = .ok (.ifCond .ne 7, 3) := by decide +kernel
theorem dX7_pair_130 : decode cX7_pair 130 = .ok (.iconst 1, 1) := by decide +kernel
theorem dX7_pair_131 : decode cX7_pair 131 = .ok (.goto 4, 3) := by decide +kernel
theorem dX7_pair_134 : decode cX7_pair 134 = .ok (.iconst 0, 1) := by decide +kernel
theorem dX7_pair_135 : decode cX7_pair 135 = .ok (.invokestatic 183, 3) := by decide +kernel
theorem dX7_pair_138 : decode cX7_pair 138 = .ok (.ireturn, 1) := by decide +kernel
theorem dX7_pair_139 : decode cX7_pair 139 = .ok (.sipush 4095, 3) := by decide +kernel
theorem dX7_pair_142 : decode cX7_pair 142 = .ok (.lload 4, 2) := by decide +kernel
theorem dX7_pair_144 : decode cX7_pair 144 = .ok (.lload 6, 2) := by decide +kernel
theorem dX7_pair_146 : decode cX7_pair 146 = .ok (.invokestatic 149, 3) := by decide +kernel
theorem dX7_pair_149 : decode cX7_pair 149 = .ok (.iconst (-1), 1) := by decide +kernel
theorem dX7_pair_150 : decode cX7_pair 150 = .ok (.ixor, 1) := by decide +kernel
theorem dX7_pair_151 : decode cX7_pair 151 = .ok (.iand, 1) := by decide +kernel
theorem dX7_pair_152 : decode cX7_pair 152 = .ok (.ireturn, 1) := by decide +kernel
theorem dX7_pair_153 : decode cX7_pair 153 = .ok (.bipush (-2), 2) := by decide +kernel
theorem dX7_pair_155 : decode cX7_pair 155 = .ok (.ireturn, 1) := by decide +kernel
set_option maxRecDepth 20000 in
theorem ggX7_ways_X7_isBelow : GoodIn wsX7_ways wsX7_isBelow := goodIn_r _ [5] (by decide +kernel) (by decide +kernel)
set_option maxRecDepth 20000 in
theorem gX7_ways_X7_isBelow : GoodIn wsX7_ways (va_wsS RX7 48 yX7_isBelow wsX7_isBelow) := goodIn_app (goodIn_of _ (by decide +kernel)) ggX7_ways_X7_isBelow
set_option maxRecDepth 20000 in
theorem ggX7_ways_X7_gatherWays : GoodIn wsX7_ways wsX7_gatherWays := goodIn_r _ [9, 1, 10, 11, 12, 13, 4, 14, 15, 16, 17, 18, 19, 20, 21, 22, 23, 24, 25, 26, 3, 5, 27, 28, 29, 30, 31, 32, 33, 34, 35, 36, 37, 38, 39, 40, 41, 42, 43, 44, 45, 46, 47, 48, 49, 50, 51, 52, 53, 54, 55, 56, 57, 58, 59, 60, 61, 62, 63, 64, 65, 66, 67, 68, 69, 70, 71, 72, 73, 74, 89, 90, 91, 92, 93, 94, 95, 96, 97, 98, 99, 100, 101, 102, 103, 104, 105, 106, 107, 108] (by decide +kernel) (by decide +kernel)
set_option maxRecDepth 20000 in
theorem gX7_ways_X7_gatherWays : GoodIn wsX7_ways (wsV RX7 176 RX7 yX7_gatherWays wsX7_gatherWays) := goodIn_app (goodIn_of _ (by decide +kernel)) ggX7_ways_X7_gatherWays
set_option maxRecDepth 20000 in
theorem ggX7_ways_X5_allWays : GoodIn wsX7_ways wsX5_allWays := goodIn_r _ [78, 79, 80, 81, 73, 82, 74, 83, 84, 85, 71, 86, 87, 3, 4, 5, 88, 65, 49, 66, 67, 44, 45, 46, 95, 96, 97, 98, 99] (by decide +kernel) (by decide +kernel)
set_option maxRecDepth 20000 in
theorem gX7_ways_X5_allWays : GoodIn wsX7_ways (wsV RX7 190 RX5 yX5_allWays wsX5_allWays) := goodIn_app (goodIn_of _ (by decide +kernel)) ggX7_ways_X5_allWays
theorem dX7_ways_0 : decode cX7_ways 0 = .ok (.iload_n 1, 1) := by decide +kernel
theorem dX7_ways_1 : decode cX7_ways 1 = .ok (.bipush 64, 2) := by decide +kernel
theorem dX7_ways_3 : decode cX7_ways 3 = .ok (.invokestatic 48, 3) := by decide +kernel
theorem dX7_ways_6 : decode cX7_ways 6 = .ok (.ifCond .ne 6, 3) := by decide +kernel
theorem dX7_ways_9 : decode cX7_ways 9 = .ok (.bipush (-2), 2) := by decide +kernel
theorem dX7_ways_11 : decode cX7_ways 11 = .ok (.ireturn, 1) := by decide +kernel
theorem dX7_ways_12 : decode cX7_ways 12 = .ok (.aload_n 0, 1) := by decide +kernel
theorem dX7_ways_13 : decode cX7_ways 13 = .ok (.iload_n 1, 1) := by decide +kernel
theorem dX7_ways_14 : decode cX7_ways 14 = .ok (.invokevirtual 176, 3) := by decide +kernel
theorem dX7_ways_17 : decode cX7_ways 17 = .ok (.aload_n 0, 1) := by decide +kernel
theorem dX7_ways_18 : decode cX7_ways 18 = .ok (.getfield 37, 3) := by decide +kernel
theorem dX7_ways_21 : decode cX7_ways 21 = .ok (.invokevirtual 190, 3) := by decide +kernel
theorem dX7_ways_24 : decode cX7_ways 24 = .ok (.ireturn, 1) := by decide +kernel
set_option maxRecDepth 20000 in
theorem ggX7_untilHome_X7_isBelow : GoodIn wsX7_untilHome wsX7_isBelow := goodIn_r _ [7] (by decide +kernel) (by decide +kernel)
set_option maxRecDepth 20000 in
theorem gX7_untilHome_X7_isBelow : GoodIn wsX7_untilHome (va_wsS RX7 48 yX7_isBelow wsX7_isBelow) := goodIn_app (goodIn_of _ (by decide +kernel)) ggX7_untilHome_X7_isBelow
set_option maxRecDepth 20000 in
theorem ggX7_untilHome_X1_wayOf : GoodIn wsX7_untilHome wsX1_wayOf := goodIn_r _ [12, 13, 14, 15, 16, 17, 11, 18, 19, 5, 6, 7, 20, 21, 22, 23, 24, 25, 26, 27, 28, 29, 30, 31, 32, 33, 34, 35, 36, 37, 38, 39, 40, 41, 42, 43, 44, 45, 46, 47, 48, 49, 50, 51, 52, 53, 54, 55, 56, 57, 58, 59, 60, 61, 62, 77, 78, 70, 71, 72, 73, 74, 75, 76] (by decide +kernel) (by decide +kernel)
set_option maxRecDepth 20000 in
theorem gX7_untilHome_X1_wayOf : GoodIn wsX7_untilHome (wsV RX7 109 RX1 yX1_wayOf wsX1_wayOf) := goodIn_app (goodIn_of _ (by decide +kernel)) ggX7_untilHome_X1_wayOf
set_option maxRecDepth 20000 in
theorem ggX7_untilHome_X4_moved : GoodIn wsX7_untilHome wsX4_moved := goodIn_r _ [57, 58, 37, 38, 39] (by decide +kernel) (by decide +kernel)
set_option maxRecDepth 20000 in
theorem gX7_untilHome_X4_moved : GoodIn wsX7_untilHome (va_wsS RX7 119 yX4_moved wsX4_moved) := goodIn_app (goodIn_of _ (by decide +kernel)) ggX7_untilHome_X4_moved
theorem dX7_untilHome_0 : decode cX7_untilHome 0 = .ok (.iload_n 1, 1) := by decide +kernel
theorem dX7_untilHome_1 : decode cX7_untilHome 1 = .ok (.bipush 6, 2) := by decide +kernel
theorem dX7_untilHome_3 : decode cX7_untilHome 3 = .ok (.invokestatic 48, 3) := by decide +kernel
theorem dX7_untilHome_6 : decode cX7_untilHome 6 = .ok (.ifCond .ne 5, 3) := by decide +kernel
theorem dX7_untilHome_9 : decode cX7_untilHome 9 = .ok (.iconst (-1), 1) := by decide +kernel
theorem dX7_untilHome_10 : decode cX7_untilHome 10 = .ok (.ireturn, 1) := by decide +kernel
theorem dX7_untilHome_11 : decode cX7_untilHome 11 = .ok (.aload_n 0, 1) := by decide +kernel
theorem dX7_untilHome_12 : decode cX7_untilHome 12 = .ok (.getfield 10, 3) := by decide +kernel
theorem dX7_untilHome_15 : decode cX7_untilHome 15 = .ok (.iload_n 1, 1) := by decide +kernel
theorem dX7_untilHome_16 : decode cX7_untilHome 16 = .ok (.invokevirtual 109, 3) := by decide +kernel
theorem dX7_untilHome_19 : decode cX7_untilHome 19 = .ok (.lstore_n 2, 1) := by decide +kernel
theorem dX7_untilHome_20 : decode cX7_untilHome 20 = .ok (.aload_n 0, 1) := by decide +kernel
theorem dX7_untilHome_21 : decode cX7_untilHome 21 = .ok (.getfield 10, 3) := by decide +kernel
theorem dX7_untilHome_24 : decode cX7_untilHome 24 = .ok (.getfield 106, 3) := by decide +kernel
theorem dX7_untilHome_27 : decode cX7_untilHome 27 = .ok (.lstore 4, 2) := by decide +kernel
theorem dX7_untilHome_29 : decode cX7_untilHome 29 = .ok (.iconst 0, 1) := by decide +kernel
theorem dX7_untilHome_30 : decode cX7_untilHome 30 = .ok (.istore 6, 2) := by decide +kernel
theorem dX7_untilHome_32 : decode cX7_untilHome 32 = .ok (.iload 6, 2) := by decide +kernel
theorem dX7_untilHome_34 : decode cX7_untilHome 34 = .ok (.bipush 60, 2) := by decide +kernel
theorem dX7_untilHome_36 : decode cX7_untilHome 36 = .ok (.if_icmp .ge 29, 3) := by decide +kernel
theorem dX7_untilHome_39 : decode cX7_untilHome 39 = .ok (.lload 4, 2) := by decide +kernel
theorem dX7_untilHome_41 : decode cX7_untilHome 41 = .ok (.ldc2_w 143, 3) := by decide +kernel
theorem dX7_untilHome_44 : decode cX7_untilHome 44 = .ok (.lcmp, 1) := by decide +kernel
theorem dX7_untilHome_45 : decode cX7_untilHome 45 = .ok (.ifCond .ne 6, 3) := by decide +kernel
theorem dX7_untilHome_48 : decode cX7_untilHome 48 = .ok (.iload 6, 2) := by decide +kernel
theorem dX7_untilHome_50 : decode cX7_untilHome 50 = .ok (.ireturn, 1) := by decide +kernel
theorem dX7_untilHome_51 : decode cX7_untilHome 51 = .ok (.lload 4, 2) := by decide +kernel
theorem dX7_untilHome_53 : decode cX7_untilHome 53 = .ok (.lload_n 2, 1) := by decide +kernel
theorem dX7_untilHome_54 : decode cX7_untilHome 54 = .ok (.invokestatic 119, 3) := by decide +kernel
theorem dX7_untilHome_57 : decode cX7_untilHome 57 = .ok (.lstore 4, 2) := by decide +kernel
theorem dX7_untilHome_59 : decode cX7_untilHome 59 = .ok (.iinc 6 1, 3) := by decide +kernel
theorem dX7_untilHome_62 : decode cX7_untilHome 62 = .ok (.goto (-30), 3) := by decide +kernel
theorem dX7_untilHome_65 : decode cX7_untilHome 65 = .ok (.bipush (-6), 2) := by decide +kernel
theorem dX7_untilHome_67 : decode cX7_untilHome 67 = .ok (.ireturn, 1) := by decide +kernel
set_option maxRecDepth 20000 in
theorem ggX7_bestDraft_X1_wayOf : GoodIn wsX7_bestDraft wsX1_wayOf := goodIn_r _ [7, 8, 9, 10, 11, 12, 6, 13, 14, 15, 16, 17, 18, 19, 20, 21, 22, 23, 24, 25, 26, 27, 28, 29, 30, 31, 32, 33, 34, 35, 36, 37, 38, 39, 40, 41, 42, 43, 44, 45, 46, 47, 48, 49, 50, 51, 52, 53, 54, 55, 56, 57, 58, 59, 60, 88, 89, 81, 82, 83, 84, 85, 86, 87] (by decide +kernel) (by decide +kernel)
set_option maxRecDepth 20000 in
theorem gX7_bestDraft_X1_wayOf : GoodIn wsX7_bestDraft (wsV RX7 109 RX1 yX1_wayOf wsX1_wayOf) := goodIn_app (goodIn_of _ (by decide +kernel)) ggX7_bestDraft_X1_wayOf
set_option maxRecDepth 20000 in
theorem ggX7_bestDraft_X4_moved : GoodIn wsX7_bestDraft wsX4_moved := goodIn_r _ [55, 56, 35, 36, 37] (by decide +kernel) (by decide +kernel)
set_option maxRecDepth 20000 in
theorem gX7_bestDraft_X4_moved : GoodIn wsX7_bestDraft (va_wsS RX7 119 yX4_moved wsX4_moved) := goodIn_app (goodIn_of _ (by decide +kernel)) ggX7_bestDraft_X4_moved
set_option maxRecDepth 20000 in
theorem ggX7_bestDraft_X6_staying : GoodIn wsX7_bestDraft wsX6_staying := goodIn_r _ [64, 44, 65, 66, 42, 67, 60, 35, 36, 37, 68, 69, 70, 71, 72, 73, 74] (by decide +kernel) (by decide +kernel)
set_option maxRecDepth 20000 in
theorem gX7_bestDraft_X6_staying : GoodIn wsX7_bestDraft (va_wsS RX7 129 yX6_staying wsX6_staying) := goodIn_app (goodIn_of _ (by decide +kernel)) ggX7_bestDraft_X6_staying
theorem dX7_bestDraft_0 : decode cX7_bestDraft 0 = .ok (.iload_n 1, 1) := by decide +kernel
theorem dX7_bestDraft_1 : decode cX7_bestDraft 1 = .ok (.ifCond .eq 11, 3) := by decide +kernel
theorem dX7_bestDraft_4 : decode cX7_bestDraft 4 = .ok (.iload_n 1, 1) := by decide +kernel
theorem dX7_bestDraft_5 : decode cX7_bestDraft 5 = .ok (.iconst 1, 1) := by decide +kernel
theorem dX7_bestDraft_6 : decode cX7_bestDraft 6 = .ok (.if_icmp .eq 6, 3) := by decide +kernel
theorem dX7_bestDraft_9 : decode cX7_bestDraft 9 = .ok (.bipush (-2), 2) := by decide +kernel
theorem dX7_bestDraft_11 : decode cX7_bestDraft 11 = .ok (.ireturn, 1) := by decide +kernel
theorem dX7_bestDraft_12 : decode cX7_bestDraft 12 = .ok (.iconst 0, 1) := by decide +kernel
theorem dX7_bestDraft_13 : decode cX7_bestDraft 13 = .ok (.istore_n 2, 1) := by decide +kernel
theorem dX7_bestDraft_14 : decode cX7_bestDraft 14 = .ok (.iconst (-1), 1) := by decide +kernel
theorem dX7_bestDraft_15 : decode cX7_bestDraft 15 = .ok (.istore_n 3, 1) := by decide +kernel
theorem dX7_bestDraft_16 : decode cX7_bestDraft 16 = .ok (.iconst 0, 1) := by decide +kernel
theorem dX7_bestDraft_17 : decode cX7_bestDraft 17 = .ok (.istore 4, 2) := by decide +kernel
theorem dX7_bestDraft_19 : decode cX7_bestDraft 19 = .ok (.iload 4, 2) := by decide +kernel
theorem dX7_bestDraft_21 : decode cX7_bestDraft 21 = .ok (.bipush 6, 2) := by decide +kernel
theorem dX7_bestDraft_23 : decode cX7_bestDraft 23 = .ok (.if_icmp .ge 45, 3) := by decide +kernel
theorem dX7_bestDraft_26 : decode cX7_bestDraft 26 = .ok (.aload_n 0, 1) := by decide +kernel
theorem dX7_bestDraft_27 : decode cX7_bestDraft 27 = .ok (.getfield 10, 3) := by decide +kernel
theorem dX7_bestDraft_30 : decode cX7_bestDraft 30 = .ok (.getfield 106, 3) := by decide +kernel
theorem dX7_bestDraft_33 : decode cX7_bestDraft 33 = .ok (.aload_n 0, 1) := by decide +kernel
theorem dX7_bestDraft_34 : decode cX7_bestDraft 34 = .ok (.getfield 10, 3) := by decide +kernel
theorem dX7_bestDraft_37 : decode cX7_bestDraft 37 = .ok (.iload 4, 2) := by decide +kernel
theorem dX7_bestDraft_39 : decode cX7_bestDraft 39 = .ok (.invokevirtual 109, 3) := by decide +kernel
theorem dX7_bestDraft_42 : decode cX7_bestDraft 42 = .ok (.invokestatic 119, 3) := by decide +kernel
theorem dX7_bestDraft_45 : decode cX7_bestDraft 45 = .ok (.invokestatic 129, 3) := by decide +kernel
theorem dX7_bestDraft_48 : decode cX7_bestDraft 48 = .ok (.istore 5, 2) := by decide +kernel
theorem dX7_bestDraft_50 : decode cX7_bestDraft 50 = .ok (.iload 5, 2) := by decide +kernel
theorem dX7_bestDraft_52 : decode cX7_bestDraft 52 = .ok (.iload_n 3, 1) := by decide +kernel
theorem dX7_bestDraft_53 : decode cX7_bestDraft 53 = .ok (.if_icmp .le 9, 3) := by decide +kernel
theorem dX7_bestDraft_56 : decode cX7_bestDraft 56 = .ok (.iload 4, 2) := by decide +kernel
theorem dX7_bestDraft_58 : decode cX7_bestDraft 58 = .ok (.istore_n 2, 1) := by decide +kernel
theorem dX7_bestDraft_59 : decode cX7_bestDraft 59 = .ok (.iload 5, 2) := by decide +kernel
theorem dX7_bestDraft_61 : decode cX7_bestDraft 61 = .ok (.istore_n 3, 1) := by decide +kernel
theorem dX7_bestDraft_62 : decode cX7_bestDraft 62 = .ok (.iinc 4 1, 3) := by decide +kernel
theorem dX7_bestDraft_65 : decode cX7_bestDraft 65 = .ok (.goto (-46), 3) := by decide +kernel
theorem dX7_bestDraft_68 : decode cX7_bestDraft 68 = .ok (.iload_n 1, 1) := by decide +kernel
theorem dX7_bestDraft_69 : decode cX7_bestDraft 69 = .ok (.ifCond .ne 7, 3) := by decide +kernel
theorem dX7_bestDraft_72 : decode cX7_bestDraft 72 = .ok (.iload_n 2, 1) := by decide +kernel
theorem dX7_bestDraft_73 : decode cX7_bestDraft 73 = .ok (.goto 4, 3) := by decide +kernel
theorem dX7_bestDraft_76 : decode cX7_bestDraft 76 = .ok (.iload_n 3, 1) := by decide +kernel
theorem dX7_bestDraft_77 : decode cX7_bestDraft 77 = .ok (.ireturn, 1) := by decide +kernel
set_option maxRecDepth 20000 in
theorem ggX7_write_X2_signsIn : GoodIn wsX7_write wsX2_signsIn := goodIn_r _ [6, 7, 8, 9] (by decide +kernel) (by decide +kernel)
set_option maxRecDepth 20000 in
theorem gX7_write_X2_signsIn : GoodIn wsX7_write (va_wsS RX7 193 yX2_signsIn wsX2_signsIn) := goodIn_app (goodIn_of _ (by decide +kernel)) ggX7_write_X2_signsIn
set_option maxRecDepth 20000 in
theorem ggX7_write_X2_append : GoodIn wsX7_write wsX2_append := goodIn_r _ [13, 14, 15, 7, 16, 17, 18, 25, 26] (by decide +kernel) (by decide +kernel)
set_option maxRecDepth 20000 in
theorem gX7_write_X2_append : GoodIn wsX7_write (wsV RX7 196 RX2 yX2_append wsX2_append) := goodIn_app (goodIn_of _ (by decide +kernel)) ggX7_write_X2_append
theorem dX7_write_0 : decode cX7_write 0 = .ok (.lload_n 1, 1) := by decide +kernel
theorem dX7_write_1 : decode cX7_write 1 = .ok (.invokestatic 193, 3) := by decide +kernel
theorem dX7_write_4 : decode cX7_write 4 = .ok (.istore_n 3, 1) := by decide +kernel
theorem dX7_write_5 : decode cX7_write 5 = .ok (.iload_n 3, 1) := by decide +kernel
theorem dX7_write_6 : decode cX7_write 6 = .ok (.ifCond .ne 6, 3) := by decide +kernel
theorem dX7_write_9 : decode cX7_write 9 = .ok (.bipush (-2), 2) := by decide +kernel
theorem dX7_write_11 : decode cX7_write 11 = .ok (.ireturn, 1) := by decide +kernel
theorem dX7_write_12 : decode cX7_write 12 = .ok (.aload_n 0, 1) := by decide +kernel
theorem dX7_write_13 : decode cX7_write 13 = .ok (.getfield 30, 3) := by decide +kernel
theorem dX7_write_16 : decode cX7_write 16 = .ok (.getfield 95, 3) := by decide +kernel
theorem dX7_write_19 : decode cX7_write 19 = .ok (.iload_n 3, 1) := by decide +kernel
theorem dX7_write_20 : decode cX7_write 20 = .ok (.iadd, 1) := by decide +kernel
theorem dX7_write_21 : decode cX7_write 21 = .ok (.bipush 40, 2) := by decide +kernel
theorem dX7_write_23 : decode cX7_write 23 = .ok (.if_icmp .le 6, 3) := by decide +kernel
theorem dX7_write_26 : decode cX7_write 26 = .ok (.bipush (-4), 2) := by decide +kernel
theorem dX7_write_28 : decode cX7_write 28 = .ok (.ireturn, 1) := by decide +kernel
theorem dX7_write_29 : decode cX7_write 29 = .ok (.aload_n 0, 1) := by decide +kernel
theorem dX7_write_30 : decode cX7_write 30 = .ok (.getfield 30, 3) := by decide +kernel
theorem dX7_write_33 : decode cX7_write 33 = .ok (.lload_n 1, 1) := by decide +kernel
theorem dX7_write_34 : decode cX7_write 34 = .ok (.iload_n 3, 1) := by decide +kernel
theorem dX7_write_35 : decode cX7_write 35 = .ok (.invokevirtual 196, 3) := by decide +kernel
theorem dX7_write_38 : decode cX7_write 38 = .ok (.aload_n 0, 1) := by decide +kernel
theorem dX7_write_39 : decode cX7_write 39 = .ok (.getfield 30, 3) := by decide +kernel
theorem dX7_write_42 : decode cX7_write 42 = .ok (.getfield 95, 3) := by decide +kernel
theorem dX7_write_45 : decode cX7_write 45 = .ok (.ireturn, 1) := by decide +kernel
theorem dX7_wipe_0 : decode cX7_wipe 0 = .ok (.aload_n 0, 1) := by decide +kernel
theorem dX7_wipe_1 : decode cX7_wipe 1 = .ok (.getfield 30, 3) := by decide +kernel
theorem dX7_wipe_4 : decode cX7_wipe 4 = .ok (.getfield 95, 3) := by decide +kernel
theorem dX7_wipe_7 : decode cX7_wipe 7 = .ok (.istore_n 1, 1) := by decide +kernel
theorem dX7_wipe_8 : decode cX7_wipe 8 = .ok (.aload_n 0, 1) := by decide +kernel
theorem dX7_wipe_9 : decode cX7_wipe 9 = .ok (.getfield 30, 3) := by decide +kernel
theorem dX7_wipe_12 : decode cX7_wipe 12 = .ok (.iconst 0, 1) := by decide +kernel
theorem dX7_wipe_13 : decode cX7_wipe 13 = .ok (.putfield 95, 3) := by decide +kernel
theorem dX7_wipe_16 : decode cX7_wipe 16 = .ok (.iload_n 1, 1) := by decide +kernel
theorem dX7_wipe_17 : decode cX7_wipe 17 = .ok (.ireturn, 1) := by decide +kernel
set_option maxRecDepth 20000 in
theorem ggX7_fault_X2_layOut : GoodIn wsX7_fault wsX2_layOut := goodIn_r _ [7, 8, 9, 10, 11, 12, 6, 13, 14, 15, 16, 17, 18, 19, 20, 21, 22, 23, 24, 25, 26, 33, 34, 35, 36] (by decide +kernel) (by decide +kernel)
set_option maxRecDepth 20000 in
theorem gX7_fault_X2_layOut : GoodIn wsX7_fault (wsV RX7 87 RX2 yX2_layOut wsX2_layOut) := goodIn_app (goodIn_of _ (by decide +kernel)) ggX7_fault_X2_layOut
theorem dX7_fault_0 : decode cX7_fault 0 = .ok (.aload_n 0, 1) := by decide +kernel
theorem dX7_fault_1 : decode cX7_fault 1 = .ok (.getfield 30, 3) := by decide +kernel
theorem dX7_fault_4 : decode cX7_fault 4 = .ok (.aload_n 0, 1) := by decide +kernel
theorem dX7_fault_5 : decode cX7_fault 5 = .ok (.getfield 44, 3) := by decide +kernel
theorem dX7_fault_8 : decode cX7_fault 8 = .ok (.invokevirtual 87, 3) := by decide +kernel
theorem dX7_fault_11 : decode cX7_fault 11 = .ok (.ireturn, 1) := by decide +kernel
set_option maxRecDepth 20000 in
theorem ggX7_undo_X3_giveBack : GoodIn wsX7_undo wsX3_giveBack := goodIn_r _ [8, 9, 10, 11, 12, 13, 14, 15, 16, 17, 18, 19, 20, 21, 22, 23, 24, 25, 26, 27, 28, 29, 30, 31, 32, 33, 34, 35, 36, 37, 44, 45, 46, 47, 48, 49, 50, 51, 52, 53, 54] (by decide +kernel) (by decide +kernel)
set_option maxRecDepth 20000 in
theorem gX7_undo_X3_giveBack : GoodIn wsX7_undo (wsV RX7 199 RX3 yX3_giveBack wsX3_giveBack) := goodIn_app (goodIn_of _ (by decide +kernel)) ggX7_undo_X3_giveBack
theorem dX7_undo_0 : decode cX7_undo 0 = .ok (.aload_n 0, 1) := by decide +kernel
theorem dX7_undo_1 : decode cX7_undo 1 = .ok (.getfield 19, 3) := by decide +kernel
theorem dX7_undo_4 : decode cX7_undo 4 = .ok (.getfield 172, 3) := by decide +kernel
theorem dX7_undo_7 : decode cX7_undo 7 = .ok (.ifCond .ne 6, 3) := by decide +kernel
theorem dX7_undo_10 : decode cX7_undo 10 = .ok (.bipush (-5), 2) := by decide +kernel
theorem dX7_undo_12 : decode cX7_undo 12 = .ok (.ireturn, 1) := by decide +kernel
theorem dX7_undo_13 : decode cX7_undo 13 = .ok (.aload_n 0, 1) := by decide +kernel
theorem dX7_undo_14 : decode cX7_undo 14 = .ok (.getfield 19, 3) := by decide +kernel
theorem dX7_undo_17 : decode cX7_undo 17 = .ok (.aload_n 0, 1) := by decide +kernel
theorem dX7_undo_18 : decode cX7_undo 18 = .ok (.getfield 10, 3) := by decide +kernel
theorem dX7_undo_21 : decode cX7_undo 21 = .ok (.invokevirtual 199, 3) := by decide +kernel
theorem dX7_undo_24 : decode cX7_undo 24 = .ok (.aload_n 0, 1) := by decide +kernel
theorem dX7_undo_25 : decode cX7_undo 25 = .ok (.getfield 19, 3) := by decide +kernel
theorem dX7_undo_28 : decode cX7_undo 28 = .ok (.getfield 172, 3) := by decide +kernel
theorem dX7_undo_31 : decode cX7_undo 31 = .ok (.ireturn, 1) := by decide +kernel
set_option maxRecDepth 20000 in
theorem ggX7_save_X7_isBelow : GoodIn wsX7_save wsX7_isBelow := goodIn_r _ [10] (by decide +kernel) (by decide +kernel)
set_option maxRecDepth 20000 in
theorem gX7_save_X7_isBelow : GoodIn wsX7_save (va_wsS RX7 48 yX7_isBelow wsX7_isBelow) := goodIn_app (goodIn_of _ (by decide +kernel)) ggX7_save_X7_isBelow
set_option maxRecDepth 20000 in
theorem ggX7_save_X1_init : GoodIn wsX7_save wsX1_init := goodIn_r _ [13, 14, 15, 16, 17, 18, 19, 20, 21, 22, 23, 24, 25, 26, 27, 28, 29, 30, 31, 32, 33, 34, 73, 74, 75, 76, 77, 78, 79, 80, 81] (by decide +kernel) (by decide +kernel)
set_option maxRecDepth 20000 in
theorem gX7_save_X1_init : GoodIn wsX7_save (wsX1_init) := ggX7_save_X1_init
set_option maxRecDepth 20000 in
theorem ggX7_save_X1_copyFrom : GoodIn wsX7_save wsX1_copyFrom := goodIn_r _ [38, 18, 20, 21, 23, 39, 40, 41, 42, 25, 26, 27, 43, 44, 45, 29, 46, 33, 47, 34, 73, 74, 75, 76, 77, 78, 79, 80, 81] (by decide +kernel) (by decide +kernel)
set_option maxRecDepth 20000 in
theorem gX7_save_X1_copyFrom : GoodIn wsX7_save (wsV RX7 202 RX1 yX1_copyFrom wsX1_copyFrom) := goodIn_app (goodIn_of _ (by decide +kernel)) ggX7_save_X1_copyFrom
set_option maxRecDepth 20000 in
theorem ggX7_save_X6_staying : GoodIn wsX7_save wsX6_staying := goodIn_r _ [51, 52, 53, 54, 50, 55, 56, 57, 58, 59, 60, 61, 62, 63, 64, 65, 66] (by decide +kernel) (by decide +kernel)
set_option maxRecDepth 20000 in
theorem gX7_save_X6_staying : GoodIn wsX7_save (va_wsS RX7 129 yX6_staying wsX6_staying) := goodIn_app (goodIn_of _ (by decide +kernel)) ggX7_save_X6_staying
theorem dX7_save_0 : decode cX7_save 0 = .ok (.iload_n 1, 1) := by decide +kernel
theorem dX7_save_1 : decode cX7_save 1 = .ok (.iconst 2, 1) := by decide +kernel
theorem dX7_save_2 : decode cX7_save 2 = .ok (.invokestatic 48, 3) := by decide +kernel
theorem dX7_save_5 : decode cX7_save 5 = .ok (.ifCond .ne 6, 3) := by decide +kernel
theorem dX7_save_8 : decode cX7_save 8 = .ok (.bipush (-2), 2) := by decide +kernel
theorem dX7_save_10 : decode cX7_save 10 = .ok (.ireturn, 1) := by decide +kernel
theorem dX7_save_11 : decode cX7_save 11 = .ok (.aload_n 0, 1) := by decide +kernel
theorem dX7_save_12 : decode cX7_save 12 = .ok (.getfield 23, 3) := by decide +kernel
theorem dX7_save_15 : decode cX7_save 15 = .ok (.iload_n 1, 1) := by decide +kernel
theorem dX7_save_16 : decode cX7_save 16 = .ok (.aaload, 1) := by decide +kernel
theorem dX7_save_17 : decode cX7_save 17 = .ok (.astore_n 2, 1) := by decide +kernel
theorem dX7_save_18 : decode cX7_save 18 = .ok (.aload_n 2, 1) := by decide +kernel
theorem dX7_save_19 : decode cX7_save 19 = .ok (.ifnonnull 11, 3) := by decide +kernel
theorem dX7_save_22 : decode cX7_save 22 = .ok (.new 7, 3) := by decide +kernel
theorem dX7_save_25 : decode cX7_save 25 = .ok (.dup, 1) := by decide +kernel
theorem dX7_save_26 : decode cX7_save 26 = .ok (.invokespecial 9, 3) := by decide +kernel
theorem dX7_save_29 : decode cX7_save 29 = .ok (.astore_n 2, 1) := by decide +kernel
theorem dX7_save_30 : decode cX7_save 30 = .ok (.aload_n 2, 1) := by decide +kernel
theorem dX7_save_31 : decode cX7_save 31 = .ok (.aload_n 0, 1) := by decide +kernel
theorem dX7_save_32 : decode cX7_save 32 = .ok (.getfield 10, 3) := by decide +kernel
theorem dX7_save_35 : decode cX7_save 35 = .ok (.invokevirtual 202, 3) := by decide +kernel
theorem dX7_save_38 : decode cX7_save 38 = .ok (.aload_n 0, 1) := by decide +kernel
theorem dX7_save_39 : decode cX7_save 39 = .ok (.getfield 23, 3) := by decide +kernel
theorem dX7_save_42 : decode cX7_save 42 = .ok (.iload_n 1, 1) := by decide +kernel
theorem dX7_save_43 : decode cX7_save 43 = .ok (.aload_n 2, 1) := by decide +kernel
theorem dX7_save_44 : decode cX7_save 44 = .ok (.aastore, 1) := by decide +kernel
theorem dX7_save_45 : decode cX7_save 45 = .ok (.aload_n 0, 1) := by decide +kernel
theorem dX7_save_46 : decode cX7_save 46 = .ok (.getfield 10, 3) := by decide +kernel
theorem dX7_save_49 : decode cX7_save 49 = .ok (.getfield 106, 3) := by decide +kernel
theorem dX7_save_52 : decode cX7_save 52 = .ok (.invokestatic 129, 3) := by decide +kernel
theorem dX7_save_55 : decode cX7_save 55 = .ok (.ireturn, 1) := by decide +kernel
set_option maxRecDepth 20000 in
theorem ggX7_restore_X7_isBelow : GoodIn wsX7_restore wsX7_isBelow := goodIn_r _ [8] (by decide +kernel) (by decide +kernel)
set_option maxRecDepth 20000 in
theorem gX7_restore_X7_isBelow : GoodIn wsX7_restore (va_wsS RX7 48 yX7_isBelow wsX7_isBelow) := goodIn_app (goodIn_of _ (by decide +kernel)) ggX7_restore_X7_isBelow
set_option maxRecDepth 20000 in
theorem ggX7_restore_X3_keep : GoodIn wsX7_restore wsX3_keep := goodIn_r _ [13, 14, 15, 16, 17, 18, 19, 20, 21, 12, 22, 6, 7, 8, 23, 24, 25, 26, 27, 28, 29, 30, 31, 32, 33, 34, 35, 36, 37, 38, 39, 40, 41, 42, 43, 44, 45, 46, 47, 48, 49, 50, 51, 52, 53, 54, 55, 56, 57, 58, 59, 93, 94, 86, 87, 88, 89, 90, 91, 92, 95, 96] (by decide +kernel) (by decide +kernel)
set_option maxRecDepth 20000 in
theorem gX7_restore_X3_keep : GoodIn wsX7_restore (wsV RX7 52 RX3 yX3_keep wsX3_keep) := goodIn_app (goodIn_of _ (by decide +kernel)) ggX7_restore_X3_keep
set_option maxRecDepth 20000 in
theorem ggX7_restore_X1_copyFrom : GoodIn wsX7_restore wsX1_copyFrom := goodIn_r _ [50, 30, 32, 33, 35, 51, 52, 53, 54, 37, 38, 39, 55, 56, 57, 41, 58, 45, 59, 46, 86, 87, 88, 89, 90, 91, 92, 95, 96] (by decide +kernel) (by decide +kernel)
set_option maxRecDepth 20000 in
theorem gX7_restore_X1_copyFrom : GoodIn wsX7_restore (wsV RX7 202 RX1 yX1_copyFrom wsX1_copyFrom) := goodIn_app (goodIn_of _ (by decide +kernel)) ggX7_restore_X1_copyFrom
set_option maxRecDepth 20000 in
theorem ggX7_restore_X6_staying : GoodIn wsX7_restore wsX6_staying := goodIn_r _ [64, 65, 66, 67, 63, 68, 69, 70, 71, 72, 73, 74, 75, 76, 77, 78, 79] (by decide +kernel) (by decide +kernel)
set_option maxRecDepth 20000 in
theorem gX7_restore_X6_staying : GoodIn wsX7_restore (va_wsS RX7 129 yX6_staying wsX6_staying) := goodIn_app (goodIn_of _ (by decide +kernel)) ggX7_restore_X6_staying
theorem dX7_restore_0 : decode cX7_restore 0 = .ok (.iload_n 1, 1) := by decide +kernel
theorem dX7_restore_1 : decode cX7_restore 1 = .ok (.iconst 2, 1) := by decide +kernel
theorem dX7_restore_2 : decode cX7_restore 2 = .ok (.invokestatic 48, 3) := by decide +kernel
theorem dX7_restore_5 : decode cX7_restore 5 = .ok (.ifCond .ne 6, 3) := by decide +kernel
theorem dX7_restore_8 : decode cX7_restore 8 = .ok (.bipush (-2), 2) := by decide +kernel
theorem dX7_restore_10 : decode cX7_restore 10 = .ok (.ireturn, 1) := by decide +kernel
theorem dX7_restore_11 : decode cX7_restore 11 = .ok (.aload_n 0, 1) := by decide +kernel
theorem dX7_restore_12 : decode cX7_restore 12 = .ok (.getfield 23, 3) := by decide +kernel
theorem dX7_restore_15 : decode cX7_restore 15 = .ok (.iload_n 1, 1) := by decide +kernel
theorem dX7_restore_16 : decode cX7_restore 16 = .ok (.aaload, 1) := by decide +kernel
theorem dX7_restore_17 : decode cX7_restore 17 = .ok (.astore_n 2, 1) := by decide +kernel
theorem dX7_restore_18 : decode cX7_restore 18 = .ok (.aload_n 2, 1) := by decide +kernel
theorem dX7_restore_19 : decode cX7_restore 19 = .ok (.ifnonnull 6, 3) := by decide +kernel
theorem dX7_restore_22 : decode cX7_restore 22 = .ok (.bipush (-5), 2) := by decide +kernel
theorem dX7_restore_24 : decode cX7_restore 24 = .ok (.ireturn, 1) := by decide +kernel
theorem dX7_restore_25 : decode cX7_restore 25 = .ok (.aload_n 0, 1) := by decide +kernel
theorem dX7_restore_26 : decode cX7_restore 26 = .ok (.getfield 19, 3) := by decide +kernel
theorem dX7_restore_29 : decode cX7_restore 29 = .ok (.aload_n 0, 1) := by decide +kernel
theorem dX7_restore_30 : decode cX7_restore 30 = .ok (.getfield 10, 3) := by decide +kernel
theorem dX7_restore_33 : decode cX7_restore 33 = .ok (.invokevirtual 52, 3) := by decide +kernel
theorem dX7_restore_36 : decode cX7_restore 36 = .ok (.aload_n 0, 1) := by decide +kernel
theorem dX7_restore_37 : decode cX7_restore 37 = .ok (.getfield 10, 3) := by decide +kernel
theorem dX7_restore_40 : decode cX7_restore 40 = .ok (.aload_n 2, 1) := by decide +kernel
theorem dX7_restore_41 : decode cX7_restore 41 = .ok (.invokevirtual 202, 3) := by decide +kernel
theorem dX7_restore_44 : decode cX7_restore 44 = .ok (.aload_n 0, 1) := by decide +kernel
theorem dX7_restore_45 : decode cX7_restore 45 = .ok (.getfield 10, 3) := by decide +kernel
theorem dX7_restore_48 : decode cX7_restore 48 = .ok (.getfield 106, 3) := by decide +kernel
theorem dX7_restore_51 : decode cX7_restore 51 = .ok (.invokestatic 129, 3) := by decide +kernel
theorem dX7_restore_54 : decode cX7_restore 54 = .ok (.ireturn, 1) := by decide +kernel
set_option maxRecDepth 20000 in
theorem ggX7_gatherWays_X7_hasBit : GoodIn wsX7_gatherWays wsX7_hasBit := goodIn_r _ [7] (by decide +kernel) (by decide +kernel)
set_option maxRecDepth 20000 in
theorem gX7_gatherWays_X7_hasBit : GoodIn wsX7_gatherWays (va_wsS RX7 173 yX7_hasBit wsX7_hasBit) := goodIn_app (goodIn_of _ (by decide +kernel)) ggX7_gatherWays_X7_hasBit
set_option maxRecDepth 20000 in
theorem ggX7_gatherWays_X1_wayOf : GoodIn wsX7_gatherWays wsX1_wayOf := goodIn_r _ [12, 13, 14, 15, 16, 17, 11, 18, 19, 20, 6, 21, 22, 23, 24, 25, 26, 27, 28, 29, 30, 31, 32, 33, 34, 35, 36, 37, 38, 39, 40, 41, 5, 7, 42, 43, 44, 45, 46, 47, 48, 49, 50, 51, 52, 53, 54, 55, 56, 57, 58, 59, 60, 61, 62, 81, 82, 83, 84, 85, 86, 87, 88, 89] (by decide +kernel) (by decide +kernel)
set_option maxRecDepth 20000 in
theorem gX7_gatherWays_X1_wayOf : GoodIn wsX7_gatherWays (wsV RX7 109 RX1 yX1_wayOf wsX1_wayOf) := goodIn_app (goodIn_of _ (by decide +kernel)) ggX7_gatherWays_X1_wayOf
set_option maxRecDepth 20000 in
theorem ggX7_gatherWays_X5_addMaker : GoodIn wsX7_gatherWays wsX5_addMaker := goodIn_r _ [67, 68, 69, 20, 6, 21, 76, 77, 78, 79, 80] (by decide +kernel) (by decide +kernel)
set_option maxRecDepth 20000 in
theorem gX7_gatherWays_X5_addMaker : GoodIn wsX7_gatherWays (wsV RX7 207 RX5 yX5_addMaker wsX5_addMaker) := goodIn_app (goodIn_of _ (by decide +kernel)) ggX7_gatherWays_X5_addMaker
theorem dX7_gatherWays_0 : decode cX7_gatherWays 0 = .ok (.aload_n 0, 1) := by decide +kernel
theorem dX7_gatherWays_1 : decode cX7_gatherWays 1 = .ok (.getfield 37, 3) := by decide +kernel
theorem dX7_gatherWays_4 : decode cX7_gatherWays 4 = .ok (.iconst 0, 1) := by decide +kernel
theorem dX7_gatherWays_5 : decode cX7_gatherWays 5 = .ok (.putfield 204, 3) := by decide +kernel
theorem dX7_gatherWays_8 : decode cX7_gatherWays 8 = .ok (.iconst 0, 1) := by decide +kernel
theorem dX7_gatherWays_9 : decode cX7_gatherWays 9 = .ok (.istore_n 2, 1) := by decide +kernel
theorem dX7_gatherWays_10 : decode cX7_gatherWays 10 = .ok (.iload_n 2, 1) := by decide +kernel
theorem dX7_gatherWays_11 : decode cX7_gatherWays 11 = .ok (.bipush 6, 2) := by decide +kernel
theorem dX7_gatherWays_13 : decode cX7_gatherWays 13 = .ok (.if_icmp .ge 32, 3) := by decide +kernel
theorem dX7_gatherWays_16 : decode cX7_gatherWays 16 = .ok (.iload_n 1, 1) := by decide +kernel
theorem dX7_gatherWays_17 : decode cX7_gatherWays 17 = .ok (.iload_n 2, 1) := by decide +kernel
theorem dX7_gatherWays_18 : decode cX7_gatherWays 18 = .ok (.invokestatic 173, 3) := by decide +kernel
theorem dX7_gatherWays_21 : decode cX7_gatherWays 21 = .ok (.ifCond .eq 18, 3) := by decide +kernel
theorem dX7_gatherWays_24 : decode cX7_gatherWays 24 = .ok (.aload_n 0, 1) := by decide +kernel
theorem dX7_gatherWays_25 : decode cX7_gatherWays 25 = .ok (.getfield 37, 3) := by decide +kernel
end
section
theorem dX7_gatherWays_28 : decode cX7_gatherWays 28 = .ok (.aload_n 0, 1) := by decide +kernel
theorem dX7_gatherWays_29 : decode cX7_gatherWays 29 = .ok (.getfield 10, 3) := by decide +kernel
theorem dX7_gatherWays_32 : decode cX7_gatherWays 32 = .ok (.iload_n 2, 1) := by decide +kernel
theorem dX7_gatherWays_33 : decode cX7_gatherWays 33 = .ok (.invokevirtual 109, 3) := by decide +kernel
theorem dX7_gatherWays_36 : decode cX7_gatherWays 36 = .ok (.invokevirtual 207, 3) := by decide +kernel
theorem dX7_gatherWays_39 : decode cX7_gatherWays 39 = .ok (.iinc 2 1, 3) := by decide +kernel
theorem dX7_gatherWays_42 : decode cX7_gatherWays 42 = .ok (.goto (-32), 3) := by decide +kernel
theorem dX7_gatherWays_45 : decode cX7_gatherWays 45 = .ok (.return_, 1) := by decide +kernel
theorem dX7_isBelow_0 : decode cX7_isBelow 0 = .ok (.iload_n 0, 1) := by decide +kernel
theorem dX7_isBelow_1 : decode cX7_isBelow 1 = .ok (.ifCond .lt 12, 3) := by decide +kernel
theorem dX7_isBelow_4 : decode cX7_isBelow 4 = .ok (.iload_n 0, 1) := by decide +kernel
theorem dX7_isBelow_5 : decode cX7_isBelow 5 = .ok (.iload_n 1, 1) := by decide +kernel
theorem dX7_isBelow_6 : decode cX7_isBelow 6 = .ok (.if_icmp .ge 7, 3) := by decide +kernel
theorem dX7_isBelow_9 : decode cX7_isBelow 9 = .ok (.iconst 1, 1) := by decide +kernel
theorem dX7_isBelow_10 : decode cX7_isBelow 10 = .ok (.goto 4, 3) := by decide +kernel
theorem dX7_isBelow_13 : decode cX7_isBelow 13 = .ok (.iconst 0, 1) := by decide +kernel
theorem dX7_isBelow_14 : decode cX7_isBelow 14 = .ok (.ireturn, 1) := by decide +kernel
theorem dX7_hasBit_0 : decode cX7_hasBit 0 = .ok (.iload_n 0, 1) := by decide +kernel
theorem dX7_hasBit_1 : decode cX7_hasBit 1 = .ok (.iload_n 1, 1) := by decide +kernel
theorem dX7_hasBit_2 : decode cX7_hasBit 2 = .ok (.ishr, 1) := by decide +kernel
theorem dX7_hasBit_3 : decode cX7_hasBit 3 = .ok (.iconst 1, 1) := by decide +kernel
theorem dX7_hasBit_4 : decode cX7_hasBit 4 = .ok (.iand, 1) := by decide +kernel
theorem dX7_hasBit_5 : decode cX7_hasBit 5 = .ok (.iconst 1, 1) := by decide +kernel
theorem dX7_hasBit_6 : decode cX7_hasBit 6 = .ok (.if_icmp .ne 7, 3) := by decide +kernel
theorem dX7_hasBit_9 : decode cX7_hasBit 9 = .ok (.iconst 1, 1) := by decide +kernel
theorem dX7_hasBit_10 : decode cX7_hasBit 10 = .ok (.goto 4, 3) := by decide +kernel
theorem dX7_hasBit_13 : decode cX7_hasBit 13 = .ok (.iconst 0, 1) := by decide +kernel
theorem dX7_hasBit_14 : decode cX7_hasBit 14 = .ok (.ireturn, 1) := by decide +kernel
theorem dX7_asNumber_0 : decode cX7_asNumber 0 = .ok (.iload_n 0, 1) := by decide +kernel
theorem dX7_asNumber_1 : decode cX7_asNumber 1 = .ok (.ifCond .eq 7, 3) := by decide +kernel
theorem dX7_asNumber_4 : decode cX7_asNumber 4 = .ok (.iconst 1, 1) := by decide +kernel
theorem dX7_asNumber_5 : decode cX7_asNumber 5 = .ok (.goto 4, 3) := by decide +kernel
theorem dX7_asNumber_8 : decode cX7_asNumber 8 = .ok (.iconst 0, 1) := by decide +kernel
theorem dX7_asNumber_9 : decode cX7_asNumber 9 = .ok (.ireturn, 1) := by decide +kernel
theorem dX8_init_0 : decode cX8_init 0 = .ok (.aload_n 0, 1) := by decide +kernel
theorem dX8_init_1 : decode cX8_init 1 = .ok (.invokespecial 1, 3) := by decide +kernel
theorem dX8_init_4 : decode cX8_init 4 = .ok (.aload_n 0, 1) := by decide +kernel
theorem dX8_init_5 : decode cX8_init 5 = .ok (.sipush 194, 3) := by decide +kernel
theorem dX8_init_8 : decode cX8_init 8 = .ok (.newarray .int, 2) := by decide +kernel
theorem dX8_init_10 : decode cX8_init 10 = .ok (.putfield 7, 3) := by decide +kernel
theorem dX8_init_13 : decode cX8_init 13 = .ok (.aload_n 0, 1) := by decide +kernel
theorem dX8_init_14 : decode cX8_init 14 = .ok (.sipush 1164, 3) := by decide +kernel
theorem dX8_init_17 : decode cX8_init 17 = .ok (.newarray .int, 2) := by decide +kernel
theorem dX8_init_19 : decode cX8_init 19 = .ok (.putfield 13, 3) := by decide +kernel
theorem dX8_init_22 : decode cX8_init 22 = .ok (.aload_n 0, 1) := by decide +kernel
theorem dX8_init_23 : decode cX8_init 23 = .ok (.sipush 388, 3) := by decide +kernel
theorem dX8_init_26 : decode cX8_init 26 = .ok (.newarray .int, 2) := by decide +kernel
theorem dX8_init_28 : decode cX8_init 28 = .ok (.putfield 16, 3) := by decide +kernel
theorem dX8_init_31 : decode cX8_init 31 = .ok (.aload_n 0, 1) := by decide +kernel
theorem dX8_init_32 : decode cX8_init 32 = .ok (.iconst 2, 1) := by decide +kernel
theorem dX8_init_33 : decode cX8_init 33 = .ok (.newarray .int, 2) := by decide +kernel
theorem dX8_init_35 : decode cX8_init 35 = .ok (.putfield 19, 3) := by decide +kernel
theorem dX8_init_38 : decode cX8_init 38 = .ok (.aload_n 0, 1) := by decide +kernel
theorem dX8_init_39 : decode cX8_init 39 = .ok (.bipush 40, 2) := by decide +kernel
theorem dX8_init_41 : decode cX8_init 41 = .ok (.newarray .int, 2) := by decide +kernel
theorem dX8_init_43 : decode cX8_init 43 = .ok (.putfield 22, 3) := by decide +kernel
theorem dX8_init_46 : decode cX8_init 46 = .ok (.aload_n 0, 1) := by decide +kernel
theorem dX8_init_47 : decode cX8_init 47 = .ok (.bipush 24, 2) := by decide +kernel
theorem dX8_init_49 : decode cX8_init 49 = .ok (.newarray .int, 2) := by decide +kernel
theorem dX8_init_51 : decode cX8_init 51 = .ok (.putfield 25, 3) := by decide +kernel
theorem dX8_init_54 : decode cX8_init 54 = .ok (.aload_n 0, 1) := by decide +kernel
theorem dX8_init_55 : decode cX8_init 55 = .ok (.bipush 72, 2) := by decide +kernel
theorem dX8_init_57 : decode cX8_init 57 = .ok (.newarray .int, 2) := by decide +kernel
theorem dX8_init_59 : decode cX8_init 59 = .ok (.putfield 28, 3) := by decide +kernel
theorem dX8_init_62 : decode cX8_init 62 = .ok (.aload_n 0, 1) := by decide +kernel
theorem dX8_init_63 : decode cX8_init 63 = .ok (.bipush 12, 2) := by decide +kernel
theorem dX8_init_65 : decode cX8_init 65 = .ok (.newarray .int, 2) := by decide +kernel
theorem dX8_init_67 : decode cX8_init 67 = .ok (.putfield 31, 3) := by decide +kernel
theorem dX8_init_70 : decode cX8_init 70 = .ok (.aload_n 0, 1) := by decide +kernel
theorem dX8_init_71 : decode cX8_init 71 = .ok (.bipush 12, 2) := by decide +kernel
theorem dX8_init_73 : decode cX8_init 73 = .ok (.newarray .int, 2) := by decide +kernel
theorem dX8_init_75 : decode cX8_init 75 = .ok (.putfield 34, 3) := by decide +kernel
theorem dX8_init_78 : decode cX8_init 78 = .ok (.aload_n 0, 1) := by decide +kernel
theorem dX8_init_79 : decode cX8_init 79 = .ok (.sipush 3600, 3) := by decide +kernel
theorem dX8_init_82 : decode cX8_init 82 = .ok (.newarray .int, 2) := by decide +kernel
theorem dX8_init_84 : decode cX8_init 84 = .ok (.putfield 37, 3) := by decide +kernel
theorem dX8_init_87 : decode cX8_init 87 = .ok (.iconst 0, 1) := by decide +kernel
theorem dX8_init_88 : decode cX8_init 88 = .ok (.istore_n 1, 1) := by decide +kernel
theorem dX8_init_89 : decode cX8_init 89 = .ok (.iload_n 1, 1) := by decide +kernel
theorem dX8_init_90 : decode cX8_init 90 = .ok (.bipush 12, 2) := by decide +kernel
theorem dX8_init_92 : decode cX8_init 92 = .ok (.if_icmp .ge 31, 3) := by decide +kernel
theorem dX8_init_95 : decode cX8_init 95 = .ok (.aload_n 0, 1) := by decide +kernel
theorem dX8_init_96 : decode cX8_init 96 = .ok (.getfield 7, 3) := by decide +kernel
theorem dX8_init_99 : decode cX8_init 99 = .ok (.iconst 0, 1) := by decide +kernel
theorem dX8_init_100 : decode cX8_init 100 = .ok (.iload_n 1, 1) := by decide +kernel
theorem dX8_init_101 : decode cX8_init 101 = .ok (.iadd, 1) := by decide +kernel
theorem dX8_init_102 : decode cX8_init 102 = .ok (.iload_n 1, 1) := by decide +kernel
theorem dX8_init_103 : decode cX8_init 103 = .ok (.bipush 6, 2) := by decide +kernel
theorem dX8_init_105 : decode cX8_init 105 = .ok (.irem, 1) := by decide +kernel
theorem dX8_init_106 : decode cX8_init 106 = .ok (.iastore, 1) := by decide +kernel
theorem dX8_init_107 : decode cX8_init 107 = .ok (.aload_n 0, 1) := by decide +kernel
theorem dX8_init_108 : decode cX8_init 108 = .ok (.getfield 7, 3) := by decide +kernel
theorem dX8_init_111 : decode cX8_init 111 = .ok (.bipush 18, 2) := by decide +kernel
theorem dX8_init_113 : decode cX8_init 113 = .ok (.iload_n 1, 1) := by decide +kernel
theorem dX8_init_114 : decode cX8_init 114 = .ok (.iadd, 1) := by decide +kernel
theorem dX8_init_115 : decode cX8_init 115 = .ok (.iload_n 1, 1) := by decide +kernel
theorem dX8_init_116 : decode cX8_init 116 = .ok (.iastore, 1) := by decide +kernel
theorem dX8_init_117 : decode cX8_init 117 = .ok (.iinc 1 1, 3) := by decide +kernel
theorem dX8_init_120 : decode cX8_init 120 = .ok (.goto (-31), 3) := by decide +kernel
theorem dX8_init_123 : decode cX8_init 123 = .ok (.iconst 0, 1) := by decide +kernel
theorem dX8_init_124 : decode cX8_init 124 = .ok (.istore_n 1, 1) := by decide +kernel
theorem dX8_init_125 : decode cX8_init 125 = .ok (.iload_n 1, 1) := by decide +kernel
theorem dX8_init_126 : decode cX8_init 126 = .ok (.bipush 6, 2) := by decide +kernel
theorem dX8_init_128 : decode cX8_init 128 = .ok (.if_icmp .ge 21, 3) := by decide +kernel
theorem dX8_init_131 : decode cX8_init 131 = .ok (.aload_n 0, 1) := by decide +kernel
theorem dX8_init_132 : decode cX8_init 132 = .ok (.getfield 7, 3) := by decide +kernel
theorem dX8_init_135 : decode cX8_init 135 = .ok (.bipush 12, 2) := by decide +kernel
theorem dX8_init_137 : decode cX8_init 137 = .ok (.iload_n 1, 1) := by decide +kernel
theorem dX8_init_138 : decode cX8_init 138 = .ok (.iadd, 1) := by decide +kernel
theorem dX8_init_139 : decode cX8_init 139 = .ok (.iconst 1, 1) := by decide +kernel
theorem dX8_init_140 : decode cX8_init 140 = .ok (.iload_n 1, 1) := by decide +kernel
theorem dX8_init_141 : decode cX8_init 141 = .ok (.ishl, 1) := by decide +kernel
theorem dX8_init_142 : decode cX8_init 142 = .ok (.iastore, 1) := by decide +kernel
theorem dX8_init_143 : decode cX8_init 143 = .ok (.iinc 1 1, 3) := by decide +kernel
theorem dX8_init_146 : decode cX8_init 146 = .ok (.goto (-21), 3) := by decide +kernel
theorem dX8_init_149 : decode cX8_init 149 = .ok (.return_, 1) := by decide +kernel
theorem dX8_within_0 : decode cX8_within 0 = .ok (.iload_n 0, 1) := by decide +kernel
theorem dX8_within_1 : decode cX8_within 1 = .ok (.iload_n 1, 1) := by decide +kernel
theorem dX8_within_2 : decode cX8_within 2 = .ok (.if_icmp .lt 12, 3) := by decide +kernel
theorem dX8_within_5 : decode cX8_within 5 = .ok (.iload_n 0, 1) := by decide +kernel
theorem dX8_within_6 : decode cX8_within 6 = .ok (.iload_n 2, 1) := by decide +kernel
theorem dX8_within_7 : decode cX8_within 7 = .ok (.if_icmp .gt 7, 3) := by decide +kernel
theorem dX8_within_10 : decode cX8_within 10 = .ok (.iconst 1, 1) := by decide +kernel
theorem dX8_within_11 : decode cX8_within 11 = .ok (.goto 4, 3) := by decide +kernel
theorem dX8_within_14 : decode cX8_within 14 = .ok (.iconst 0, 1) := by decide +kernel
theorem dX8_within_15 : decode cX8_within 15 = .ok (.ireturn, 1) := by decide +kernel
set_option maxRecDepth 20000 in
theorem ggX8_isPlace_X8_within : GoodIn wsX8_isPlace wsX8_within := goodIn_r _ [4] (by decide +kernel) (by decide +kernel)
set_option maxRecDepth 20000 in
theorem gX8_isPlace_X8_within : GoodIn wsX8_isPlace (va_wsS RX8 40 yX8_within wsX8_within) := goodIn_app (goodIn_of _ (by decide +kernel)) ggX8_isPlace_X8_within
theorem dX8_isPlace_0 : decode cX8_isPlace 0 = .ok (.iload_n 0, 1) := by decide +kernel
theorem dX8_isPlace_1 : decode cX8_isPlace 1 = .ok (.iconst 0, 1) := by decide +kernel
theorem dX8_isPlace_2 : decode cX8_isPlace 2 = .ok (.bipush 11, 2) := by decide +kernel
theorem dX8_isPlace_4 : decode cX8_isPlace 4 = .ok (.invokestatic 40, 3) := by decide +kernel
theorem dX8_isPlace_7 : decode cX8_isPlace 7 = .ok (.ireturn, 1) := by decide +kernel
set_option maxRecDepth 20000 in
theorem ggX8_isDraft_X8_within : GoodIn wsX8_isDraft wsX8_within := goodIn_r _ [4] (by decide +kernel) (by decide +kernel)
set_option maxRecDepth 20000 in
theorem gX8_isDraft_X8_within : GoodIn wsX8_isDraft (va_wsS RX8 40 yX8_within wsX8_within) := goodIn_app (goodIn_of _ (by decide +kernel)) ggX8_isDraft_X8_within
theorem dX8_isDraft_0 : decode cX8_isDraft 0 = .ok (.iload_n 0, 1) := by decide +kernel
theorem dX8_isDraft_1 : decode cX8_isDraft 1 = .ok (.iconst 0, 1) := by decide +kernel
theorem dX8_isDraft_2 : decode cX8_isDraft 2 = .ok (.iconst 5, 1) := by decide +kernel
theorem dX8_isDraft_3 : decode cX8_isDraft 3 = .ok (.invokestatic 40, 3) := by decide +kernel
theorem dX8_isDraft_6 : decode cX8_isDraft 6 = .ok (.ireturn, 1) := by decide +kernel
set_option maxRecDepth 20000 in
theorem ggX8_areDrafts_X8_within : GoodIn wsX8_areDrafts wsX8_within := goodIn_r _ [4] (by decide +kernel) (by decide +kernel)
set_option maxRecDepth 20000 in
theorem gX8_areDrafts_X8_within : GoodIn wsX8_areDrafts (va_wsS RX8 40 yX8_within wsX8_within) := goodIn_app (goodIn_of _ (by decide +kernel)) ggX8_areDrafts_X8_within
theorem dX8_areDrafts_0 : decode cX8_areDrafts 0 = .ok (.iload_n 0, 1) := by decide +kernel
theorem dX8_areDrafts_1 : decode cX8_areDrafts 1 = .ok (.iconst 0, 1) := by decide +kernel
theorem dX8_areDrafts_2 : decode cX8_areDrafts 2 = .ok (.bipush 63, 2) := by decide +kernel
theorem dX8_areDrafts_4 : decode cX8_areDrafts 4 = .ok (.invokestatic 40, 3) := by decide +kernel
theorem dX8_areDrafts_7 : decode cX8_areDrafts 7 = .ok (.ireturn, 1) := by decide +kernel
theorem dX8_ones_0 : decode cX8_ones 0 = .ok (.iconst 0, 1) := by decide +kernel
theorem dX8_ones_1 : decode cX8_ones 1 = .ok (.istore_n 1, 1) := by decide +kernel
theorem dX8_ones_2 : decode cX8_ones 2 = .ok (.iconst 0, 1) := by decide +kernel
theorem dX8_ones_3 : decode cX8_ones 3 = .ok (.istore_n 2, 1) := by decide +kernel
theorem dX8_ones_4 : decode cX8_ones 4 = .ok (.iload_n 2, 1) := by decide +kernel
theorem dX8_ones_5 : decode cX8_ones 5 = .ok (.bipush 12, 2) := by decide +kernel
theorem dX8_ones_7 : decode cX8_ones 7 = .ok (.if_icmp .ge 17, 3) := by decide +kernel
theorem dX8_ones_10 : decode cX8_ones 10 = .ok (.iload_n 1, 1) := by decide +kernel
theorem dX8_ones_11 : decode cX8_ones 11 = .ok (.iload_n 0, 1) := by decide +kernel
theorem dX8_ones_12 : decode cX8_ones 12 = .ok (.iload_n 2, 1) := by decide +kernel
theorem dX8_ones_13 : decode cX8_ones 13 = .ok (.ishr, 1) := by decide +kernel
theorem dX8_ones_14 : decode cX8_ones 14 = .ok (.iconst 1, 1) := by decide +kernel
theorem dX8_ones_15 : decode cX8_ones 15 = .ok (.iand, 1) := by decide +kernel
theorem dX8_ones_16 : decode cX8_ones 16 = .ok (.iadd, 1) := by decide +kernel
theorem dX8_ones_17 : decode cX8_ones 17 = .ok (.istore_n 1, 1) := by decide +kernel
theorem dX8_ones_18 : decode cX8_ones 18 = .ok (.iinc 2 1, 3) := by decide +kernel
theorem dX8_ones_21 : decode cX8_ones 21 = .ok (.goto (-17), 3) := by decide +kernel
theorem dX8_ones_24 : decode cX8_ones 24 = .ok (.iload_n 1, 1) := by decide +kernel
theorem dX8_ones_25 : decode cX8_ones 25 = .ok (.ireturn, 1) := by decide +kernel
theorem dX8_record_0 : decode cX8_record 0 = .ok (.aload_n 0, 1) := by decide +kernel
theorem dX8_record_1 : decode cX8_record 1 = .ok (.getfield 44, 3) := by decide +kernel
theorem dX8_record_4 : decode cX8_record 4 = .ok (.bipush 6, 2) := by decide +kernel
theorem dX8_record_6 : decode cX8_record 6 = .ok (.if_icmp .ne 44, 3) := by decide +kernel
theorem dX8_record_9 : decode cX8_record 9 = .ok (.iconst 0, 1) := by decide +kernel
theorem dX8_record_10 : decode cX8_record 10 = .ok (.istore_n 1, 1) := by decide +kernel
theorem dX8_record_11 : decode cX8_record 11 = .ok (.iload_n 1, 1) := by decide +kernel
theorem dX8_record_12 : decode cX8_record 12 = .ok (.sipush 970, 3) := by decide +kernel
theorem dX8_record_15 : decode cX8_record 15 = .ok (.if_icmp .ge 25, 3) := by decide +kernel
theorem dX8_record_18 : decode cX8_record 18 = .ok (.aload_n 0, 1) := by decide +kernel
theorem dX8_record_19 : decode cX8_record 19 = .ok (.getfield 13, 3) := by decide +kernel
theorem dX8_record_22 : decode cX8_record 22 = .ok (.iload_n 1, 1) := by decide +kernel
theorem dX8_record_23 : decode cX8_record 23 = .ok (.aload_n 0, 1) := by decide +kernel
theorem dX8_record_24 : decode cX8_record 24 = .ok (.getfield 13, 3) := by decide +kernel
theorem dX8_record_27 : decode cX8_record 27 = .ok (.iload_n 1, 1) := by decide +kernel
theorem dX8_record_28 : decode cX8_record 28 = .ok (.sipush 194, 3) := by decide +kernel
theorem dX8_record_31 : decode cX8_record 31 = .ok (.iadd, 1) := by decide +kernel
theorem dX8_record_32 : decode cX8_record 32 = .ok (.iaload, 1) := by decide +kernel
theorem dX8_record_33 : decode cX8_record 33 = .ok (.iastore, 1) := by decide +kernel
theorem dX8_record_34 : decode cX8_record 34 = .ok (.iinc 1 1, 3) := by decide +kernel
theorem dX8_record_37 : decode cX8_record 37 = .ok (.goto (-26), 3) := by decide +kernel
theorem dX8_record_40 : decode cX8_record 40 = .ok (.aload_n 0, 1) := by decide +kernel
theorem dX8_record_41 : decode cX8_record 41 = .ok (.dup, 1) := by decide +kernel
theorem dX8_record_42 : decode cX8_record 42 = .ok (.getfield 44, 3) := by decide +kernel
theorem dX8_record_45 : decode cX8_record 45 = .ok (.iconst 1, 1) := by decide +kernel
theorem dX8_record_46 : decode cX8_record 46 = .ok (.isub, 1) := by decide +kernel
theorem dX8_record_47 : decode cX8_record 47 = .ok (.putfield 44, 3) := by decide +kernel
theorem dX8_record_50 : decode cX8_record 50 = .ok (.iconst 0, 1) := by decide +kernel
theorem dX8_record_51 : decode cX8_record 51 = .ok (.istore_n 1, 1) := by decide +kernel
theorem dX8_record_52 : decode cX8_record 52 = .ok (.iload_n 1, 1) := by decide +kernel
theorem dX8_record_53 : decode cX8_record 53 = .ok (.sipush 194, 3) := by decide +kernel
theorem dX8_record_56 : decode cX8_record 56 = .ok (.if_icmp .ge 30, 3) := by decide +kernel
theorem dX8_record_59 : decode cX8_record 59 = .ok (.aload_n 0, 1) := by decide +kernel
theorem dX8_record_60 : decode cX8_record 60 = .ok (.getfield 13, 3) := by decide +kernel
theorem dX8_record_63 : decode cX8_record 63 = .ok (.aload_n 0, 1) := by decide +kernel
theorem dX8_record_64 : decode cX8_record 64 = .ok (.getfield 44, 3) := by decide +kernel
theorem dX8_record_67 : decode cX8_record 67 = .ok (.sipush 194, 3) := by decide +kernel
theorem dX8_record_70 : decode cX8_record 70 = .ok (.imul, 1) := by decide +kernel
theorem dX8_record_71 : decode cX8_record 71 = .ok (.iload_n 1, 1) := by decide +kernel
theorem dX8_record_72 : decode cX8_record 72 = .ok (.iadd, 1) := by decide +kernel
theorem dX8_record_73 : decode cX8_record 73 = .ok (.aload_n 0, 1) := by decide +kernel
theorem dX8_record_74 : decode cX8_record 74 = .ok (.getfield 7, 3) := by decide +kernel
theorem dX8_record_77 : decode cX8_record 77 = .ok (.iload_n 1, 1) := by decide +kernel
theorem dX8_record_78 : decode cX8_record 78 = .ok (.iaload, 1) := by decide +kernel
theorem dX8_record_79 : decode cX8_record 79 = .ok (.iastore, 1) := by decide +kernel
theorem dX8_record_80 : decode cX8_record 80 = .ok (.iinc 1 1, 3) := by decide +kernel
theorem dX8_record_83 : decode cX8_record 83 = .ok (.goto (-31), 3) := by decide +kernel
theorem dX8_record_86 : decode cX8_record 86 = .ok (.aload_n 0, 1) := by decide +kernel
theorem dX8_record_87 : decode cX8_record 87 = .ok (.dup, 1) := by decide +kernel
theorem dX8_record_88 : decode cX8_record 88 = .ok (.getfield 44, 3) := by decide +kernel
theorem dX8_record_91 : decode cX8_record 91 = .ok (.iconst 1, 1) := by decide +kernel
theorem dX8_record_92 : decode cX8_record 92 = .ok (.iadd, 1) := by decide +kernel
theorem dX8_record_93 : decode cX8_record 93 = .ok (.putfield 44, 3) := by decide +kernel
theorem dX8_record_96 : decode cX8_record 96 = .ok (.return_, 1) := by decide +kernel
theorem dX8_undo_0 : decode cX8_undo 0 = .ok (.aload_n 0, 1) := by decide +kernel
theorem dX8_undo_1 : decode cX8_undo 1 = .ok (.getfield 44, 3) := by decide +kernel
theorem dX8_undo_4 : decode cX8_undo 4 = .ok (.ifCond .ne 6, 3) := by decide +kernel
theorem dX8_undo_7 : decode cX8_undo 7 = .ok (.bipush (-5), 2) := by decide +kernel
theorem dX8_undo_9 : decode cX8_undo 9 = .ok (.ireturn, 1) := by decide +kernel
theorem dX8_undo_10 : decode cX8_undo 10 = .ok (.aload_n 0, 1) := by decide +kernel
theorem dX8_undo_11 : decode cX8_undo 11 = .ok (.dup, 1) := by decide +kernel
theorem dX8_undo_12 : decode cX8_undo 12 = .ok (.getfield 44, 3) := by decide +kernel
theorem dX8_undo_15 : decode cX8_undo 15 = .ok (.iconst 1, 1) := by decide +kernel
theorem dX8_undo_16 : decode cX8_undo 16 = .ok (.isub, 1) := by decide +kernel
theorem dX8_undo_17 : decode cX8_undo 17 = .ok (.putfield 44, 3) := by decide +kernel
theorem dX8_undo_20 : decode cX8_undo 20 = .ok (.iconst 0, 1) := by decide +kernel
theorem dX8_undo_21 : decode cX8_undo 21 = .ok (.istore_n 1, 1) := by decide +kernel
theorem dX8_undo_22 : decode cX8_undo 22 = .ok (.iload_n 1, 1) := by decide +kernel
theorem dX8_undo_23 : decode cX8_undo 23 = .ok (.sipush 194, 3) := by decide +kernel
theorem dX8_undo_26 : decode cX8_undo 26 = .ok (.if_icmp .ge 30, 3) := by decide +kernel
theorem dX8_undo_29 : decode cX8_undo 29 = .ok (.aload_n 0, 1) := by decide +kernel
theorem dX8_undo_30 : decode cX8_undo 30 = .ok (.getfield 7, 3) := by decide +kernel
theorem dX8_undo_33 : decode cX8_undo 33 = .ok (.iload_n 1, 1) := by decide +kernel
theorem dX8_undo_34 : decode cX8_undo 34 = .ok (.aload_n 0, 1) := by decide +kernel
theorem dX8_undo_35 : decode cX8_undo 35 = .ok (.getfield 13, 3) := by decide +kernel
theorem dX8_undo_38 : decode cX8_undo 38 = .ok (.aload_n 0, 1) := by decide +kernel
theorem dX8_undo_39 : decode cX8_undo 39 = .ok (.getfield 44, 3) := by decide +kernel
theorem dX8_undo_42 : decode cX8_undo 42 = .ok (.sipush 194, 3) := by decide +kernel
theorem dX8_undo_45 : decode cX8_undo 45 = .ok (.imul, 1) := by decide +kernel
theorem dX8_undo_46 : decode cX8_undo 46 = .ok (.iload_n 1, 1) := by decide +kernel
theorem dX8_undo_47 : decode cX8_undo 47 = .ok (.iadd, 1) := by decide +kernel
theorem dX8_undo_48 : decode cX8_undo 48 = .ok (.iaload, 1) := by decide +kernel
theorem dX8_undo_49 : decode cX8_undo 49 = .ok (.iastore, 1) := by decide +kernel
theorem dX8_undo_50 : decode cX8_undo 50 = .ok (.iinc 1 1, 3) := by decide +kernel
theorem dX8_undo_53 : decode cX8_undo 53 = .ok (.goto (-31), 3) := by decide +kernel
theorem dX8_undo_56 : decode cX8_undo 56 = .ok (.aload_n 0, 1) := by decide +kernel
theorem dX8_undo_57 : decode cX8_undo 57 = .ok (.getfield 44, 3) := by decide +kernel
theorem dX8_undo_60 : decode cX8_undo 60 = .ok (.ireturn, 1) := by decide +kernel
set_option maxRecDepth 20000 in
theorem ggX8_save_X8_within : GoodIn wsX8_save wsX8_within := goodIn_r _ [7] (by decide +kernel) (by decide +kernel)
set_option maxRecDepth 20000 in
theorem gX8_save_X8_within : GoodIn wsX8_save (va_wsS RX8 40 yX8_within wsX8_within) := goodIn_app (goodIn_of _ (by decide +kernel)) ggX8_save_X8_within
set_option maxRecDepth 20000 in
theorem ggX8_save_X8_atHome : GoodIn wsX8_save wsX8_atHome := goodIn_r _ [11, 2, 12, 13, 14, 15, 16, 17, 18, 19, 20, 21, 22, 23, 24, 25, 26] (by decide +kernel) (by decide +kernel)
set_option maxRecDepth 20000 in
theorem gX8_save_X8_atHome : GoodIn wsX8_save (wsV RX8 48 RX8 yX8_atHome wsX8_atHome) := goodIn_app (goodIn_of _ (by decide +kernel)) ggX8_save_X8_atHome
theorem dX8_save_0 : decode cX8_save 0 = .ok (.iload_n 1, 1) := by decide +kernel
theorem dX8_save_1 : decode cX8_save 1 = .ok (.iconst 0, 1) := by decide +kernel
theorem dX8_save_2 : decode cX8_save 2 = .ok (.iconst 1, 1) := by decide +kernel
theorem dX8_save_3 : decode cX8_save 3 = .ok (.invokestatic 40, 3) := by decide +kernel
theorem dX8_save_6 : decode cX8_save 6 = .ok (.ifCond .ne 6, 3) := by decide +kernel
theorem dX8_save_9 : decode cX8_save 9 = .ok (.bipush (-2), 2) := by decide +kernel
theorem dX8_save_11 : decode cX8_save 11 = .ok (.ireturn, 1) := by decide +kernel
theorem dX8_save_12 : decode cX8_save 12 = .ok (.iconst 0, 1) := by decide +kernel
theorem dX8_save_13 : decode cX8_save 13 = .ok (.istore_n 2, 1) := by decide +kernel
theorem dX8_save_14 : decode cX8_save 14 = .ok (.iload_n 2, 1) := by decide +kernel
theorem dX8_save_15 : decode cX8_save 15 = .ok (.sipush 194, 3) := by decide +kernel
theorem dX8_save_18 : decode cX8_save 18 = .ok (.if_icmp .ge 27, 3) := by decide +kernel
theorem dX8_save_21 : decode cX8_save 21 = .ok (.aload_n 0, 1) := by decide +kernel
theorem dX8_save_22 : decode cX8_save 22 = .ok (.getfield 16, 3) := by decide +kernel
theorem dX8_save_25 : decode cX8_save 25 = .ok (.sipush 194, 3) := by decide +kernel
theorem dX8_save_28 : decode cX8_save 28 = .ok (.iload_n 1, 1) := by decide +kernel
theorem dX8_save_29 : decode cX8_save 29 = .ok (.imul, 1) := by decide +kernel
theorem dX8_save_30 : decode cX8_save 30 = .ok (.iload_n 2, 1) := by decide +kernel
theorem dX8_save_31 : decode cX8_save 31 = .ok (.iadd, 1) := by decide +kernel
theorem dX8_save_32 : decode cX8_save 32 = .ok (.aload_n 0, 1) := by decide +kernel
theorem dX8_save_33 : decode cX8_save 33 = .ok (.getfield 7, 3) := by decide +kernel
theorem dX8_save_36 : decode cX8_save 36 = .ok (.iload_n 2, 1) := by decide +kernel
theorem dX8_save_37 : decode cX8_save 37 = .ok (.iaload, 1) := by decide +kernel
theorem dX8_save_38 : decode cX8_save 38 = .ok (.iastore, 1) := by decide +kernel
theorem dX8_save_39 : decode cX8_save 39 = .ok (.iinc 2 1, 3) := by decide +kernel
theorem dX8_save_42 : decode cX8_save 42 = .ok (.goto (-28), 3) := by decide +kernel
theorem dX8_save_45 : decode cX8_save 45 = .ok (.aload_n 0, 1) := by decide +kernel
theorem dX8_save_46 : decode cX8_save 46 = .ok (.getfield 19, 3) := by decide +kernel
theorem dX8_save_49 : decode cX8_save 49 = .ok (.iload_n 1, 1) := by decide +kernel
theorem dX8_save_50 : decode cX8_save 50 = .ok (.iconst 1, 1) := by decide +kernel
theorem dX8_save_51 : decode cX8_save 51 = .ok (.iastore, 1) := by decide +kernel
theorem dX8_save_52 : decode cX8_save 52 = .ok (.aload_n 0, 1) := by decide +kernel
theorem dX8_save_53 : decode cX8_save 53 = .ok (.invokevirtual 48, 3) := by decide +kernel
theorem dX8_save_56 : decode cX8_save 56 = .ok (.ireturn, 1) := by decide +kernel
set_option maxRecDepth 20000 in
theorem ggX8_restore_X8_within : GoodIn wsX8_restore wsX8_within := goodIn_r _ [7] (by decide +kernel) (by decide +kernel)
set_option maxRecDepth 20000 in
theorem gX8_restore_X8_within : GoodIn wsX8_restore (va_wsS RX8 40 yX8_within wsX8_within) := goodIn_app (goodIn_of _ (by decide +kernel)) ggX8_restore_X8_within
set_option maxRecDepth 20000 in
theorem ggX8_restore_X8_record : GoodIn wsX8_restore wsX8_record := goodIn_r _ [11, 12, 13, 2, 18, 19, 20, 21, 22, 23, 24, 25, 26, 27, 28, 29, 30, 31, 32] (by decide +kernel) (by decide +kernel)
set_option maxRecDepth 20000 in
theorem gX8_restore_X8_record : GoodIn wsX8_restore (wsV RX8 52 RX8 yX8_record wsX8_record) := goodIn_app (goodIn_of _ (by decide +kernel)) ggX8_restore_X8_record
set_option maxRecDepth 20000 in
theorem ggX8_restore_X8_atHome : GoodIn wsX8_restore wsX8_atHome := goodIn_r _ [17, 2, 18, 19, 20, 21, 22, 23, 24, 25, 26, 27, 28, 29, 30, 31, 32] (by decide +kernel) (by decide +kernel)
set_option maxRecDepth 20000 in
theorem gX8_restore_X8_atHome : GoodIn wsX8_restore (wsV RX8 48 RX8 yX8_atHome wsX8_atHome) := goodIn_app (goodIn_of _ (by decide +kernel)) ggX8_restore_X8_atHome
theorem dX8_restore_0 : decode cX8_restore 0 = .ok (.iload_n 1, 1) := by decide +kernel
theorem dX8_restore_1 : decode cX8_restore 1 = .ok (.iconst 0, 1) := by decide +kernel
theorem dX8_restore_2 : decode cX8_restore 2 = .ok (.iconst 1, 1) := by decide +kernel
theorem dX8_restore_3 : decode cX8_restore 3 = .ok (.invokestatic 40, 3) := by decide +kernel
theorem dX8_restore_6 : decode cX8_restore 6 = .ok (.ifCond .ne 6, 3) := by decide +kernel
theorem dX8_restore_9 : decode cX8_restore 9 = .ok (.bipush (-2), 2) := by decide +kernel
theorem dX8_restore_11 : decode cX8_restore 11 = .ok (.ireturn, 1) := by decide +kernel
theorem dX8_restore_12 : decode cX8_restore 12 = .ok (.aload_n 0, 1) := by decide +kernel
theorem dX8_restore_13 : decode cX8_restore 13 = .ok (.getfield 19, 3) := by decide +kernel
theorem dX8_restore_16 : decode cX8_restore 16 = .ok (.iload_n 1, 1) := by decide +kernel
theorem dX8_restore_17 : decode cX8_restore 17 = .ok (.iaload, 1) := by decide +kernel
theorem dX8_restore_18 : decode cX8_restore 18 = .ok (.ifCond .ne 6, 3) := by decide +kernel
theorem dX8_restore_21 : decode cX8_restore 21 = .ok (.bipush (-5), 2) := by decide +kernel
theorem dX8_restore_23 : decode cX8_restore 23 = .ok (.ireturn, 1) := by decide +kernel
theorem dX8_restore_24 : decode cX8_restore 24 = .ok (.aload_n 0, 1) := by decide +kernel
theorem dX8_restore_25 : decode cX8_restore 25 = .ok (.invokevirtual 52, 3) := by decide +kernel
theorem dX8_restore_28 : decode cX8_restore 28 = .ok (.iconst 0, 1) := by decide +kernel
theorem dX8_restore_29 : decode cX8_restore 29 = .ok (.istore_n 2, 1) := by decide +kernel
theorem dX8_restore_30 : decode cX8_restore 30 = .ok (.iload_n 2, 1) := by decide +kernel
theorem dX8_restore_31 : decode cX8_restore 31 = .ok (.sipush 194, 3) := by decide +kernel
theorem dX8_restore_34 : decode cX8_restore 34 = .ok (.if_icmp .ge 27, 3) := by decide +kernel
theorem dX8_restore_37 : decode cX8_restore 37 = .ok (.aload_n 0, 1) := by decide +kernel
theorem dX8_restore_38 : decode cX8_restore 38 = .ok (.getfield 7, 3) := by decide +kernel
theorem dX8_restore_41 : decode cX8_restore 41 = .ok (.iload_n 2, 1) := by decide +kernel
theorem dX8_restore_42 : decode cX8_restore 42 = .ok (.aload_n 0, 1) := by decide +kernel
theorem dX8_restore_43 : decode cX8_restore 43 = .ok (.getfield 16, 3) := by decide +kernel
theorem dX8_restore_46 : decode cX8_restore 46 = .ok (.sipush 194, 3) := by decide +kernel
theorem dX8_restore_49 : decode cX8_restore 49 = .ok (.iload_n 1, 1) := by decide +kernel
theorem dX8_restore_50 : decode cX8_restore 50 = .ok (.imul, 1) := by decide +kernel
theorem dX8_restore_51 : decode cX8_restore 51 = .ok (.iload_n 2, 1) := by decide +kernel
theorem dX8_restore_52 : decode cX8_restore 52 = .ok (.iadd, 1) := by decide +kernel
theorem dX8_restore_53 : decode cX8_restore 53 = .ok (.iaload, 1) := by decide +kernel
theorem dX8_restore_54 : decode cX8_restore 54 = .ok (.iastore, 1) := by decide +kernel
theorem dX8_restore_55 : decode cX8_restore 55 = .ok (.iinc 2 1, 3) := by decide +kernel
theorem dX8_restore_58 : decode cX8_restore 58 = .ok (.goto (-28), 3) := by decide +kernel
theorem dX8_restore_61 : decode cX8_restore 61 = .ok (.aload_n 0, 1) := by decide +kernel
theorem dX8_restore_62 : decode cX8_restore 62 = .ok (.invokevirtual 48, 3) := by decide +kernel
theorem dX8_restore_65 : decode cX8_restore 65 = .ok (.ireturn, 1) := by decide +kernel
theorem dX8_raised_0 : decode cX8_raised 0 = .ok (.iconst 0, 1) := by decide +kernel
theorem dX8_raised_1 : decode cX8_raised 1 = .ok (.istore_n 2, 1) := by decide +kernel
theorem dX8_raised_2 : decode cX8_raised 2 = .ok (.iconst 0, 1) := by decide +kernel
theorem dX8_raised_3 : decode cX8_raised 3 = .ok (.istore_n 3, 1) := by decide +kernel
theorem dX8_raised_4 : decode cX8_raised 4 = .ok (.iload_n 3, 1) := by decide +kernel
theorem dX8_raised_5 : decode cX8_raised 5 = .ok (.bipush 12, 2) := by decide +kernel
theorem dX8_raised_7 : decode cX8_raised 7 = .ok (.if_icmp .ge 43, 3) := by decide +kernel
theorem dX8_raised_10 : decode cX8_raised 10 = .ok (.iload_n 2, 1) := by decide +kernel
theorem dX8_raised_11 : decode cX8_raised 11 = .ok (.aload_n 0, 1) := by decide +kernel
theorem dX8_raised_12 : decode cX8_raised 12 = .ok (.getfield 7, 3) := by decide +kernel
theorem dX8_raised_15 : decode cX8_raised 15 = .ok (.bipush 12, 2) := by decide +kernel
theorem dX8_raised_17 : decode cX8_raised 17 = .ok (.iload_n 1, 1) := by decide +kernel
theorem dX8_raised_18 : decode cX8_raised 18 = .ok (.iadd, 1) := by decide +kernel
theorem dX8_raised_19 : decode cX8_raised 19 = .ok (.iaload, 1) := by decide +kernel
theorem dX8_raised_20 : decode cX8_raised 20 = .ok (.aload_n 0, 1) := by decide +kernel
theorem dX8_raised_21 : decode cX8_raised 21 = .ok (.getfield 7, 3) := by decide +kernel
theorem dX8_raised_24 : decode cX8_raised 24 = .ok (.iconst 0, 1) := by decide +kernel
theorem dX8_raised_25 : decode cX8_raised 25 = .ok (.iload_n 3, 1) := by decide +kernel
theorem dX8_raised_26 : decode cX8_raised 26 = .ok (.iadd, 1) := by decide +kernel
theorem dX8_raised_27 : decode cX8_raised 27 = .ok (.iaload, 1) := by decide +kernel
theorem dX8_raised_28 : decode cX8_raised 28 = .ok (.ishr, 1) := by decide +kernel
theorem dX8_raised_29 : decode cX8_raised 29 = .ok (.iconst 1, 1) := by decide +kernel
theorem dX8_raised_30 : decode cX8_raised 30 = .ok (.iand, 1) := by decide +kernel
theorem dX8_raised_31 : decode cX8_raised 31 = .ok (.iconst 1, 1) := by decide +kernel
theorem dX8_raised_32 : decode cX8_raised 32 = .ok (.if_icmp .ne 9, 3) := by decide +kernel
theorem dX8_raised_35 : decode cX8_raised 35 = .ok (.iconst 1, 1) := by decide +kernel
theorem dX8_raised_36 : decode cX8_raised 36 = .ok (.iload_n 3, 1) := by decide +kernel
theorem dX8_raised_37 : decode cX8_raised 37 = .ok (.ishl, 1) := by decide +kernel
theorem dX8_raised_38 : decode cX8_raised 38 = .ok (.goto 4, 3) := by decide +kernel
theorem dX8_raised_41 : decode cX8_raised 41 = .ok (.iconst 0, 1) := by decide +kernel
theorem dX8_raised_42 : decode cX8_raised 42 = .ok (.ior, 1) := by decide +kernel
theorem dX8_raised_43 : decode cX8_raised 43 = .ok (.istore_n 2, 1) := by decide +kernel
theorem dX8_raised_44 : decode cX8_raised 44 = .ok (.iinc 3 1, 3) := by decide +kernel
theorem dX8_raised_47 : decode cX8_raised 47 = .ok (.goto (-43), 3) := by decide +kernel
theorem dX8_raised_50 : decode cX8_raised 50 = .ok (.iload_n 2, 1) := by decide +kernel
theorem dX8_raised_51 : decode cX8_raised 51 = .ok (.ireturn, 1) := by decide +kernel
theorem dX8_atHome_0 : decode cX8_atHome 0 = .ok (.iconst 0, 1) := by decide +kernel
theorem dX8_atHome_1 : decode cX8_atHome 1 = .ok (.istore_n 1, 1) := by decide +kernel
theorem dX8_atHome_2 : decode cX8_atHome 2 = .ok (.iconst 0, 1) := by decide +kernel
theorem dX8_atHome_3 : decode cX8_atHome 3 = .ok (.istore_n 2, 1) := by decide +kernel
theorem dX8_atHome_4 : decode cX8_atHome 4 = .ok (.iload_n 2, 1) := by decide +kernel
theorem dX8_atHome_5 : decode cX8_atHome 5 = .ok (.bipush 12, 2) := by decide +kernel
theorem dX8_atHome_7 : decode cX8_atHome 7 = .ok (.if_icmp .ge 30, 3) := by decide +kernel
theorem dX8_atHome_10 : decode cX8_atHome 10 = .ok (.iload_n 1, 1) := by decide +kernel
theorem dX8_atHome_11 : decode cX8_atHome 11 = .ok (.aload_n 0, 1) := by decide +kernel
theorem dX8_atHome_12 : decode cX8_atHome 12 = .ok (.getfield 7, 3) := by decide +kernel
theorem dX8_atHome_15 : decode cX8_atHome 15 = .ok (.bipush 18, 2) := by decide +kernel
theorem dX8_atHome_17 : decode cX8_atHome 17 = .ok (.iload_n 2, 1) := by decide +kernel
theorem dX8_atHome_18 : decode cX8_atHome 18 = .ok (.iadd, 1) := by decide +kernel
theorem dX8_atHome_19 : decode cX8_atHome 19 = .ok (.iaload, 1) := by decide +kernel
theorem dX8_atHome_20 : decode cX8_atHome 20 = .ok (.iload_n 2, 1) := by decide +kernel
theorem dX8_atHome_21 : decode cX8_atHome 21 = .ok (.if_icmp .ne 7, 3) := by decide +kernel
theorem dX8_atHome_24 : decode cX8_atHome 24 = .ok (.iconst 1, 1) := by decide +kernel
theorem dX8_atHome_25 : decode cX8_atHome 25 = .ok (.goto 4, 3) := by decide +kernel
theorem dX8_atHome_28 : decode cX8_atHome 28 = .ok (.iconst 0, 1) := by decide +kernel
theorem dX8_atHome_29 : decode cX8_atHome 29 = .ok (.iadd, 1) := by decide +kernel
theorem dX8_atHome_30 : decode cX8_atHome 30 = .ok (.istore_n 1, 1) := by decide +kernel
theorem dX8_atHome_31 : decode cX8_atHome 31 = .ok (.iinc 2 1, 3) := by decide +kernel
theorem dX8_atHome_34 : decode cX8_atHome 34 = .ok (.goto (-30), 3) := by decide +kernel
theorem dX8_atHome_37 : decode cX8_atHome 37 = .ok (.iload_n 1, 1) := by decide +kernel
theorem dX8_atHome_38 : decode cX8_atHome 38 = .ok (.ireturn, 1) := by decide +kernel
set_option maxRecDepth 20000 in
theorem ggX8_pressed_X8_raised : GoodIn wsX8_pressed wsX8_raised := goodIn_r _ [5, 6, 7, 8, 9, 10, 11, 12, 13, 14, 15, 16, 17, 18, 19, 20, 21] (by decide +kernel) (by decide +kernel)
set_option maxRecDepth 20000 in
theorem gX8_pressed_X8_raised : GoodIn wsX8_pressed (wsV RX8 55 RX8 yX8_raised wsX8_raised) := goodIn_app (goodIn_of _ (by decide +kernel)) ggX8_pressed_X8_raised
theorem dX8_pressed_0 : decode cX8_pressed 0 = .ok (.aload_n 0, 1) := by decide +kernel
theorem dX8_pressed_1 : decode cX8_pressed 1 = .ok (.iload_n 2, 1) := by decide +kernel
theorem dX8_pressed_2 : decode cX8_pressed 2 = .ok (.bipush 6, 2) := by decide +kernel
theorem dX8_pressed_4 : decode cX8_pressed 4 = .ok (.irem, 1) := by decide +kernel
theorem dX8_pressed_5 : decode cX8_pressed 5 = .ok (.invokevirtual 55, 3) := by decide +kernel
theorem dX8_pressed_8 : decode cX8_pressed 8 = .ok (.istore_n 3, 1) := by decide +kernel
theorem dX8_pressed_9 : decode cX8_pressed 9 = .ok (.iload_n 3, 1) := by decide +kernel
theorem dX8_pressed_10 : decode cX8_pressed 10 = .ok (.iload_n 1, 1) := by decide +kernel
theorem dX8_pressed_11 : decode cX8_pressed 11 = .ok (.ishr, 1) := by decide +kernel
theorem dX8_pressed_12 : decode cX8_pressed 12 = .ok (.iconst 1, 1) := by decide +kernel
theorem dX8_pressed_13 : decode cX8_pressed 13 = .ok (.iand, 1) := by decide +kernel
theorem dX8_pressed_14 : decode cX8_pressed 14 = .ok (.ifCond .ne 5, 3) := by decide +kernel
theorem dX8_pressed_17 : decode cX8_pressed 17 = .ok (.iload_n 1, 1) := by decide +kernel
theorem dX8_pressed_18 : decode cX8_pressed 18 = .ok (.ireturn, 1) := by decide +kernel
theorem dX8_pressed_19 : decode cX8_pressed 19 = .ok (.iload_n 2, 1) := by decide +kernel
theorem dX8_pressed_20 : decode cX8_pressed 20 = .ok (.bipush 6, 2) := by decide +kernel
theorem dX8_pressed_22 : decode cX8_pressed 22 = .ok (.if_icmp .ge 7, 3) := by decide +kernel
theorem dX8_pressed_25 : decode cX8_pressed 25 = .ok (.iconst 1, 1) := by decide +kernel
theorem dX8_pressed_26 : decode cX8_pressed 26 = .ok (.goto 5, 3) := by decide +kernel
theorem dX8_pressed_29 : decode cX8_pressed 29 = .ok (.bipush 11, 2) := by decide +kernel
theorem dX8_pressed_31 : decode cX8_pressed 31 = .ok (.istore 4, 2) := by decide +kernel
theorem dX8_pressed_33 : decode cX8_pressed 33 = .ok (.iload_n 1, 1) := by decide +kernel
theorem dX8_pressed_34 : decode cX8_pressed 34 = .ok (.iload 4, 2) := by decide +kernel
theorem dX8_pressed_36 : decode cX8_pressed 36 = .ok (.iadd, 1) := by decide +kernel
theorem dX8_pressed_37 : decode cX8_pressed 37 = .ok (.bipush 12, 2) := by decide +kernel
theorem dX8_pressed_39 : decode cX8_pressed 39 = .ok (.irem, 1) := by decide +kernel
theorem dX8_pressed_40 : decode cX8_pressed 40 = .ok (.istore 5, 2) := by decide +kernel
theorem dX8_pressed_42 : decode cX8_pressed 42 = .ok (.iload_n 3, 1) := by decide +kernel
theorem dX8_pressed_43 : decode cX8_pressed 43 = .ok (.iload 5, 2) := by decide +kernel
theorem dX8_pressed_45 : decode cX8_pressed 45 = .ok (.ishr, 1) := by decide +kernel
theorem dX8_pressed_46 : decode cX8_pressed 46 = .ok (.iconst 1, 1) := by decide +kernel
theorem dX8_pressed_47 : decode cX8_pressed 47 = .ok (.iand, 1) := by decide +kernel
theorem dX8_pressed_48 : decode cX8_pressed 48 = .ok (.ifCond .ne 16, 3) := by decide +kernel
theorem dX8_pressed_51 : decode cX8_pressed 51 = .ok (.iload 5, 2) := by decide +kernel
theorem dX8_pressed_53 : decode cX8_pressed 53 = .ok (.iload 4, 2) := by decide +kernel
theorem dX8_pressed_55 : decode cX8_pressed 55 = .ok (.iadd, 1) := by decide +kernel
theorem dX8_pressed_56 : decode cX8_pressed 56 = .ok (.bipush 12, 2) := by decide +kernel
theorem dX8_pressed_58 : decode cX8_pressed 58 = .ok (.irem, 1) := by decide +kernel
theorem dX8_pressed_59 : decode cX8_pressed 59 = .ok (.istore 5, 2) := by decide +kernel
theorem dX8_pressed_61 : decode cX8_pressed 61 = .ok (.goto (-19), 3) := by decide +kernel
theorem dX8_pressed_64 : decode cX8_pressed 64 = .ok (.iload 5, 2) := by decide +kernel
theorem dX8_pressed_66 : decode cX8_pressed 66 = .ok (.ireturn, 1) := by decide +kernel
theorem dX8_lengthOf_0 : decode cX8_lengthOf 0 = .ok (.aload_n 0, 1) := by decide +kernel
theorem dX8_lengthOf_1 : decode cX8_lengthOf 1 = .ok (.getfield 7, 3) := by decide +kernel
theorem dX8_lengthOf_4 : decode cX8_lengthOf 4 = .ok (.bipush 42, 2) := by decide +kernel
theorem dX8_lengthOf_6 : decode cX8_lengthOf 6 = .ok (.iload_n 1, 1) := by decide +kernel
theorem dX8_lengthOf_7 : decode cX8_lengthOf 7 = .ok (.iadd, 1) := by decide +kernel
theorem dX8_lengthOf_8 : decode cX8_lengthOf 8 = .ok (.iaload, 1) := by decide +kernel
theorem dX8_lengthOf_9 : decode cX8_lengthOf 9 = .ok (.ireturn, 1) := by decide +kernel
theorem dX8_pressOf_0 : decode cX8_pressOf 0 = .ok (.aload_n 0, 1) := by decide +kernel
theorem dX8_pressOf_1 : decode cX8_pressOf 1 = .ok (.getfield 7, 3) := by decide +kernel
theorem dX8_pressOf_4 : decode cX8_pressOf 4 = .ok (.bipush 48, 2) := by decide +kernel
theorem dX8_pressOf_6 : decode cX8_pressOf 6 = .ok (.bipush 24, 2) := by decide +kernel
theorem dX8_pressOf_8 : decode cX8_pressOf 8 = .ok (.iload_n 1, 1) := by decide +kernel
theorem dX8_pressOf_9 : decode cX8_pressOf 9 = .ok (.imul, 1) := by decide +kernel
theorem dX8_pressOf_10 : decode cX8_pressOf 10 = .ok (.iadd, 1) := by decide +kernel
theorem dX8_pressOf_11 : decode cX8_pressOf 11 = .ok (.iload_n 2, 1) := by decide +kernel
theorem dX8_pressOf_12 : decode cX8_pressOf 12 = .ok (.iadd, 1) := by decide +kernel
theorem dX8_pressOf_13 : decode cX8_pressOf 13 = .ok (.iaload, 1) := by decide +kernel
theorem dX8_pressOf_14 : decode cX8_pressOf 14 = .ok (.ireturn, 1) := by decide +kernel
set_option maxRecDepth 20000 in
theorem ggX8_lay_X8_lengthOf : GoodIn wsX8_lay wsX8_lengthOf := goodIn_r _ [6, 7, 20, 21, 22, 23, 24, 25, 26, 27, 28, 29, 30, 31, 32, 33, 34] (by decide +kernel) (by decide +kernel)
set_option maxRecDepth 20000 in
theorem gX8_lay_X8_lengthOf : GoodIn wsX8_lay (wsV RX8 59 RX8 yX8_lengthOf wsX8_lengthOf) := goodIn_app (goodIn_of _ (by decide +kernel)) ggX8_lay_X8_lengthOf
set_option maxRecDepth 20000 in
theorem ggX8_lay_X8_pressOf : GoodIn wsX8_lay wsX8_pressOf := goodIn_r _ [11, 7, 20, 21, 22, 23, 24, 25, 26, 27, 28, 29, 30, 31, 32, 33, 34] (by decide +kernel) (by decide +kernel)
set_option maxRecDepth 20000 in
theorem gX8_lay_X8_pressOf : GoodIn wsX8_lay (wsV RX8 62 RX8 yX8_pressOf wsX8_pressOf) := goodIn_app (goodIn_of _ (by decide +kernel)) ggX8_lay_X8_pressOf
set_option maxRecDepth 20000 in
theorem ggX8_lay_X8_pressed : GoodIn wsX8_lay wsX8_pressed := goodIn_r _ [15, 16, 17, 18, 5, 19, 7, 20, 21, 22, 23, 24, 25, 26, 27, 28, 29, 30, 31, 32, 33, 34] (by decide +kernel) (by decide +kernel)
set_option maxRecDepth 20000 in
theorem gX8_lay_X8_pressed : GoodIn wsX8_lay (wsV RX8 66 RX8 yX8_pressed wsX8_pressed) := goodIn_app (goodIn_of _ (by decide +kernel)) ggX8_lay_X8_pressed
theorem dX8_lay_0 : decode cX8_lay 0 = .ok (.iconst 0, 1) := by decide +kernel
theorem dX8_lay_1 : decode cX8_lay 1 = .ok (.istore_n 2, 1) := by decide +kernel
theorem dX8_lay_2 : decode cX8_lay 2 = .ok (.iload_n 2, 1) := by decide +kernel
theorem dX8_lay_3 : decode cX8_lay 3 = .ok (.bipush 12, 2) := by decide +kernel
theorem dX8_lay_5 : decode cX8_lay 5 = .ok (.if_icmp .ge 55, 3) := by decide +kernel
theorem dX8_lay_8 : decode cX8_lay 8 = .ok (.iload_n 2, 1) := by decide +kernel
theorem dX8_lay_9 : decode cX8_lay 9 = .ok (.istore_n 3, 1) := by decide +kernel
theorem dX8_lay_10 : decode cX8_lay 10 = .ok (.iconst 0, 1) := by decide +kernel
theorem dX8_lay_11 : decode cX8_lay 11 = .ok (.istore 4, 2) := by decide +kernel
theorem dX8_lay_13 : decode cX8_lay 13 = .ok (.iload 4, 2) := by decide +kernel
theorem dX8_lay_15 : decode cX8_lay 15 = .ok (.aload_n 0, 1) := by decide +kernel
theorem dX8_lay_16 : decode cX8_lay 16 = .ok (.iload_n 1, 1) := by decide +kernel
theorem dX8_lay_17 : decode cX8_lay 17 = .ok (.invokevirtual 59, 3) := by decide +kernel
theorem dX8_lay_20 : decode cX8_lay 20 = .ok (.if_icmp .ge 22, 3) := by decide +kernel
theorem dX8_lay_23 : decode cX8_lay 23 = .ok (.aload_n 0, 1) := by decide +kernel
theorem dX8_lay_24 : decode cX8_lay 24 = .ok (.iload_n 3, 1) := by decide +kernel
theorem dX8_lay_25 : decode cX8_lay 25 = .ok (.aload_n 0, 1) := by decide +kernel
theorem dX8_lay_26 : decode cX8_lay 26 = .ok (.iload_n 1, 1) := by decide +kernel
theorem dX8_lay_27 : decode cX8_lay 27 = .ok (.iload 4, 2) := by decide +kernel
theorem dX8_lay_29 : decode cX8_lay 29 = .ok (.invokevirtual 62, 3) := by decide +kernel
theorem dX8_lay_32 : decode cX8_lay 32 = .ok (.invokevirtual 66, 3) := by decide +kernel
theorem dX8_lay_35 : decode cX8_lay 35 = .ok (.istore_n 3, 1) := by decide +kernel
theorem dX8_lay_36 : decode cX8_lay 36 = .ok (.iinc 4 1, 3) := by decide +kernel
theorem dX8_lay_39 : decode cX8_lay 39 = .ok (.goto (-26), 3) := by decide +kernel
theorem dX8_lay_42 : decode cX8_lay 42 = .ok (.aload_n 0, 1) := by decide +kernel
theorem dX8_lay_43 : decode cX8_lay 43 = .ok (.getfield 28, 3) := by decide +kernel
theorem dX8_lay_46 : decode cX8_lay 46 = .ok (.bipush 12, 2) := by decide +kernel
theorem dX8_lay_48 : decode cX8_lay 48 = .ok (.iload_n 1, 1) := by decide +kernel
theorem dX8_lay_49 : decode cX8_lay 49 = .ok (.imul, 1) := by decide +kernel
theorem dX8_lay_50 : decode cX8_lay 50 = .ok (.iload_n 2, 1) := by decide +kernel
theorem dX8_lay_51 : decode cX8_lay 51 = .ok (.iadd, 1) := by decide +kernel
theorem dX8_lay_52 : decode cX8_lay 52 = .ok (.iload_n 3, 1) := by decide +kernel
theorem dX8_lay_53 : decode cX8_lay 53 = .ok (.iastore, 1) := by decide +kernel
theorem dX8_lay_54 : decode cX8_lay 54 = .ok (.iinc 2 1, 3) := by decide +kernel
theorem dX8_lay_57 : decode cX8_lay 57 = .ok (.goto (-55), 3) := by decide +kernel
theorem dX8_lay_60 : decode cX8_lay 60 = .ok (.return_, 1) := by decide +kernel
theorem dX8_comesBy_0 : decode cX8_comesBy 0 = .ok (.aload_n 0, 1) := by decide +kernel
theorem dX8_comesBy_1 : decode cX8_comesBy 1 = .ok (.getfield 28, 3) := by decide +kernel
theorem dX8_comesBy_4 : decode cX8_comesBy 4 = .ok (.bipush 12, 2) := by decide +kernel
theorem dX8_comesBy_6 : decode cX8_comesBy 6 = .ok (.iload_n 1, 1) := by decide +kernel
theorem dX8_comesBy_7 : decode cX8_comesBy 7 = .ok (.imul, 1) := by decide +kernel
theorem dX8_comesBy_8 : decode cX8_comesBy 8 = .ok (.iload_n 2, 1) := by decide +kernel
theorem dX8_comesBy_9 : decode cX8_comesBy 9 = .ok (.iadd, 1) := by decide +kernel
theorem dX8_comesBy_10 : decode cX8_comesBy 10 = .ok (.iaload, 1) := by decide +kernel
theorem dX8_comesBy_11 : decode cX8_comesBy 11 = .ok (.ireturn, 1) := by decide +kernel
set_option maxRecDepth 20000 in
theorem ggX8_layAll_X8_lay : GoodIn wsX8_layAll wsX8_lay := goodIn_r _ [5, 6, 7, 8, 9, 4, 10, 11, 12, 13, 14, 15, 16, 17, 18, 19, 20, 21, 22, 23, 24, 25, 26, 27, 28, 29, 30, 31, 32, 33, 34, 35, 36, 37, 38] (by decide +kernel) (by decide +kernel)
set_option maxRecDepth 20000 in
theorem gX8_layAll_X8_lay : GoodIn wsX8_layAll (wsV RX8 69 RX8 yX8_lay wsX8_lay) := goodIn_app (goodIn_of _ (by decide +kernel)) ggX8_layAll_X8_lay
theorem dX8_layAll_0 : decode cX8_layAll 0 = .ok (.iconst 0, 1) := by decide +kernel
theorem dX8_layAll_1 : decode cX8_layAll 1 = .ok (.istore_n 1, 1) := by decide +kernel
theorem dX8_layAll_2 : decode cX8_layAll 2 = .ok (.iload_n 1, 1) := by decide +kernel
theorem dX8_layAll_3 : decode cX8_layAll 3 = .ok (.bipush 6, 2) := by decide +kernel
theorem dX8_layAll_5 : decode cX8_layAll 5 = .ok (.if_icmp .ge 14, 3) := by decide +kernel
theorem dX8_layAll_8 : decode cX8_layAll 8 = .ok (.aload_n 0, 1) := by decide +kernel
theorem dX8_layAll_9 : decode cX8_layAll 9 = .ok (.iload_n 1, 1) := by decide +kernel
theorem dX8_layAll_10 : decode cX8_layAll 10 = .ok (.invokevirtual 69, 3) := by decide +kernel
theorem dX8_layAll_13 : decode cX8_layAll 13 = .ok (.iinc 1 1, 3) := by decide +kernel
theorem dX8_layAll_16 : decode cX8_layAll 16 = .ok (.goto (-14), 3) := by decide +kernel
theorem dX8_layAll_19 : decode cX8_layAll 19 = .ok (.return_, 1) := by decide +kernel
set_option maxRecDepth 20000 in
theorem ggX8_stays_X8_comesBy : GoodIn wsX8_stays wsX8_comesBy := goodIn_r _ [5, 6, 7, 8, 9, 10, 11, 12, 13, 14, 15, 16, 17, 18, 19, 20, 21] (by decide +kernel) (by decide +kernel)
set_option maxRecDepth 20000 in
theorem gX8_stays_X8_comesBy : GoodIn wsX8_stays (wsV RX8 73 RX8 yX8_comesBy wsX8_comesBy) := goodIn_app (goodIn_of _ (by decide +kernel)) ggX8_stays_X8_comesBy
theorem dX8_stays_0 : decode cX8_stays 0 = .ok (.iconst 0, 1) := by decide +kernel
theorem dX8_stays_1 : decode cX8_stays 1 = .ok (.istore_n 2, 1) := by decide +kernel
theorem dX8_stays_2 : decode cX8_stays 2 = .ok (.iconst 0, 1) := by decide +kernel
theorem dX8_stays_3 : decode cX8_stays 3 = .ok (.istore_n 3, 1) := by decide +kernel
theorem dX8_stays_4 : decode cX8_stays 4 = .ok (.iload_n 3, 1) := by decide +kernel
theorem dX8_stays_5 : decode cX8_stays 5 = .ok (.bipush 12, 2) := by decide +kernel
theorem dX8_stays_7 : decode cX8_stays 7 = .ok (.if_icmp .ge 29, 3) := by decide +kernel
theorem dX8_stays_10 : decode cX8_stays 10 = .ok (.iload_n 2, 1) := by decide +kernel
theorem dX8_stays_11 : decode cX8_stays 11 = .ok (.aload_n 0, 1) := by decide +kernel
theorem dX8_stays_12 : decode cX8_stays 12 = .ok (.iload_n 1, 1) := by decide +kernel
theorem dX8_stays_13 : decode cX8_stays 13 = .ok (.iload_n 3, 1) := by decide +kernel
theorem dX8_stays_14 : decode cX8_stays 14 = .ok (.invokevirtual 73, 3) := by decide +kernel
theorem dX8_stays_17 : decode cX8_stays 17 = .ok (.iload_n 3, 1) := by decide +kernel
theorem dX8_stays_18 : decode cX8_stays 18 = .ok (.if_icmp .ne 9, 3) := by decide +kernel
theorem dX8_stays_21 : decode cX8_stays 21 = .ok (.iconst 1, 1) := by decide +kernel
theorem dX8_stays_22 : decode cX8_stays 22 = .ok (.iload_n 3, 1) := by decide +kernel
theorem dX8_stays_23 : decode cX8_stays 23 = .ok (.ishl, 1) := by decide +kernel
theorem dX8_stays_24 : decode cX8_stays 24 = .ok (.goto 4, 3) := by decide +kernel
theorem dX8_stays_27 : decode cX8_stays 27 = .ok (.iconst 0, 1) := by decide +kernel
theorem dX8_stays_28 : decode cX8_stays 28 = .ok (.ior, 1) := by decide +kernel
theorem dX8_stays_29 : decode cX8_stays 29 = .ok (.istore_n 2, 1) := by decide +kernel
theorem dX8_stays_30 : decode cX8_stays 30 = .ok (.iinc 3 1, 3) := by decide +kernel
theorem dX8_stays_33 : decode cX8_stays 33 = .ok (.goto (-29), 3) := by decide +kernel
theorem dX8_stays_36 : decode cX8_stays 36 = .ok (.iload_n 2, 1) := by decide +kernel
theorem dX8_stays_37 : decode cX8_stays 37 = .ok (.ireturn, 1) := by decide +kernel
set_option maxRecDepth 20000 in
theorem ggX8_cycleOf_X8_comesBy : GoodIn wsX8_cycleOf wsX8_comesBy := goodIn_r _ [5, 6, 7, 8, 9, 10, 11, 12, 13, 14, 15, 16, 17, 18, 19, 20, 21] (by decide +kernel) (by decide +kernel)
set_option maxRecDepth 20000 in
theorem gX8_cycleOf_X8_comesBy : GoodIn wsX8_cycleOf (wsV RX8 73 RX8 yX8_comesBy wsX8_comesBy) := goodIn_app (goodIn_of _ (by decide +kernel)) ggX8_cycleOf_X8_comesBy
theorem dX8_cycleOf_0 : decode cX8_cycleOf 0 = .ok (.iconst 1, 1) := by decide +kernel
theorem dX8_cycleOf_1 : decode cX8_cycleOf 1 = .ok (.istore_n 3, 1) := by decide +kernel
theorem dX8_cycleOf_2 : decode cX8_cycleOf 2 = .ok (.aload_n 0, 1) := by decide +kernel
theorem dX8_cycleOf_3 : decode cX8_cycleOf 3 = .ok (.iload_n 1, 1) := by decide +kernel
theorem dX8_cycleOf_4 : decode cX8_cycleOf 4 = .ok (.iload_n 2, 1) := by decide +kernel
theorem dX8_cycleOf_5 : decode cX8_cycleOf 5 = .ok (.invokevirtual 73, 3) := by decide +kernel
theorem dX8_cycleOf_8 : decode cX8_cycleOf 8 = .ok (.istore 4, 2) := by decide +kernel
theorem dX8_cycleOf_10 : decode cX8_cycleOf 10 = .ok (.iload 4, 2) := by decide +kernel
theorem dX8_cycleOf_12 : decode cX8_cycleOf 12 = .ok (.iload_n 2, 1) := by decide +kernel
theorem dX8_cycleOf_13 : decode cX8_cycleOf 13 = .ok (.if_icmp .eq 18, 3) := by decide +kernel
theorem dX8_cycleOf_16 : decode cX8_cycleOf 16 = .ok (.iinc 3 1, 3) := by decide +kernel
theorem dX8_cycleOf_19 : decode cX8_cycleOf 19 = .ok (.aload_n 0, 1) := by decide +kernel
theorem dX8_cycleOf_20 : decode cX8_cycleOf 20 = .ok (.iload_n 1, 1) := by decide +kernel
theorem dX8_cycleOf_21 : decode cX8_cycleOf 21 = .ok (.iload 4, 2) := by decide +kernel
theorem dX8_cycleOf_23 : decode cX8_cycleOf 23 = .ok (.invokevirtual 73, 3) := by decide +kernel
theorem dX8_cycleOf_26 : decode cX8_cycleOf 26 = .ok (.istore 4, 2) := by decide +kernel
theorem dX8_cycleOf_28 : decode cX8_cycleOf 28 = .ok (.goto (-18), 3) := by decide +kernel
theorem dX8_cycleOf_31 : decode cX8_cycleOf 31 = .ok (.iload_n 3, 1) := by decide +kernel
theorem dX8_cycleOf_32 : decode cX8_cycleOf 32 = .ok (.ireturn, 1) := by decide +kernel
set_option maxRecDepth 20000 in
theorem ggX8_orderOf_X8_cycleOf : GoodIn wsX8_orderOf wsX8_cycleOf := goodIn_r _ [5, 6, 7, 8, 4, 9, 10, 11, 12, 13, 14, 15, 16, 17, 18, 19, 20, 21, 22, 23, 24, 25] (by decide +kernel) (by decide +kernel)
set_option maxRecDepth 20000 in
theorem gX8_orderOf_X8_cycleOf : GoodIn wsX8_orderOf (wsV RX8 76 RX8 yX8_cycleOf wsX8_cycleOf) := goodIn_app (goodIn_of _ (by decide +kernel)) ggX8_orderOf_X8_cycleOf
theorem dX8_orderOf_0 : decode cX8_orderOf 0 = .ok (.iconst 0, 1) := by decide +kernel
theorem dX8_orderOf_1 : decode cX8_orderOf 1 = .ok (.istore_n 2, 1) := by decide +kernel
theorem dX8_orderOf_2 : decode cX8_orderOf 2 = .ok (.iconst 0, 1) := by decide +kernel
theorem dX8_orderOf_3 : decode cX8_orderOf 3 = .ok (.istore_n 3, 1) := by decide +kernel
theorem dX8_orderOf_4 : decode cX8_orderOf 4 = .ok (.iload_n 3, 1) := by decide +kernel
theorem dX8_orderOf_5 : decode cX8_orderOf 5 = .ok (.ifCond .ne 49, 3) := by decide +kernel
theorem dX8_orderOf_8 : decode cX8_orderOf 8 = .ok (.iinc 2 1, 3) := by decide +kernel
theorem dX8_orderOf_11 : decode cX8_orderOf 11 = .ok (.iconst 1, 1) := by decide +kernel
theorem dX8_orderOf_12 : decode cX8_orderOf 12 = .ok (.istore_n 3, 1) := by decide +kernel
theorem dX8_orderOf_13 : decode cX8_orderOf 13 = .ok (.iconst 0, 1) := by decide +kernel
theorem dX8_orderOf_14 : decode cX8_orderOf 14 = .ok (.istore 4, 2) := by decide +kernel
theorem dX8_orderOf_16 : decode cX8_orderOf 16 = .ok (.iload 4, 2) := by decide +kernel
theorem dX8_orderOf_18 : decode cX8_orderOf 18 = .ok (.bipush 12, 2) := by decide +kernel
theorem dX8_orderOf_20 : decode cX8_orderOf 20 = .ok (.if_icmp .ge 31, 3) := by decide +kernel
theorem dX8_orderOf_23 : decode cX8_orderOf 23 = .ok (.iload_n 3, 1) := by decide +kernel
theorem dX8_orderOf_24 : decode cX8_orderOf 24 = .ok (.ifCond .eq 19, 3) := by decide +kernel
theorem dX8_orderOf_27 : decode cX8_orderOf 27 = .ok (.iload_n 2, 1) := by decide +kernel
theorem dX8_orderOf_28 : decode cX8_orderOf 28 = .ok (.aload_n 0, 1) := by decide +kernel
theorem dX8_orderOf_29 : decode cX8_orderOf 29 = .ok (.iload_n 1, 1) := by decide +kernel
theorem dX8_orderOf_30 : decode cX8_orderOf 30 = .ok (.iload 4, 2) := by decide +kernel
theorem dX8_orderOf_32 : decode cX8_orderOf 32 = .ok (.invokevirtual 76, 3) := by decide +kernel
theorem dX8_orderOf_35 : decode cX8_orderOf 35 = .ok (.irem, 1) := by decide +kernel
theorem dX8_orderOf_36 : decode cX8_orderOf 36 = .ok (.ifCond .ne 7, 3) := by decide +kernel
theorem dX8_orderOf_39 : decode cX8_orderOf 39 = .ok (.iconst 1, 1) := by decide +kernel
theorem dX8_orderOf_40 : decode cX8_orderOf 40 = .ok (.goto 4, 3) := by decide +kernel
theorem dX8_orderOf_43 : decode cX8_orderOf 43 = .ok (.iconst 0, 1) := by decide +kernel
theorem dX8_orderOf_44 : decode cX8_orderOf 44 = .ok (.istore_n 3, 1) := by decide +kernel
theorem dX8_orderOf_45 : decode cX8_orderOf 45 = .ok (.iinc 4 1, 3) := by decide +kernel
theorem dX8_orderOf_48 : decode cX8_orderOf 48 = .ok (.goto (-32), 3) := by decide +kernel
theorem dX8_orderOf_51 : decode cX8_orderOf 51 = .ok (.goto (-47), 3) := by decide +kernel
theorem dX8_orderOf_54 : decode cX8_orderOf 54 = .ok (.iload_n 2, 1) := by decide +kernel
theorem dX8_orderOf_55 : decode cX8_orderOf 55 = .ok (.ireturn, 1) := by decide +kernel
set_option maxRecDepth 20000 in
theorem ggX8_cycles_X8_cycleOf : GoodIn wsX8_cycles wsX8_cycleOf := goodIn_r _ [5, 6, 7, 8, 4, 9, 10, 11, 12, 13, 14, 15, 16, 17, 18, 19, 20, 21, 22, 23, 24, 25] (by decide +kernel) (by decide +kernel)
set_option maxRecDepth 20000 in
theorem gX8_cycles_X8_cycleOf : GoodIn wsX8_cycles (wsV RX8 76 RX8 yX8_cycleOf wsX8_cycleOf) := goodIn_app (goodIn_of _ (by decide +kernel)) ggX8_cycles_X8_cycleOf
theorem dX8_cycles_0 : decode cX8_cycles 0 = .ok (.iconst 0, 1) := by decide +kernel
theorem dX8_cycles_1 : decode cX8_cycles 1 = .ok (.istore_n 2, 1) := by decide +kernel
theorem dX8_cycles_2 : decode cX8_cycles 2 = .ok (.iconst 2, 1) := by decide +kernel
theorem dX8_cycles_3 : decode cX8_cycles 3 = .ok (.istore_n 3, 1) := by decide +kernel
theorem dX8_cycles_4 : decode cX8_cycles 4 = .ok (.iload_n 3, 1) := by decide +kernel
theorem dX8_cycles_5 : decode cX8_cycles 5 = .ok (.bipush 12, 2) := by decide +kernel
theorem dX8_cycles_7 : decode cX8_cycles 7 = .ok (.if_icmp .gt 56, 3) := by decide +kernel
theorem dX8_cycles_10 : decode cX8_cycles 10 = .ok (.iconst 0, 1) := by decide +kernel
theorem dX8_cycles_11 : decode cX8_cycles 11 = .ok (.istore 4, 2) := by decide +kernel
theorem dX8_cycles_13 : decode cX8_cycles 13 = .ok (.iconst 0, 1) := by decide +kernel
theorem dX8_cycles_14 : decode cX8_cycles 14 = .ok (.istore 5, 2) := by decide +kernel
theorem dX8_cycles_16 : decode cX8_cycles 16 = .ok (.iload 5, 2) := by decide +kernel
theorem dX8_cycles_18 : decode cX8_cycles 18 = .ok (.bipush 12, 2) := by decide +kernel
theorem dX8_cycles_20 : decode cX8_cycles 20 = .ok (.if_icmp .ge 30, 3) := by decide +kernel
theorem dX8_cycles_23 : decode cX8_cycles 23 = .ok (.iload 4, 2) := by decide +kernel
theorem dX8_cycles_25 : decode cX8_cycles 25 = .ok (.aload_n 0, 1) := by decide +kernel
theorem dX8_cycles_26 : decode cX8_cycles 26 = .ok (.iload_n 1, 1) := by decide +kernel
theorem dX8_cycles_27 : decode cX8_cycles 27 = .ok (.iload 5, 2) := by decide +kernel
theorem dX8_cycles_29 : decode cX8_cycles 29 = .ok (.invokevirtual 76, 3) := by decide +kernel
theorem dX8_cycles_32 : decode cX8_cycles 32 = .ok (.iload_n 3, 1) := by decide +kernel
theorem dX8_cycles_33 : decode cX8_cycles 33 = .ok (.if_icmp .ne 7, 3) := by decide +kernel
theorem dX8_cycles_36 : decode cX8_cycles 36 = .ok (.iconst 1, 1) := by decide +kernel
theorem dX8_cycles_37 : decode cX8_cycles 37 = .ok (.goto 4, 3) := by decide +kernel
theorem dX8_cycles_40 : decode cX8_cycles 40 = .ok (.iconst 0, 1) := by decide +kernel
theorem dX8_cycles_41 : decode cX8_cycles 41 = .ok (.iadd, 1) := by decide +kernel
theorem dX8_cycles_42 : decode cX8_cycles 42 = .ok (.istore 4, 2) := by decide +kernel
theorem dX8_cycles_44 : decode cX8_cycles 44 = .ok (.iinc 5 1, 3) := by decide +kernel
theorem dX8_cycles_47 : decode cX8_cycles 47 = .ok (.goto (-31), 3) := by decide +kernel
theorem dX8_cycles_50 : decode cX8_cycles 50 = .ok (.iload_n 2, 1) := by decide +kernel
theorem dX8_cycles_51 : decode cX8_cycles 51 = .ok (.iload 4, 2) := by decide +kernel
theorem dX8_cycles_53 : decode cX8_cycles 53 = .ok (.iload_n 3, 1) := by decide +kernel
theorem dX8_cycles_54 : decode cX8_cycles 54 = .ok (.idiv, 1) := by decide +kernel
theorem dX8_cycles_55 : decode cX8_cycles 55 = .ok (.iadd, 1) := by decide +kernel
theorem dX8_cycles_56 : decode cX8_cycles 56 = .ok (.istore_n 2, 1) := by decide +kernel
theorem dX8_cycles_57 : decode cX8_cycles 57 = .ok (.iinc 3 1, 3) := by decide +kernel
theorem dX8_cycles_60 : decode cX8_cycles 60 = .ok (.goto (-56), 3) := by decide +kernel
theorem dX8_cycles_63 : decode cX8_cycles 63 = .ok (.iload_n 2, 1) := by decide +kernel
theorem dX8_cycles_64 : decode cX8_cycles 64 = .ok (.ireturn, 1) := by decide +kernel
set_option maxRecDepth 20000 in
theorem ggX8_longest_X8_cycleOf : GoodIn wsX8_longest wsX8_cycleOf := goodIn_r _ [5, 6, 7, 8, 4, 9, 10, 11, 12, 13, 14, 15, 16, 17, 18, 19, 20, 21, 22, 23, 24, 25] (by decide +kernel) (by decide +kernel)
set_option maxRecDepth 20000 in
theorem gX8_longest_X8_cycleOf : GoodIn wsX8_longest (wsV RX8 76 RX8 yX8_cycleOf wsX8_cycleOf) := goodIn_app (goodIn_of _ (by decide +kernel)) ggX8_longest_X8_cycleOf
theorem dX8_longest_0 : decode cX8_longest 0 = .ok (.iconst 0, 1) := by decide +kernel
theorem dX8_longest_1 : decode cX8_longest 1 = .ok (.istore_n 2, 1) := by decide +kernel
theorem dX8_longest_2 : decode cX8_longest 2 = .ok (.iconst 0, 1) := by decide +kernel
theorem dX8_longest_3 : decode cX8_longest 3 = .ok (.istore_n 3, 1) := by decide +kernel
theorem dX8_longest_4 : decode cX8_longest 4 = .ok (.iload_n 3, 1) := by decide +kernel
theorem dX8_longest_5 : decode cX8_longest 5 = .ok (.bipush 12, 2) := by decide +kernel
theorem dX8_longest_7 : decode cX8_longest 7 = .ok (.if_icmp .ge 30, 3) := by decide +kernel
theorem dX8_longest_10 : decode cX8_longest 10 = .ok (.aload_n 0, 1) := by decide +kernel
theorem dX8_longest_11 : decode cX8_longest 11 = .ok (.iload_n 1, 1) := by decide +kernel
theorem dX8_longest_12 : decode cX8_longest 12 = .ok (.iload_n 3, 1) := by decide +kernel
theorem dX8_longest_13 : decode cX8_longest 13 = .ok (.invokevirtual 76, 3) := by decide +kernel
theorem dX8_longest_16 : decode cX8_longest 16 = .ok (.iload_n 2, 1) := by decide +kernel
theorem dX8_longest_17 : decode cX8_longest 17 = .ok (.if_icmp .le 12, 3) := by decide +kernel
theorem dX8_longest_20 : decode cX8_longest 20 = .ok (.aload_n 0, 1) := by decide +kernel
theorem dX8_longest_21 : decode cX8_longest 21 = .ok (.iload_n 1, 1) := by decide +kernel
theorem dX8_longest_22 : decode cX8_longest 22 = .ok (.iload_n 3, 1) := by decide +kernel
theorem dX8_longest_23 : decode cX8_longest 23 = .ok (.invokevirtual 76, 3) := by decide +kernel
theorem dX8_longest_26 : decode cX8_longest 26 = .ok (.goto 4, 3) := by decide +kernel
theorem dX8_longest_29 : decode cX8_longest 29 = .ok (.iload_n 2, 1) := by decide +kernel
theorem dX8_longest_30 : decode cX8_longest 30 = .ok (.istore_n 2, 1) := by decide +kernel
theorem dX8_longest_31 : decode cX8_longest 31 = .ok (.iinc 3 1, 3) := by decide +kernel
theorem dX8_longest_34 : decode cX8_longest 34 = .ok (.goto (-30), 3) := by decide +kernel
theorem dX8_longest_37 : decode cX8_longest 37 = .ok (.iload_n 2, 1) := by decide +kernel
theorem dX8_longest_38 : decode cX8_longest 38 = .ok (.iconst 1, 1) := by decide +kernel
theorem dX8_longest_39 : decode cX8_longest 39 = .ok (.if_icmp .le 7, 3) := by decide +kernel
theorem dX8_longest_42 : decode cX8_longest 42 = .ok (.iload_n 2, 1) := by decide +kernel
theorem dX8_longest_43 : decode cX8_longest 43 = .ok (.goto 4, 3) := by decide +kernel
theorem dX8_longest_46 : decode cX8_longest 46 = .ok (.iconst 0, 1) := by decide +kernel
theorem dX8_longest_47 : decode cX8_longest 47 = .ok (.ireturn, 1) := by decide +kernel
set_option maxRecDepth 20000 in
theorem ggX8_turnedPairs_X8_comesBy : GoodIn wsX8_turnedPairs wsX8_comesBy := goodIn_r _ [5, 6, 7, 8, 9, 10, 11, 12, 13, 14, 15, 16, 17, 18, 19, 20, 21] (by decide +kernel) (by decide +kernel)
set_option maxRecDepth 20000 in
theorem gX8_turnedPairs_X8_comesBy : GoodIn wsX8_turnedPairs (wsV RX8 73 RX8 yX8_comesBy wsX8_comesBy) := goodIn_app (goodIn_of _ (by decide +kernel)) ggX8_turnedPairs_X8_comesBy
theorem dX8_turnedPairs_0 : decode cX8_turnedPairs 0 = .ok (.iconst 0, 1) := by decide +kernel
theorem dX8_turnedPairs_1 : decode cX8_turnedPairs 1 = .ok (.istore_n 2, 1) := by decide +kernel
theorem dX8_turnedPairs_2 : decode cX8_turnedPairs 2 = .ok (.iconst 0, 1) := by decide +kernel
theorem dX8_turnedPairs_3 : decode cX8_turnedPairs 3 = .ok (.istore_n 3, 1) := by decide +kernel
theorem dX8_turnedPairs_4 : decode cX8_turnedPairs 4 = .ok (.iload_n 3, 1) := by decide +kernel
theorem dX8_turnedPairs_5 : decode cX8_turnedPairs 5 = .ok (.bipush 12, 2) := by decide +kernel
theorem dX8_turnedPairs_7 : decode cX8_turnedPairs 7 = .ok (.if_icmp .ge 51, 3) := by decide +kernel
theorem dX8_turnedPairs_10 : decode cX8_turnedPairs 10 = .ok (.iload_n 3, 1) := by decide +kernel
theorem dX8_turnedPairs_11 : decode cX8_turnedPairs 11 = .ok (.iconst 1, 1) := by decide +kernel
theorem dX8_turnedPairs_12 : decode cX8_turnedPairs 12 = .ok (.iadd, 1) := by decide +kernel
theorem dX8_turnedPairs_13 : decode cX8_turnedPairs 13 = .ok (.istore 4, 2) := by decide +kernel
theorem dX8_turnedPairs_15 : decode cX8_turnedPairs 15 = .ok (.iload 4, 2) := by decide +kernel
theorem dX8_turnedPairs_17 : decode cX8_turnedPairs 17 = .ok (.bipush 12, 2) := by decide +kernel
theorem dX8_turnedPairs_19 : decode cX8_turnedPairs 19 = .ok (.if_icmp .ge 33, 3) := by decide +kernel
theorem dX8_turnedPairs_22 : decode cX8_turnedPairs 22 = .ok (.iload_n 2, 1) := by decide +kernel
theorem dX8_turnedPairs_23 : decode cX8_turnedPairs 23 = .ok (.aload_n 0, 1) := by decide +kernel
theorem dX8_turnedPairs_24 : decode cX8_turnedPairs 24 = .ok (.iload_n 1, 1) := by decide +kernel
theorem dX8_turnedPairs_25 : decode cX8_turnedPairs 25 = .ok (.iload_n 3, 1) := by decide +kernel
theorem dX8_turnedPairs_26 : decode cX8_turnedPairs 26 = .ok (.invokevirtual 73, 3) := by decide +kernel
theorem dX8_turnedPairs_29 : decode cX8_turnedPairs 29 = .ok (.aload_n 0, 1) := by decide +kernel
theorem dX8_turnedPairs_30 : decode cX8_turnedPairs 30 = .ok (.iload_n 1, 1) := by decide +kernel
theorem dX8_turnedPairs_31 : decode cX8_turnedPairs 31 = .ok (.iload 4, 2) := by decide +kernel
theorem dX8_turnedPairs_33 : decode cX8_turnedPairs 33 = .ok (.invokevirtual 73, 3) := by decide +kernel
theorem dX8_turnedPairs_36 : decode cX8_turnedPairs 36 = .ok (.if_icmp .le 7, 3) := by decide +kernel
theorem dX8_turnedPairs_39 : decode cX8_turnedPairs 39 = .ok (.iconst 1, 1) := by decide +kernel
theorem dX8_turnedPairs_40 : decode cX8_turnedPairs 40 = .ok (.goto 4, 3) := by decide +kernel
theorem dX8_turnedPairs_43 : decode cX8_turnedPairs 43 = .ok (.iconst 0, 1) := by decide +kernel
theorem dX8_turnedPairs_44 : decode cX8_turnedPairs 44 = .ok (.iadd, 1) := by decide +kernel
theorem dX8_turnedPairs_45 : decode cX8_turnedPairs 45 = .ok (.istore_n 2, 1) := by decide +kernel
theorem dX8_turnedPairs_46 : decode cX8_turnedPairs 46 = .ok (.iinc 4 1, 3) := by decide +kernel
theorem dX8_turnedPairs_49 : decode cX8_turnedPairs 49 = .ok (.goto (-34), 3) := by decide +kernel
theorem dX8_turnedPairs_52 : decode cX8_turnedPairs 52 = .ok (.iinc 3 1, 3) := by decide +kernel
theorem dX8_turnedPairs_55 : decode cX8_turnedPairs 55 = .ok (.goto (-51), 3) := by decide +kernel
theorem dX8_turnedPairs_58 : decode cX8_turnedPairs 58 = .ok (.iload_n 2, 1) := by decide +kernel
theorem dX8_turnedPairs_59 : decode cX8_turnedPairs 59 = .ok (.ireturn, 1) := by decide +kernel
theorem dX8_takeThreads_0 : decode cX8_takeThreads 0 = .ok (.iconst 0, 1) := by decide +kernel
theorem dX8_takeThreads_1 : decode cX8_takeThreads 1 = .ok (.istore_n 1, 1) := by decide +kernel
theorem dX8_takeThreads_2 : decode cX8_takeThreads 2 = .ok (.iload_n 1, 1) := by decide +kernel
theorem dX8_takeThreads_3 : decode cX8_takeThreads 3 = .ok (.bipush 12, 2) := by decide +kernel
theorem dX8_takeThreads_5 : decode cX8_takeThreads 5 = .ok (.if_icmp .ge 24, 3) := by decide +kernel
theorem dX8_takeThreads_8 : decode cX8_takeThreads 8 = .ok (.aload_n 0, 1) := by decide +kernel
theorem dX8_takeThreads_9 : decode cX8_takeThreads 9 = .ok (.getfield 31, 3) := by decide +kernel
theorem dX8_takeThreads_12 : decode cX8_takeThreads 12 = .ok (.iload_n 1, 1) := by decide +kernel
theorem dX8_takeThreads_13 : decode cX8_takeThreads 13 = .ok (.aload_n 0, 1) := by decide +kernel
theorem dX8_takeThreads_14 : decode cX8_takeThreads 14 = .ok (.getfield 7, 3) := by decide +kernel
theorem dX8_takeThreads_17 : decode cX8_takeThreads 17 = .ok (.bipush 18, 2) := by decide +kernel
theorem dX8_takeThreads_19 : decode cX8_takeThreads 19 = .ok (.iload_n 1, 1) := by decide +kernel
theorem dX8_takeThreads_20 : decode cX8_takeThreads 20 = .ok (.iadd, 1) := by decide +kernel
theorem dX8_takeThreads_21 : decode cX8_takeThreads 21 = .ok (.iaload, 1) := by decide +kernel
theorem dX8_takeThreads_22 : decode cX8_takeThreads 22 = .ok (.iastore, 1) := by decide +kernel
theorem dX8_takeThreads_23 : decode cX8_takeThreads 23 = .ok (.iinc 1 1, 3) := by decide +kernel
theorem dX8_takeThreads_26 : decode cX8_takeThreads 26 = .ok (.goto (-24), 3) := by decide +kernel
theorem dX8_takeThreads_29 : decode cX8_takeThreads 29 = .ok (.return_, 1) := by decide +kernel
set_option maxRecDepth 20000 in
theorem ggX8_weaveOnce_X8_comesBy : GoodIn wsX8_weaveOnce wsX8_comesBy := goodIn_r _ [7, 8, 9, 10, 11, 12, 13, 14, 15, 16, 17, 18, 19, 20, 21, 22, 23] (by decide +kernel) (by decide +kernel)
set_option maxRecDepth 20000 in
theorem gX8_weaveOnce_X8_comesBy : GoodIn wsX8_weaveOnce (wsV RX8 73 RX8 yX8_comesBy wsX8_comesBy) := goodIn_app (goodIn_of _ (by decide +kernel)) ggX8_weaveOnce_X8_comesBy
theorem dX8_weaveOnce_0 : decode cX8_weaveOnce 0 = .ok (.iconst 0, 1) := by decide +kernel
theorem dX8_weaveOnce_1 : decode cX8_weaveOnce 1 = .ok (.istore_n 2, 1) := by decide +kernel
theorem dX8_weaveOnce_2 : decode cX8_weaveOnce 2 = .ok (.iload_n 2, 1) := by decide +kernel
theorem dX8_weaveOnce_3 : decode cX8_weaveOnce 3 = .ok (.bipush 12, 2) := by decide +kernel
theorem dX8_weaveOnce_5 : decode cX8_weaveOnce 5 = .ok (.if_icmp .ge 26, 3) := by decide +kernel
theorem dX8_weaveOnce_8 : decode cX8_weaveOnce 8 = .ok (.aload_n 0, 1) := by decide +kernel
theorem dX8_weaveOnce_9 : decode cX8_weaveOnce 9 = .ok (.getfield 34, 3) := by decide +kernel
theorem dX8_weaveOnce_12 : decode cX8_weaveOnce 12 = .ok (.aload_n 0, 1) := by decide +kernel
theorem dX8_weaveOnce_13 : decode cX8_weaveOnce 13 = .ok (.iload_n 1, 1) := by decide +kernel
theorem dX8_weaveOnce_14 : decode cX8_weaveOnce 14 = .ok (.iload_n 2, 1) := by decide +kernel
theorem dX8_weaveOnce_15 : decode cX8_weaveOnce 15 = .ok (.invokevirtual 73, 3) := by decide +kernel
theorem dX8_weaveOnce_18 : decode cX8_weaveOnce 18 = .ok (.aload_n 0, 1) := by decide +kernel
theorem dX8_weaveOnce_19 : decode cX8_weaveOnce 19 = .ok (.getfield 31, 3) := by decide +kernel
theorem dX8_weaveOnce_22 : decode cX8_weaveOnce 22 = .ok (.iload_n 2, 1) := by decide +kernel
theorem dX8_weaveOnce_23 : decode cX8_weaveOnce 23 = .ok (.iaload, 1) := by decide +kernel
theorem dX8_weaveOnce_24 : decode cX8_weaveOnce 24 = .ok (.iastore, 1) := by decide +kernel
theorem dX8_weaveOnce_25 : decode cX8_weaveOnce 25 = .ok (.iinc 2 1, 3) := by decide +kernel
theorem dX8_weaveOnce_28 : decode cX8_weaveOnce 28 = .ok (.goto (-26), 3) := by decide +kernel
theorem dX8_weaveOnce_31 : decode cX8_weaveOnce 31 = .ok (.iconst 0, 1) := by decide +kernel
theorem dX8_weaveOnce_32 : decode cX8_weaveOnce 32 = .ok (.istore_n 2, 1) := by decide +kernel
theorem dX8_weaveOnce_33 : decode cX8_weaveOnce 33 = .ok (.iload_n 2, 1) := by decide +kernel
theorem dX8_weaveOnce_34 : decode cX8_weaveOnce 34 = .ok (.bipush 12, 2) := by decide +kernel
theorem dX8_weaveOnce_36 : decode cX8_weaveOnce 36 = .ok (.if_icmp .ge 21, 3) := by decide +kernel
theorem dX8_weaveOnce_39 : decode cX8_weaveOnce 39 = .ok (.aload_n 0, 1) := by decide +kernel
theorem dX8_weaveOnce_40 : decode cX8_weaveOnce 40 = .ok (.getfield 31, 3) := by decide +kernel
theorem dX8_weaveOnce_43 : decode cX8_weaveOnce 43 = .ok (.iload_n 2, 1) := by decide +kernel
theorem dX8_weaveOnce_44 : decode cX8_weaveOnce 44 = .ok (.aload_n 0, 1) := by decide +kernel
theorem dX8_weaveOnce_45 : decode cX8_weaveOnce 45 = .ok (.getfield 34, 3) := by decide +kernel
theorem dX8_weaveOnce_48 : decode cX8_weaveOnce 48 = .ok (.iload_n 2, 1) := by decide +kernel
theorem dX8_weaveOnce_49 : decode cX8_weaveOnce 49 = .ok (.iaload, 1) := by decide +kernel
theorem dX8_weaveOnce_50 : decode cX8_weaveOnce 50 = .ok (.iastore, 1) := by decide +kernel
theorem dX8_weaveOnce_51 : decode cX8_weaveOnce 51 = .ok (.iinc 2 1, 3) := by decide +kernel
theorem dX8_weaveOnce_54 : decode cX8_weaveOnce 54 = .ok (.goto (-21), 3) := by decide +kernel
theorem dX8_weaveOnce_57 : decode cX8_weaveOnce 57 = .ok (.return_, 1) := by decide +kernel
theorem dX8_isSameCloth_0 : decode cX8_isSameCloth 0 = .ok (.iconst 1, 1) := by decide +kernel
theorem dX8_isSameCloth_1 : decode cX8_isSameCloth 1 = .ok (.istore_n 1, 1) := by decide +kernel
theorem dX8_isSameCloth_2 : decode cX8_isSameCloth 2 = .ok (.iconst 0, 1) := by decide +kernel
theorem dX8_isSameCloth_3 : decode cX8_isSameCloth 3 = .ok (.istore_n 2, 1) := by decide +kernel
theorem dX8_isSameCloth_4 : decode cX8_isSameCloth 4 = .ok (.iload_n 2, 1) := by decide +kernel
theorem dX8_isSameCloth_5 : decode cX8_isSameCloth 5 = .ok (.bipush 12, 2) := by decide +kernel
theorem dX8_isSameCloth_7 : decode cX8_isSameCloth 7 = .ok (.if_icmp .ge 53, 3) := by decide +kernel
theorem dX8_isSameCloth_10 : decode cX8_isSameCloth 10 = .ok (.iload_n 1, 1) := by decide +kernel
theorem dX8_isSameCloth_11 : decode cX8_isSameCloth 11 = .ok (.ifCond .eq 41, 3) := by decide +kernel
theorem dX8_isSameCloth_14 : decode cX8_isSameCloth 14 = .ok (.aload_n 0, 1) := by decide +kernel
theorem dX8_isSameCloth_15 : decode cX8_isSameCloth 15 = .ok (.getfield 7, 3) := by decide +kernel
theorem dX8_isSameCloth_18 : decode cX8_isSameCloth 18 = .ok (.bipush 30, 2) := by decide +kernel
theorem dX8_isSameCloth_20 : decode cX8_isSameCloth 20 = .ok (.aload_n 0, 1) := by decide +kernel
theorem dX8_isSameCloth_21 : decode cX8_isSameCloth 21 = .ok (.getfield 31, 3) := by decide +kernel
theorem dX8_isSameCloth_24 : decode cX8_isSameCloth 24 = .ok (.iload_n 2, 1) := by decide +kernel
theorem dX8_isSameCloth_25 : decode cX8_isSameCloth 25 = .ok (.iaload, 1) := by decide +kernel
theorem dX8_isSameCloth_26 : decode cX8_isSameCloth 26 = .ok (.iadd, 1) := by decide +kernel
theorem dX8_isSameCloth_27 : decode cX8_isSameCloth 27 = .ok (.iaload, 1) := by decide +kernel
theorem dX8_isSameCloth_28 : decode cX8_isSameCloth 28 = .ok (.aload_n 0, 1) := by decide +kernel
theorem dX8_isSameCloth_29 : decode cX8_isSameCloth 29 = .ok (.getfield 7, 3) := by decide +kernel
theorem dX8_isSameCloth_32 : decode cX8_isSameCloth 32 = .ok (.bipush 30, 2) := by decide +kernel
theorem dX8_isSameCloth_34 : decode cX8_isSameCloth 34 = .ok (.aload_n 0, 1) := by decide +kernel
theorem dX8_isSameCloth_35 : decode cX8_isSameCloth 35 = .ok (.getfield 7, 3) := by decide +kernel
theorem dX8_isSameCloth_38 : decode cX8_isSameCloth 38 = .ok (.bipush 18, 2) := by decide +kernel
theorem dX8_isSameCloth_40 : decode cX8_isSameCloth 40 = .ok (.iload_n 2, 1) := by decide +kernel
theorem dX8_isSameCloth_41 : decode cX8_isSameCloth 41 = .ok (.iadd, 1) := by decide +kernel
theorem dX8_isSameCloth_42 : decode cX8_isSameCloth 42 = .ok (.iaload, 1) := by decide +kernel
theorem dX8_isSameCloth_43 : decode cX8_isSameCloth 43 = .ok (.iadd, 1) := by decide +kernel
theorem dX8_isSameCloth_44 : decode cX8_isSameCloth 44 = .ok (.iaload, 1) := by decide +kernel
theorem dX8_isSameCloth_45 : decode cX8_isSameCloth 45 = .ok (.if_icmp .ne 7, 3) := by decide +kernel
theorem dX8_isSameCloth_48 : decode cX8_isSameCloth 48 = .ok (.iconst 1, 1) := by decide +kernel
theorem dX8_isSameCloth_49 : decode cX8_isSameCloth 49 = .ok (.goto 4, 3) := by decide +kernel
theorem dX8_isSameCloth_52 : decode cX8_isSameCloth 52 = .ok (.iconst 0, 1) := by decide +kernel
theorem dX8_isSameCloth_53 : decode cX8_isSameCloth 53 = .ok (.istore_n 1, 1) := by decide +kernel
theorem dX8_isSameCloth_54 : decode cX8_isSameCloth 54 = .ok (.iinc 2 1, 3) := by decide +kernel
theorem dX8_isSameCloth_57 : decode cX8_isSameCloth 57 = .ok (.goto (-53), 3) := by decide +kernel
theorem dX8_isSameCloth_60 : decode cX8_isSameCloth 60 = .ok (.iload_n 1, 1) := by decide +kernel
theorem dX8_isSameCloth_61 : decode cX8_isSameCloth 61 = .ok (.ireturn, 1) := by decide +kernel
set_option maxRecDepth 20000 in
theorem ggX8_repeats_X8_takeThreads : GoodIn wsX8_repeats wsX8_takeThreads := goodIn_r _ [5, 6, 7, 22, 23, 24, 25, 26, 27, 28, 29, 30, 31, 32, 33, 34, 35, 36] (by decide +kernel) (by decide +kernel)
set_option maxRecDepth 20000 in
theorem gX8_repeats_X8_takeThreads : GoodIn wsX8_repeats (wsV RX8 79 RX8 yX8_takeThreads wsX8_takeThreads) := goodIn_app (goodIn_of _ (by decide +kernel)) ggX8_repeats_X8_takeThreads
set_option maxRecDepth 20000 in
theorem ggX8_repeats_X8_weaveOnce : GoodIn wsX8_repeats wsX8_weaveOnce := goodIn_r _ [11, 12, 6, 13, 14, 15, 4, 16, 17, 22, 23, 24, 25, 26, 27, 28, 29, 30, 31, 32, 33, 34, 35, 36] (by decide +kernel) (by decide +kernel)
set_option maxRecDepth 20000 in
theorem gX8_repeats_X8_weaveOnce : GoodIn wsX8_repeats (wsV RX8 82 RX8 yX8_weaveOnce wsX8_weaveOnce) := goodIn_app (goodIn_of _ (by decide +kernel)) ggX8_repeats_X8_weaveOnce
set_option maxRecDepth 20000 in
theorem ggX8_repeats_X8_isSameCloth : GoodIn wsX8_repeats wsX8_isSameCloth := goodIn_r _ [21, 7, 6, 22, 23, 24, 25, 26, 27, 28, 29, 30, 31, 32, 33, 34, 35, 36] (by decide +kernel) (by decide +kernel)
set_option maxRecDepth 20000 in
theorem gX8_repeats_X8_isSameCloth : GoodIn wsX8_repeats (wsV RX8 85 RX8 yX8_isSameCloth wsX8_isSameCloth) := goodIn_app (goodIn_of _ (by decide +kernel)) ggX8_repeats_X8_isSameCloth
theorem dX8_repeats_0 : decode cX8_repeats 0 = .ok (.aload_n 0, 1) := by decide +kernel
theorem dX8_repeats_1 : decode cX8_repeats 1 = .ok (.invokevirtual 79, 3) := by decide +kernel
theorem dX8_repeats_4 : decode cX8_repeats 4 = .ok (.iconst 0, 1) := by decide +kernel
theorem dX8_repeats_5 : decode cX8_repeats 5 = .ok (.istore_n 2, 1) := by decide +kernel
theorem dX8_repeats_6 : decode cX8_repeats 6 = .ok (.iconst 0, 1) := by decide +kernel
theorem dX8_repeats_7 : decode cX8_repeats 7 = .ok (.istore_n 3, 1) := by decide +kernel
theorem dX8_repeats_8 : decode cX8_repeats 8 = .ok (.iload_n 3, 1) := by decide +kernel
theorem dX8_repeats_9 : decode cX8_repeats 9 = .ok (.ifCond .ne 19, 3) := by decide +kernel
theorem dX8_repeats_12 : decode cX8_repeats 12 = .ok (.aload_n 0, 1) := by decide +kernel
theorem dX8_repeats_13 : decode cX8_repeats 13 = .ok (.iload_n 1, 1) := by decide +kernel
theorem dX8_repeats_14 : decode cX8_repeats 14 = .ok (.invokevirtual 82, 3) := by decide +kernel
theorem dX8_repeats_17 : decode cX8_repeats 17 = .ok (.iinc 2 1, 3) := by decide +kernel
theorem dX8_repeats_20 : decode cX8_repeats 20 = .ok (.aload_n 0, 1) := by decide +kernel
theorem dX8_repeats_21 : decode cX8_repeats 21 = .ok (.invokevirtual 85, 3) := by decide +kernel
theorem dX8_repeats_24 : decode cX8_repeats 24 = .ok (.istore_n 3, 1) := by decide +kernel
theorem dX8_repeats_25 : decode cX8_repeats 25 = .ok (.goto (-17), 3) := by decide +kernel
theorem dX8_repeats_28 : decode cX8_repeats 28 = .ok (.iload_n 2, 1) := by decide +kernel
theorem dX8_repeats_29 : decode cX8_repeats 29 = .ok (.ireturn, 1) := by decide +kernel
theorem dX8_homeNow_0 : decode cX8_homeNow 0 = .ok (.iconst 0, 1) := by decide +kernel
theorem dX8_homeNow_1 : decode cX8_homeNow 1 = .ok (.istore_n 1, 1) := by decide +kernel
theorem dX8_homeNow_2 : decode cX8_homeNow 2 = .ok (.iconst 0, 1) := by decide +kernel
theorem dX8_homeNow_3 : decode cX8_homeNow 3 = .ok (.istore_n 2, 1) := by decide +kernel
theorem dX8_homeNow_4 : decode cX8_homeNow 4 = .ok (.iload_n 2, 1) := by decide +kernel
theorem dX8_homeNow_5 : decode cX8_homeNow 5 = .ok (.bipush 12, 2) := by decide +kernel
theorem dX8_homeNow_7 : decode cX8_homeNow 7 = .ok (.if_icmp .ge 27, 3) := by decide +kernel
theorem dX8_homeNow_10 : decode cX8_homeNow 10 = .ok (.iload_n 1, 1) := by decide +kernel
theorem dX8_homeNow_11 : decode cX8_homeNow 11 = .ok (.aload_n 0, 1) := by decide +kernel
theorem dX8_homeNow_12 : decode cX8_homeNow 12 = .ok (.getfield 31, 3) := by decide +kernel
theorem dX8_homeNow_15 : decode cX8_homeNow 15 = .ok (.iload_n 2, 1) := by decide +kernel
theorem dX8_homeNow_16 : decode cX8_homeNow 16 = .ok (.iaload, 1) := by decide +kernel
theorem dX8_homeNow_17 : decode cX8_homeNow 17 = .ok (.iload_n 2, 1) := by decide +kernel
theorem dX8_homeNow_18 : decode cX8_homeNow 18 = .ok (.if_icmp .ne 7, 3) := by decide +kernel
theorem dX8_homeNow_21 : decode cX8_homeNow 21 = .ok (.iconst 1, 1) := by decide +kernel
theorem dX8_homeNow_22 : decode cX8_homeNow 22 = .ok (.goto 4, 3) := by decide +kernel
theorem dX8_homeNow_25 : decode cX8_homeNow 25 = .ok (.iconst 0, 1) := by decide +kernel
theorem dX8_homeNow_26 : decode cX8_homeNow 26 = .ok (.iadd, 1) := by decide +kernel
theorem dX8_homeNow_27 : decode cX8_homeNow 27 = .ok (.istore_n 1, 1) := by decide +kernel
theorem dX8_homeNow_28 : decode cX8_homeNow 28 = .ok (.iinc 2 1, 3) := by decide +kernel
theorem dX8_homeNow_31 : decode cX8_homeNow 31 = .ok (.goto (-27), 3) := by decide +kernel
theorem dX8_homeNow_34 : decode cX8_homeNow 34 = .ok (.iload_n 1, 1) := by decide +kernel
theorem dX8_homeNow_35 : decode cX8_homeNow 35 = .ok (.ireturn, 1) := by decide +kernel
set_option maxRecDepth 20000 in
theorem ggX8_put_X8_isPlace : GoodIn wsX8_put wsX8_isPlace := goodIn_r _ [5, 6, 7, 4, 8] (by decide +kernel) (by decide +kernel)
set_option maxRecDepth 20000 in
theorem gX8_put_X8_isPlace : GoodIn wsX8_put (va_wsS RX8 89 yX8_isPlace wsX8_isPlace) := goodIn_app (goodIn_of _ (by decide +kernel)) ggX8_put_X8_isPlace
end
section
set_option maxRecDepth 20000 in
theorem ggX8_put_X8_within : GoodIn wsX8_put wsX8_within := goodIn_r _ [8] (by decide +kernel) (by decide +kernel)
set_option maxRecDepth 20000 in
theorem gX8_put_X8_within : GoodIn wsX8_put (va_wsS RX8 40 yX8_within wsX8_within) := goodIn_app (goodIn_of _ (by decide +kernel)) ggX8_put_X8_within
set_option maxRecDepth 20000 in
theorem ggX8_put_X8_record : GoodIn wsX8_put wsX8_record := goodIn_r _ [12, 13, 14, 1, 15, 16, 17, 18, 19, 20, 21, 22, 23, 24, 25, 26, 27, 28, 29] (by decide +kernel) (by decide +kernel)
set_option maxRecDepth 20000 in
theorem gX8_put_X8_record : GoodIn wsX8_put (wsV RX8 52 RX8 yX8_record wsX8_record) := goodIn_app (goodIn_of _ (by decide +kernel)) ggX8_put_X8_record
theorem dX8_put_0 : decode cX8_put 0 = .ok (.iload_n 1, 1) := by decide +kernel
theorem dX8_put_1 : decode cX8_put 1 = .ok (.invokestatic 89, 3) := by decide +kernel
theorem dX8_put_4 : decode cX8_put 4 = .ok (.ifCond .eq 12, 3) := by decide +kernel
theorem dX8_put_7 : decode cX8_put 7 = .ok (.iload_n 2, 1) := by decide +kernel
theorem dX8_put_8 : decode cX8_put 8 = .ok (.iconst 0, 1) := by decide +kernel
theorem dX8_put_9 : decode cX8_put 9 = .ok (.iconst 5, 1) := by decide +kernel
theorem dX8_put_10 : decode cX8_put 10 = .ok (.invokestatic 40, 3) := by decide +kernel
theorem dX8_put_13 : decode cX8_put 13 = .ok (.ifCond .ne 5, 3) := by decide +kernel
theorem dX8_put_16 : decode cX8_put 16 = .ok (.iconst (-1), 1) := by decide +kernel
theorem dX8_put_17 : decode cX8_put 17 = .ok (.ireturn, 1) := by decide +kernel
theorem dX8_put_18 : decode cX8_put 18 = .ok (.aload_n 0, 1) := by decide +kernel
theorem dX8_put_19 : decode cX8_put 19 = .ok (.invokevirtual 52, 3) := by decide +kernel
theorem dX8_put_22 : decode cX8_put 22 = .ok (.aload_n 0, 1) := by decide +kernel
theorem dX8_put_23 : decode cX8_put 23 = .ok (.getfield 7, 3) := by decide +kernel
theorem dX8_put_26 : decode cX8_put 26 = .ok (.iconst 0, 1) := by decide +kernel
theorem dX8_put_27 : decode cX8_put 27 = .ok (.iload_n 1, 1) := by decide +kernel
theorem dX8_put_28 : decode cX8_put 28 = .ok (.iadd, 1) := by decide +kernel
theorem dX8_put_29 : decode cX8_put 29 = .ok (.iaload, 1) := by decide +kernel
theorem dX8_put_30 : decode cX8_put 30 = .ok (.istore_n 3, 1) := by decide +kernel
theorem dX8_put_31 : decode cX8_put 31 = .ok (.aload_n 0, 1) := by decide +kernel
theorem dX8_put_32 : decode cX8_put 32 = .ok (.getfield 7, 3) := by decide +kernel
theorem dX8_put_35 : decode cX8_put 35 = .ok (.iconst 0, 1) := by decide +kernel
theorem dX8_put_36 : decode cX8_put 36 = .ok (.iload_n 1, 1) := by decide +kernel
theorem dX8_put_37 : decode cX8_put 37 = .ok (.iadd, 1) := by decide +kernel
theorem dX8_put_38 : decode cX8_put 38 = .ok (.iload_n 2, 1) := by decide +kernel
theorem dX8_put_39 : decode cX8_put 39 = .ok (.iastore, 1) := by decide +kernel
theorem dX8_put_40 : decode cX8_put 40 = .ok (.iload_n 3, 1) := by decide +kernel
theorem dX8_put_41 : decode cX8_put 41 = .ok (.ireturn, 1) := by decide +kernel
set_option maxRecDepth 20000 in
theorem ggX8_tie_X8_within : GoodIn wsX8_tie wsX8_within := goodIn_r _ [5] (by decide +kernel) (by decide +kernel)
set_option maxRecDepth 20000 in
theorem gX8_tie_X8_within : GoodIn wsX8_tie (va_wsS RX8 40 yX8_within wsX8_within) := goodIn_app (goodIn_of _ (by decide +kernel)) ggX8_tie_X8_within
set_option maxRecDepth 20000 in
theorem ggX8_tie_X8_record : GoodIn wsX8_tie wsX8_record := goodIn_r _ [9, 10, 11, 1, 19, 20, 21, 22, 23, 24, 25, 26, 27, 28, 29, 30, 31, 32, 33] (by decide +kernel) (by decide +kernel)
set_option maxRecDepth 20000 in
theorem gX8_tie_X8_record : GoodIn wsX8_tie (wsV RX8 52 RX8 yX8_record wsX8_record) := goodIn_app (goodIn_of _ (by decide +kernel)) ggX8_tie_X8_record
set_option maxRecDepth 20000 in
theorem ggX8_tie_X8_raised : GoodIn wsX8_tie wsX8_raised := goodIn_r _ [15, 1, 19, 20, 21, 22, 23, 24, 25, 26, 27, 28, 29, 30, 31, 32, 33] (by decide +kernel) (by decide +kernel)
set_option maxRecDepth 20000 in
theorem gX8_tie_X8_raised : GoodIn wsX8_tie (wsV RX8 55 RX8 yX8_raised wsX8_raised) := goodIn_app (goodIn_of _ (by decide +kernel)) ggX8_tie_X8_raised
set_option maxRecDepth 20000 in
theorem ggX8_tie_X8_ones : GoodIn wsX8_tie wsX8_ones := goodIn_r _ [18] (by decide +kernel) (by decide +kernel)
set_option maxRecDepth 20000 in
theorem gX8_tie_X8_ones : GoodIn wsX8_tie (va_wsS RX8 93 yX8_ones wsX8_ones) := goodIn_app (goodIn_of _ (by decide +kernel)) ggX8_tie_X8_ones
theorem dX8_tie_0 : decode cX8_tie 0 = .ok (.iload_n 1, 1) := by decide +kernel
theorem dX8_tie_1 : decode cX8_tie 1 = .ok (.iconst 0, 1) := by decide +kernel
theorem dX8_tie_2 : decode cX8_tie 2 = .ok (.iconst 5, 1) := by decide +kernel
theorem dX8_tie_3 : decode cX8_tie 3 = .ok (.invokestatic 40, 3) := by decide +kernel
theorem dX8_tie_6 : decode cX8_tie 6 = .ok (.ifCond .ne 5, 3) := by decide +kernel
theorem dX8_tie_9 : decode cX8_tie 9 = .ok (.iconst (-1), 1) := by decide +kernel
theorem dX8_tie_10 : decode cX8_tie 10 = .ok (.ireturn, 1) := by decide +kernel
theorem dX8_tie_11 : decode cX8_tie 11 = .ok (.iload_n 2, 1) := by decide +kernel
theorem dX8_tie_12 : decode cX8_tie 12 = .ok (.iconst 0, 1) := by decide +kernel
theorem dX8_tie_13 : decode cX8_tie 13 = .ok (.bipush 63, 2) := by decide +kernel
theorem dX8_tie_15 : decode cX8_tie 15 = .ok (.invokestatic 40, 3) := by decide +kernel
theorem dX8_tie_18 : decode cX8_tie 18 = .ok (.ifCond .ne 6, 3) := by decide +kernel
theorem dX8_tie_21 : decode cX8_tie 21 = .ok (.bipush (-2), 2) := by decide +kernel
theorem dX8_tie_23 : decode cX8_tie 23 = .ok (.ireturn, 1) := by decide +kernel
theorem dX8_tie_24 : decode cX8_tie 24 = .ok (.aload_n 0, 1) := by decide +kernel
theorem dX8_tie_25 : decode cX8_tie 25 = .ok (.invokevirtual 52, 3) := by decide +kernel
theorem dX8_tie_28 : decode cX8_tie 28 = .ok (.aload_n 0, 1) := by decide +kernel
theorem dX8_tie_29 : decode cX8_tie 29 = .ok (.getfield 7, 3) := by decide +kernel
theorem dX8_tie_32 : decode cX8_tie 32 = .ok (.bipush 12, 2) := by decide +kernel
theorem dX8_tie_34 : decode cX8_tie 34 = .ok (.iload_n 1, 1) := by decide +kernel
theorem dX8_tie_35 : decode cX8_tie 35 = .ok (.iadd, 1) := by decide +kernel
theorem dX8_tie_36 : decode cX8_tie 36 = .ok (.iload_n 2, 1) := by decide +kernel
theorem dX8_tie_37 : decode cX8_tie 37 = .ok (.iastore, 1) := by decide +kernel
theorem dX8_tie_38 : decode cX8_tie 38 = .ok (.aload_n 0, 1) := by decide +kernel
theorem dX8_tie_39 : decode cX8_tie 39 = .ok (.iload_n 1, 1) := by decide +kernel
theorem dX8_tie_40 : decode cX8_tie 40 = .ok (.invokevirtual 55, 3) := by decide +kernel
theorem dX8_tie_43 : decode cX8_tie 43 = .ok (.invokestatic 93, 3) := by decide +kernel
theorem dX8_tie_46 : decode cX8_tie 46 = .ok (.ireturn, 1) := by decide +kernel
set_option maxRecDepth 20000 in
theorem ggX8_make_X8_record : GoodIn wsX8_make wsX8_record := goodIn_r _ [8, 9, 10, 1, 11, 12, 13, 14, 15, 16, 17, 18, 19, 20, 21, 22, 23, 24, 25] (by decide +kernel) (by decide +kernel)
set_option maxRecDepth 20000 in
theorem gX8_make_X8_record : GoodIn wsX8_make (wsV RX8 52 RX8 yX8_record wsX8_record) := goodIn_app (goodIn_of _ (by decide +kernel)) ggX8_make_X8_record
theorem dX8_make_0 : decode cX8_make 0 = .ok (.aload_n 0, 1) := by decide +kernel
theorem dX8_make_1 : decode cX8_make 1 = .ok (.invokevirtual 52, 3) := by decide +kernel
theorem dX8_make_4 : decode cX8_make 4 = .ok (.aload_n 0, 1) := by decide +kernel
theorem dX8_make_5 : decode cX8_make 5 = .ok (.getfield 7, 3) := by decide +kernel
theorem dX8_make_8 : decode cX8_make 8 = .ok (.bipush 42, 2) := by decide +kernel
theorem dX8_make_10 : decode cX8_make 10 = .ok (.iload_n 1, 1) := by decide +kernel
theorem dX8_make_11 : decode cX8_make 11 = .ok (.iadd, 1) := by decide +kernel
theorem dX8_make_12 : decode cX8_make 12 = .ok (.aload_n 0, 1) := by decide +kernel
theorem dX8_make_13 : decode cX8_make 13 = .ok (.getfield 96, 3) := by decide +kernel
theorem dX8_make_16 : decode cX8_make 16 = .ok (.iastore, 1) := by decide +kernel
theorem dX8_make_17 : decode cX8_make 17 = .ok (.iconst 0, 1) := by decide +kernel
theorem dX8_make_18 : decode cX8_make 18 = .ok (.istore_n 2, 1) := by decide +kernel
theorem dX8_make_19 : decode cX8_make 19 = .ok (.iload_n 2, 1) := by decide +kernel
theorem dX8_make_20 : decode cX8_make 20 = .ok (.bipush 24, 2) := by decide +kernel
theorem dX8_make_22 : decode cX8_make 22 = .ok (.if_icmp .ge 41, 3) := by decide +kernel
theorem dX8_make_25 : decode cX8_make 25 = .ok (.aload_n 0, 1) := by decide +kernel
theorem dX8_make_26 : decode cX8_make 26 = .ok (.getfield 7, 3) := by decide +kernel
theorem dX8_make_29 : decode cX8_make 29 = .ok (.bipush 48, 2) := by decide +kernel
theorem dX8_make_31 : decode cX8_make 31 = .ok (.bipush 24, 2) := by decide +kernel
theorem dX8_make_33 : decode cX8_make 33 = .ok (.iload_n 1, 1) := by decide +kernel
theorem dX8_make_34 : decode cX8_make 34 = .ok (.imul, 1) := by decide +kernel
theorem dX8_make_35 : decode cX8_make 35 = .ok (.iadd, 1) := by decide +kernel
theorem dX8_make_36 : decode cX8_make 36 = .ok (.iload_n 2, 1) := by decide +kernel
theorem dX8_make_37 : decode cX8_make 37 = .ok (.iadd, 1) := by decide +kernel
theorem dX8_make_38 : decode cX8_make 38 = .ok (.iload_n 2, 1) := by decide +kernel
theorem dX8_make_39 : decode cX8_make 39 = .ok (.aload_n 0, 1) := by decide +kernel
theorem dX8_make_40 : decode cX8_make 40 = .ok (.getfield 96, 3) := by decide +kernel
theorem dX8_make_43 : decode cX8_make 43 = .ok (.if_icmp .ge 12, 3) := by decide +kernel
theorem dX8_make_46 : decode cX8_make 46 = .ok (.aload_n 0, 1) := by decide +kernel
theorem dX8_make_47 : decode cX8_make 47 = .ok (.getfield 25, 3) := by decide +kernel
theorem dX8_make_50 : decode cX8_make 50 = .ok (.iload_n 2, 1) := by decide +kernel
theorem dX8_make_51 : decode cX8_make 51 = .ok (.iaload, 1) := by decide +kernel
theorem dX8_make_52 : decode cX8_make 52 = .ok (.goto 4, 3) := by decide +kernel
theorem dX8_make_55 : decode cX8_make 55 = .ok (.iconst 0, 1) := by decide +kernel
theorem dX8_make_56 : decode cX8_make 56 = .ok (.iastore, 1) := by decide +kernel
theorem dX8_make_57 : decode cX8_make 57 = .ok (.iinc 2 1, 3) := by decide +kernel
theorem dX8_make_60 : decode cX8_make 60 = .ok (.goto (-41), 3) := by decide +kernel
theorem dX8_make_63 : decode cX8_make 63 = .ok (.aload_n 0, 1) := by decide +kernel
theorem dX8_make_64 : decode cX8_make 64 = .ok (.getfield 96, 3) := by decide +kernel
theorem dX8_make_67 : decode cX8_make 67 = .ok (.ireturn, 1) := by decide +kernel
set_option maxRecDepth 20000 in
theorem ggX8_addRow_X8_lengthOf : GoodIn wsX8_addRow wsX8_lengthOf := goodIn_r _ [7, 8, 13, 14, 15, 16, 17, 18, 19, 20, 21, 22, 23, 24, 25, 26, 27] (by decide +kernel) (by decide +kernel)
set_option maxRecDepth 20000 in
theorem gX8_addRow_X8_lengthOf : GoodIn wsX8_addRow (wsV RX8 59 RX8 yX8_lengthOf wsX8_lengthOf) := goodIn_app (goodIn_of _ (by decide +kernel)) ggX8_addRow_X8_lengthOf
set_option maxRecDepth 20000 in
theorem ggX8_addRow_X8_pressOf : GoodIn wsX8_addRow wsX8_pressOf := goodIn_r _ [12, 8, 13, 14, 15, 16, 17, 18, 19, 20, 21, 22, 23, 24, 25, 26, 27] (by decide +kernel) (by decide +kernel)
set_option maxRecDepth 20000 in
theorem gX8_addRow_X8_pressOf : GoodIn wsX8_addRow (wsV RX8 62 RX8 yX8_pressOf wsX8_pressOf) := goodIn_app (goodIn_of _ (by decide +kernel)) ggX8_addRow_X8_pressOf
theorem dX8_addRow_0 : decode cX8_addRow 0 = .ok (.iconst 0, 1) := by decide +kernel
theorem dX8_addRow_1 : decode cX8_addRow 1 = .ok (.istore_n 2, 1) := by decide +kernel
theorem dX8_addRow_2 : decode cX8_addRow 2 = .ok (.iload_n 2, 1) := by decide +kernel
theorem dX8_addRow_3 : decode cX8_addRow 3 = .ok (.aload_n 0, 1) := by decide +kernel
theorem dX8_addRow_4 : decode cX8_addRow 4 = .ok (.iload_n 1, 1) := by decide +kernel
theorem dX8_addRow_5 : decode cX8_addRow 5 = .ok (.invokevirtual 59, 3) := by decide +kernel
theorem dX8_addRow_8 : decode cX8_addRow 8 = .ok (.if_icmp .ge 34, 3) := by decide +kernel
theorem dX8_addRow_11 : decode cX8_addRow 11 = .ok (.aload_n 0, 1) := by decide +kernel
theorem dX8_addRow_12 : decode cX8_addRow 12 = .ok (.getfield 25, 3) := by decide +kernel
theorem dX8_addRow_15 : decode cX8_addRow 15 = .ok (.aload_n 0, 1) := by decide +kernel
theorem dX8_addRow_16 : decode cX8_addRow 16 = .ok (.getfield 96, 3) := by decide +kernel
theorem dX8_addRow_19 : decode cX8_addRow 19 = .ok (.aload_n 0, 1) := by decide +kernel
theorem dX8_addRow_20 : decode cX8_addRow 20 = .ok (.iload_n 1, 1) := by decide +kernel
theorem dX8_addRow_21 : decode cX8_addRow 21 = .ok (.iload_n 2, 1) := by decide +kernel
theorem dX8_addRow_22 : decode cX8_addRow 22 = .ok (.invokevirtual 62, 3) := by decide +kernel
theorem dX8_addRow_25 : decode cX8_addRow 25 = .ok (.iastore, 1) := by decide +kernel
theorem dX8_addRow_26 : decode cX8_addRow 26 = .ok (.aload_n 0, 1) := by decide +kernel
theorem dX8_addRow_27 : decode cX8_addRow 27 = .ok (.dup, 1) := by decide +kernel
theorem dX8_addRow_28 : decode cX8_addRow 28 = .ok (.getfield 96, 3) := by decide +kernel
theorem dX8_addRow_31 : decode cX8_addRow 31 = .ok (.iconst 1, 1) := by decide +kernel
theorem dX8_addRow_32 : decode cX8_addRow 32 = .ok (.iadd, 1) := by decide +kernel
theorem dX8_addRow_33 : decode cX8_addRow 33 = .ok (.putfield 96, 3) := by decide +kernel
theorem dX8_addRow_36 : decode cX8_addRow 36 = .ok (.iinc 2 1, 3) := by decide +kernel
theorem dX8_addRow_39 : decode cX8_addRow 39 = .ok (.goto (-37), 3) := by decide +kernel
theorem dX8_addRow_42 : decode cX8_addRow 42 = .ok (.return_, 1) := by decide +kernel
set_option maxRecDepth 20000 in
theorem ggX8_read_X8_isDraft : GoodIn wsX8_read wsX8_isDraft := goodIn_r _ [5, 6, 7, 4, 8] (by decide +kernel) (by decide +kernel)
set_option maxRecDepth 20000 in
theorem gX8_read_X8_isDraft : GoodIn wsX8_read (va_wsS RX8 99 yX8_isDraft wsX8_isDraft) := goodIn_app (goodIn_of _ (by decide +kernel)) ggX8_read_X8_isDraft
set_option maxRecDepth 20000 in
theorem ggX8_read_X8_findFault : GoodIn wsX8_read wsX8_findFault := goodIn_r _ [12, 13, 14, 1, 15, 16, 17, 4, 18, 19, 20, 21, 22, 23, 24, 6, 7, 8, 36, 37, 38, 39, 40, 41, 42, 43, 44, 45, 46, 47, 48, 49, 50] (by decide +kernel) (by decide +kernel)
set_option maxRecDepth 20000 in
theorem gX8_read_X8_findFault : GoodIn wsX8_read (wsV RX8 102 RX8 yX8_findFault wsX8_findFault) := goodIn_app (goodIn_of _ (by decide +kernel)) ggX8_read_X8_findFault
set_option maxRecDepth 20000 in
theorem ggX8_read_X8_make : GoodIn wsX8_read wsX8_make := goodIn_r _ [28, 29, 14, 19, 30, 31, 32, 4, 33, 34, 35, 36, 37, 38, 39, 40, 41, 42, 43, 44, 45, 46, 47, 48, 49, 50] (by decide +kernel) (by decide +kernel)
set_option maxRecDepth 20000 in
theorem gX8_read_X8_make : GoodIn wsX8_read (wsV RX8 108 RX8 yX8_make wsX8_make) := goodIn_app (goodIn_of _ (by decide +kernel)) ggX8_read_X8_make
theorem dX8_read_0 : decode cX8_read 0 = .ok (.iload_n 1, 1) := by decide +kernel
theorem dX8_read_1 : decode cX8_read 1 = .ok (.invokestatic 99, 3) := by decide +kernel
theorem dX8_read_4 : decode cX8_read 4 = .ok (.ifCond .ne 5, 3) := by decide +kernel
theorem dX8_read_7 : decode cX8_read 7 = .ok (.iconst (-1), 1) := by decide +kernel
theorem dX8_read_8 : decode cX8_read 8 = .ok (.ireturn, 1) := by decide +kernel
theorem dX8_read_9 : decode cX8_read 9 = .ok (.aload_n 0, 1) := by decide +kernel
theorem dX8_read_10 : decode cX8_read 10 = .ok (.invokevirtual 102, 3) := by decide +kernel
theorem dX8_read_13 : decode cX8_read 13 = .ok (.bipush (-6), 2) := by decide +kernel
theorem dX8_read_15 : decode cX8_read 15 = .ok (.if_icmp .eq 6, 3) := by decide +kernel
theorem dX8_read_18 : decode cX8_read 18 = .ok (.bipush (-3), 2) := by decide +kernel
theorem dX8_read_20 : decode cX8_read 20 = .ok (.ireturn, 1) := by decide +kernel
theorem dX8_read_21 : decode cX8_read 21 = .ok (.aload_n 0, 1) := by decide +kernel
theorem dX8_read_22 : decode cX8_read 22 = .ok (.iconst 0, 1) := by decide +kernel
theorem dX8_read_23 : decode cX8_read 23 = .ok (.putfield 105, 3) := by decide +kernel
theorem dX8_read_26 : decode cX8_read 26 = .ok (.aload_n 0, 1) := by decide +kernel
theorem dX8_read_27 : decode cX8_read 27 = .ok (.iload_n 1, 1) := by decide +kernel
theorem dX8_read_28 : decode cX8_read 28 = .ok (.invokevirtual 108, 3) := by decide +kernel
theorem dX8_read_31 : decode cX8_read 31 = .ok (.ireturn, 1) := by decide +kernel
set_option maxRecDepth 20000 in
theorem ggX8_compose_X8_isDraft : GoodIn wsX8_compose wsX8_isDraft := goodIn_r _ [5, 6, 7, 4, 8] (by decide +kernel) (by decide +kernel)
set_option maxRecDepth 20000 in
theorem gX8_compose_X8_isDraft : GoodIn wsX8_compose (va_wsS RX8 99 yX8_isDraft wsX8_isDraft) := goodIn_app (goodIn_of _ (by decide +kernel)) ggX8_compose_X8_isDraft
set_option maxRecDepth 20000 in
theorem ggX8_compose_X8_lengthOf : GoodIn wsX8_compose wsX8_lengthOf := goodIn_r _ [12, 13, 33, 34, 35, 36, 37, 38, 39, 40, 41, 42, 43, 44, 45, 46, 47] (by decide +kernel) (by decide +kernel)
set_option maxRecDepth 20000 in
theorem gX8_compose_X8_lengthOf : GoodIn wsX8_compose (wsV RX8 59 RX8 yX8_lengthOf wsX8_lengthOf) := goodIn_app (goodIn_of _ (by decide +kernel)) ggX8_compose_X8_lengthOf
set_option maxRecDepth 20000 in
theorem ggX8_compose_X8_addRow : GoodIn wsX8_compose wsX8_addRow := goodIn_r _ [17, 18, 1, 9, 10, 11, 4, 12, 13, 19, 20, 21, 22, 33, 34, 35, 36, 37, 38, 39, 40, 41, 42, 43, 44, 45, 46, 47] (by decide +kernel) (by decide +kernel)
set_option maxRecDepth 20000 in
theorem gX8_compose_X8_addRow : GoodIn wsX8_compose (wsV RX8 111 RX8 yX8_addRow wsX8_addRow) := goodIn_app (goodIn_of _ (by decide +kernel)) ggX8_compose_X8_addRow
set_option maxRecDepth 20000 in
theorem ggX8_compose_X8_make : GoodIn wsX8_compose wsX8_make := goodIn_r _ [26, 13, 1, 18, 27, 28, 29, 4, 30, 31, 32, 33, 34, 35, 36, 37, 38, 39, 40, 41, 42, 43, 44, 45, 46, 47] (by decide +kernel) (by decide +kernel)
set_option maxRecDepth 20000 in
theorem gX8_compose_X8_make : GoodIn wsX8_compose (wsV RX8 108 RX8 yX8_make wsX8_make) := goodIn_app (goodIn_of _ (by decide +kernel)) ggX8_compose_X8_make
theorem dX8_compose_0 : decode cX8_compose 0 = .ok (.iload_n 1, 1) := by decide +kernel
theorem dX8_compose_1 : decode cX8_compose 1 = .ok (.invokestatic 99, 3) := by decide +kernel
theorem dX8_compose_4 : decode cX8_compose 4 = .ok (.ifCond .eq 17, 3) := by decide +kernel
theorem dX8_compose_7 : decode cX8_compose 7 = .ok (.iload_n 2, 1) := by decide +kernel
theorem dX8_compose_8 : decode cX8_compose 8 = .ok (.invokestatic 99, 3) := by decide +kernel
theorem dX8_compose_11 : decode cX8_compose 11 = .ok (.ifCond .eq 10, 3) := by decide +kernel
theorem dX8_compose_14 : decode cX8_compose 14 = .ok (.iload_n 3, 1) := by decide +kernel
theorem dX8_compose_15 : decode cX8_compose 15 = .ok (.invokestatic 99, 3) := by decide +kernel
theorem dX8_compose_18 : decode cX8_compose 18 = .ok (.ifCond .ne 5, 3) := by decide +kernel
theorem dX8_compose_21 : decode cX8_compose 21 = .ok (.iconst (-1), 1) := by decide +kernel
theorem dX8_compose_22 : decode cX8_compose 22 = .ok (.ireturn, 1) := by decide +kernel
theorem dX8_compose_23 : decode cX8_compose 23 = .ok (.aload_n 0, 1) := by decide +kernel
theorem dX8_compose_24 : decode cX8_compose 24 = .ok (.iload_n 2, 1) := by decide +kernel
theorem dX8_compose_25 : decode cX8_compose 25 = .ok (.invokevirtual 59, 3) := by decide +kernel
theorem dX8_compose_28 : decode cX8_compose 28 = .ok (.aload_n 0, 1) := by decide +kernel
theorem dX8_compose_29 : decode cX8_compose 29 = .ok (.iload_n 3, 1) := by decide +kernel
theorem dX8_compose_30 : decode cX8_compose 30 = .ok (.invokevirtual 59, 3) := by decide +kernel
theorem dX8_compose_33 : decode cX8_compose 33 = .ok (.iadd, 1) := by decide +kernel
theorem dX8_compose_34 : decode cX8_compose 34 = .ok (.bipush 24, 2) := by decide +kernel
theorem dX8_compose_36 : decode cX8_compose 36 = .ok (.if_icmp .le 6, 3) := by decide +kernel
theorem dX8_compose_39 : decode cX8_compose 39 = .ok (.bipush (-4), 2) := by decide +kernel
theorem dX8_compose_41 : decode cX8_compose 41 = .ok (.ireturn, 1) := by decide +kernel
theorem dX8_compose_42 : decode cX8_compose 42 = .ok (.aload_n 0, 1) := by decide +kernel
theorem dX8_compose_43 : decode cX8_compose 43 = .ok (.iconst 0, 1) := by decide +kernel
theorem dX8_compose_44 : decode cX8_compose 44 = .ok (.putfield 96, 3) := by decide +kernel
theorem dX8_compose_47 : decode cX8_compose 47 = .ok (.aload_n 0, 1) := by decide +kernel
theorem dX8_compose_48 : decode cX8_compose 48 = .ok (.iload_n 2, 1) := by decide +kernel
theorem dX8_compose_49 : decode cX8_compose 49 = .ok (.invokevirtual 111, 3) := by decide +kernel
theorem dX8_compose_52 : decode cX8_compose 52 = .ok (.aload_n 0, 1) := by decide +kernel
theorem dX8_compose_53 : decode cX8_compose 53 = .ok (.iload_n 3, 1) := by decide +kernel
theorem dX8_compose_54 : decode cX8_compose 54 = .ok (.invokevirtual 111, 3) := by decide +kernel
theorem dX8_compose_57 : decode cX8_compose 57 = .ok (.aload_n 0, 1) := by decide +kernel
theorem dX8_compose_58 : decode cX8_compose 58 = .ok (.iload_n 1, 1) := by decide +kernel
theorem dX8_compose_59 : decode cX8_compose 59 = .ok (.invokevirtual 108, 3) := by decide +kernel
theorem dX8_compose_62 : decode cX8_compose 62 = .ok (.ireturn, 1) := by decide +kernel
set_option maxRecDepth 20000 in
theorem ggX8_turnRound_X8_isDraft : GoodIn wsX8_turnRound wsX8_isDraft := goodIn_r _ [6, 7, 8, 5, 9] (by decide +kernel) (by decide +kernel)
set_option maxRecDepth 20000 in
theorem gX8_turnRound_X8_isDraft : GoodIn wsX8_turnRound (va_wsS RX8 99 yX8_isDraft wsX8_isDraft) := goodIn_app (goodIn_of _ (by decide +kernel)) ggX8_turnRound_X8_isDraft
set_option maxRecDepth 20000 in
theorem ggX8_turnRound_X8_lengthOf : GoodIn wsX8_turnRound wsX8_lengthOf := goodIn_r _ [13, 14, 29, 30, 31, 32, 33, 34, 35, 36, 37, 38, 39, 40, 41, 42, 43] (by decide +kernel) (by decide +kernel)
set_option maxRecDepth 20000 in
theorem gX8_turnRound_X8_lengthOf : GoodIn wsX8_turnRound (wsV RX8 59 RX8 yX8_lengthOf wsX8_lengthOf) := goodIn_app (goodIn_of _ (by decide +kernel)) ggX8_turnRound_X8_lengthOf
set_option maxRecDepth 20000 in
theorem ggX8_turnRound_X8_pressOf : GoodIn wsX8_turnRound wsX8_pressOf := goodIn_r _ [18, 14, 29, 30, 31, 32, 33, 34, 35, 36, 37, 38, 39, 40, 41, 42, 43] (by decide +kernel) (by decide +kernel)
set_option maxRecDepth 20000 in
theorem gX8_turnRound_X8_pressOf : GoodIn wsX8_turnRound (wsV RX8 62 RX8 yX8_pressOf wsX8_pressOf) := goodIn_app (goodIn_of _ (by decide +kernel)) ggX8_turnRound_X8_pressOf
set_option maxRecDepth 20000 in
theorem ggX8_turnRound_X8_make : GoodIn wsX8_turnRound wsX8_make := goodIn_r _ [22, 14, 1, 2, 23, 24, 25, 5, 26, 27, 28, 29, 30, 31, 32, 33, 34, 35, 36, 37, 38, 39, 40, 41, 42, 43] (by decide +kernel) (by decide +kernel)
set_option maxRecDepth 20000 in
theorem gX8_turnRound_X8_make : GoodIn wsX8_turnRound (wsV RX8 108 RX8 yX8_make wsX8_make) := goodIn_app (goodIn_of _ (by decide +kernel)) ggX8_turnRound_X8_make
theorem dX8_turnRound_0 : decode cX8_turnRound 0 = .ok (.iload_n 1, 1) := by decide +kernel
theorem dX8_turnRound_1 : decode cX8_turnRound 1 = .ok (.invokestatic 99, 3) := by decide +kernel
theorem dX8_turnRound_4 : decode cX8_turnRound 4 = .ok (.ifCond .eq 10, 3) := by decide +kernel
theorem dX8_turnRound_7 : decode cX8_turnRound 7 = .ok (.iload_n 2, 1) := by decide +kernel
theorem dX8_turnRound_8 : decode cX8_turnRound 8 = .ok (.invokestatic 99, 3) := by decide +kernel
theorem dX8_turnRound_11 : decode cX8_turnRound 11 = .ok (.ifCond .ne 5, 3) := by decide +kernel
theorem dX8_turnRound_14 : decode cX8_turnRound 14 = .ok (.iconst (-1), 1) := by decide +kernel
theorem dX8_turnRound_15 : decode cX8_turnRound 15 = .ok (.ireturn, 1) := by decide +kernel
theorem dX8_turnRound_16 : decode cX8_turnRound 16 = .ok (.aload_n 0, 1) := by decide +kernel
theorem dX8_turnRound_17 : decode cX8_turnRound 17 = .ok (.iconst 0, 1) := by decide +kernel
theorem dX8_turnRound_18 : decode cX8_turnRound 18 = .ok (.putfield 96, 3) := by decide +kernel
theorem dX8_turnRound_21 : decode cX8_turnRound 21 = .ok (.aload_n 0, 1) := by decide +kernel
theorem dX8_turnRound_22 : decode cX8_turnRound 22 = .ok (.iload_n 2, 1) := by decide +kernel
theorem dX8_turnRound_23 : decode cX8_turnRound 23 = .ok (.invokevirtual 59, 3) := by decide +kernel
theorem dX8_turnRound_26 : decode cX8_turnRound 26 = .ok (.iconst 1, 1) := by decide +kernel
theorem dX8_turnRound_27 : decode cX8_turnRound 27 = .ok (.isub, 1) := by decide +kernel
theorem dX8_turnRound_28 : decode cX8_turnRound 28 = .ok (.istore_n 3, 1) := by decide +kernel
theorem dX8_turnRound_29 : decode cX8_turnRound 29 = .ok (.iload_n 3, 1) := by decide +kernel
theorem dX8_turnRound_30 : decode cX8_turnRound 30 = .ok (.ifCond .lt 40, 3) := by decide +kernel
theorem dX8_turnRound_33 : decode cX8_turnRound 33 = .ok (.aload_n 0, 1) := by decide +kernel
theorem dX8_turnRound_34 : decode cX8_turnRound 34 = .ok (.getfield 25, 3) := by decide +kernel
theorem dX8_turnRound_37 : decode cX8_turnRound 37 = .ok (.aload_n 0, 1) := by decide +kernel
theorem dX8_turnRound_38 : decode cX8_turnRound 38 = .ok (.getfield 96, 3) := by decide +kernel
theorem dX8_turnRound_41 : decode cX8_turnRound 41 = .ok (.aload_n 0, 1) := by decide +kernel
theorem dX8_turnRound_42 : decode cX8_turnRound 42 = .ok (.iload_n 2, 1) := by decide +kernel
theorem dX8_turnRound_43 : decode cX8_turnRound 43 = .ok (.iload_n 3, 1) := by decide +kernel
theorem dX8_turnRound_44 : decode cX8_turnRound 44 = .ok (.invokevirtual 62, 3) := by decide +kernel
theorem dX8_turnRound_47 : decode cX8_turnRound 47 = .ok (.bipush 6, 2) := by decide +kernel
theorem dX8_turnRound_49 : decode cX8_turnRound 49 = .ok (.iadd, 1) := by decide +kernel
theorem dX8_turnRound_50 : decode cX8_turnRound 50 = .ok (.bipush 12, 2) := by decide +kernel
theorem dX8_turnRound_52 : decode cX8_turnRound 52 = .ok (.irem, 1) := by decide +kernel
theorem dX8_turnRound_53 : decode cX8_turnRound 53 = .ok (.iastore, 1) := by decide +kernel
theorem dX8_turnRound_54 : decode cX8_turnRound 54 = .ok (.aload_n 0, 1) := by decide +kernel
theorem dX8_turnRound_55 : decode cX8_turnRound 55 = .ok (.dup, 1) := by decide +kernel
theorem dX8_turnRound_56 : decode cX8_turnRound 56 = .ok (.getfield 96, 3) := by decide +kernel
theorem dX8_turnRound_59 : decode cX8_turnRound 59 = .ok (.iconst 1, 1) := by decide +kernel
theorem dX8_turnRound_60 : decode cX8_turnRound 60 = .ok (.iadd, 1) := by decide +kernel
theorem dX8_turnRound_61 : decode cX8_turnRound 61 = .ok (.putfield 96, 3) := by decide +kernel
theorem dX8_turnRound_64 : decode cX8_turnRound 64 = .ok (.iinc 3 (-1), 3) := by decide +kernel
theorem dX8_turnRound_67 : decode cX8_turnRound 67 = .ok (.goto (-38), 3) := by decide +kernel
theorem dX8_turnRound_70 : decode cX8_turnRound 70 = .ok (.aload_n 0, 1) := by decide +kernel
theorem dX8_turnRound_71 : decode cX8_turnRound 71 = .ok (.iload_n 1, 1) := by decide +kernel
theorem dX8_turnRound_72 : decode cX8_turnRound 72 = .ok (.invokevirtual 108, 3) := by decide +kernel
theorem dX8_turnRound_75 : decode cX8_turnRound 75 = .ok (.ireturn, 1) := by decide +kernel
set_option maxRecDepth 20000 in
theorem ggX8_repeat_X8_isDraft : GoodIn wsX8_repeat wsX8_isDraft := goodIn_r _ [5, 6, 7, 4, 8] (by decide +kernel) (by decide +kernel)
set_option maxRecDepth 20000 in
theorem gX8_repeat_X8_isDraft : GoodIn wsX8_repeat (va_wsS RX8 99 yX8_isDraft wsX8_isDraft) := goodIn_app (goodIn_of _ (by decide +kernel)) ggX8_repeat_X8_isDraft
set_option maxRecDepth 20000 in
theorem ggX8_repeat_X8_within : GoodIn wsX8_repeat wsX8_within := goodIn_r _ [8] (by decide +kernel) (by decide +kernel)
set_option maxRecDepth 20000 in
theorem gX8_repeat_X8_within : GoodIn wsX8_repeat (va_wsS RX8 40 yX8_within wsX8_within) := goodIn_app (goodIn_of _ (by decide +kernel)) ggX8_repeat_X8_within
set_option maxRecDepth 20000 in
theorem ggX8_repeat_X8_lengthOf : GoodIn wsX8_repeat wsX8_lengthOf := goodIn_r _ [12, 13, 33, 34, 35, 36, 37, 38, 39, 40, 41, 42, 43, 44, 45, 46, 47] (by decide +kernel) (by decide +kernel)
set_option maxRecDepth 20000 in
theorem gX8_repeat_X8_lengthOf : GoodIn wsX8_repeat (wsV RX8 59 RX8 yX8_lengthOf wsX8_lengthOf) := goodIn_app (goodIn_of _ (by decide +kernel)) ggX8_repeat_X8_lengthOf
set_option maxRecDepth 20000 in
theorem ggX8_repeat_X8_addRow : GoodIn wsX8_repeat wsX8_addRow := goodIn_r _ [17, 18, 1, 9, 10, 11, 4, 12, 13, 19, 20, 21, 22, 33, 34, 35, 36, 37, 38, 39, 40, 41, 42, 43, 44, 45, 46, 47] (by decide +kernel) (by decide +kernel)
set_option maxRecDepth 20000 in
theorem gX8_repeat_X8_addRow : GoodIn wsX8_repeat (wsV RX8 111 RX8 yX8_addRow wsX8_addRow) := goodIn_app (goodIn_of _ (by decide +kernel)) ggX8_repeat_X8_addRow
set_option maxRecDepth 20000 in
theorem ggX8_repeat_X8_make : GoodIn wsX8_repeat wsX8_make := goodIn_r _ [26, 13, 1, 18, 27, 28, 29, 4, 30, 31, 32, 33, 34, 35, 36, 37, 38, 39, 40, 41, 42, 43, 44, 45, 46, 47] (by decide +kernel) (by decide +kernel)
set_option maxRecDepth 20000 in
theorem gX8_repeat_X8_make : GoodIn wsX8_repeat (wsV RX8 108 RX8 yX8_make wsX8_make) := goodIn_app (goodIn_of _ (by decide +kernel)) ggX8_repeat_X8_make
theorem dX8_repeat_0 : decode cX8_repeat 0 = .ok (.iload_n 1, 1) := by decide +kernel
theorem dX8_repeat_1 : decode cX8_repeat 1 = .ok (.invokestatic 99, 3) := by decide +kernel
theorem dX8_repeat_4 : decode cX8_repeat 4 = .ok (.ifCond .eq 10, 3) := by decide +kernel
theorem dX8_repeat_7 : decode cX8_repeat 7 = .ok (.iload_n 2, 1) := by decide +kernel
theorem dX8_repeat_8 : decode cX8_repeat 8 = .ok (.invokestatic 99, 3) := by decide +kernel
theorem dX8_repeat_11 : decode cX8_repeat 11 = .ok (.ifCond .ne 5, 3) := by decide +kernel
theorem dX8_repeat_14 : decode cX8_repeat 14 = .ok (.iconst (-1), 1) := by decide +kernel
theorem dX8_repeat_15 : decode cX8_repeat 15 = .ok (.ireturn, 1) := by decide +kernel
theorem dX8_repeat_16 : decode cX8_repeat 16 = .ok (.iload_n 3, 1) := by decide +kernel
theorem dX8_repeat_17 : decode cX8_repeat 17 = .ok (.iconst 0, 1) := by decide +kernel
theorem dX8_repeat_18 : decode cX8_repeat 18 = .ok (.bipush 24, 2) := by decide +kernel
theorem dX8_repeat_20 : decode cX8_repeat 20 = .ok (.invokestatic 40, 3) := by decide +kernel
theorem dX8_repeat_23 : decode cX8_repeat 23 = .ok (.ifCond .ne 6, 3) := by decide +kernel
theorem dX8_repeat_26 : decode cX8_repeat 26 = .ok (.bipush (-2), 2) := by decide +kernel
theorem dX8_repeat_28 : decode cX8_repeat 28 = .ok (.ireturn, 1) := by decide +kernel
theorem dX8_repeat_29 : decode cX8_repeat 29 = .ok (.iload_n 3, 1) := by decide +kernel
theorem dX8_repeat_30 : decode cX8_repeat 30 = .ok (.aload_n 0, 1) := by decide +kernel
theorem dX8_repeat_31 : decode cX8_repeat 31 = .ok (.iload_n 2, 1) := by decide +kernel
theorem dX8_repeat_32 : decode cX8_repeat 32 = .ok (.invokevirtual 59, 3) := by decide +kernel
theorem dX8_repeat_35 : decode cX8_repeat 35 = .ok (.imul, 1) := by decide +kernel
theorem dX8_repeat_36 : decode cX8_repeat 36 = .ok (.bipush 24, 2) := by decide +kernel
theorem dX8_repeat_38 : decode cX8_repeat 38 = .ok (.if_icmp .le 6, 3) := by decide +kernel
theorem dX8_repeat_41 : decode cX8_repeat 41 = .ok (.bipush (-4), 2) := by decide +kernel
theorem dX8_repeat_43 : decode cX8_repeat 43 = .ok (.ireturn, 1) := by decide +kernel
theorem dX8_repeat_44 : decode cX8_repeat 44 = .ok (.aload_n 0, 1) := by decide +kernel
theorem dX8_repeat_45 : decode cX8_repeat 45 = .ok (.iconst 0, 1) := by decide +kernel
theorem dX8_repeat_46 : decode cX8_repeat 46 = .ok (.putfield 96, 3) := by decide +kernel
theorem dX8_repeat_49 : decode cX8_repeat 49 = .ok (.iconst 0, 1) := by decide +kernel
theorem dX8_repeat_50 : decode cX8_repeat 50 = .ok (.istore 4, 2) := by decide +kernel
theorem dX8_repeat_52 : decode cX8_repeat 52 = .ok (.iload 4, 2) := by decide +kernel
theorem dX8_repeat_54 : decode cX8_repeat 54 = .ok (.iload_n 3, 1) := by decide +kernel
theorem dX8_repeat_55 : decode cX8_repeat 55 = .ok (.if_icmp .ge 14, 3) := by decide +kernel
theorem dX8_repeat_58 : decode cX8_repeat 58 = .ok (.aload_n 0, 1) := by decide +kernel
theorem dX8_repeat_59 : decode cX8_repeat 59 = .ok (.iload_n 2, 1) := by decide +kernel
theorem dX8_repeat_60 : decode cX8_repeat 60 = .ok (.invokevirtual 111, 3) := by decide +kernel
theorem dX8_repeat_63 : decode cX8_repeat 63 = .ok (.iinc 4 1, 3) := by decide +kernel
theorem dX8_repeat_66 : decode cX8_repeat 66 = .ok (.goto (-14), 3) := by decide +kernel
theorem dX8_repeat_69 : decode cX8_repeat 69 = .ok (.aload_n 0, 1) := by decide +kernel
theorem dX8_repeat_70 : decode cX8_repeat 70 = .ok (.iload_n 1, 1) := by decide +kernel
theorem dX8_repeat_71 : decode cX8_repeat 71 = .ok (.invokevirtual 108, 3) := by decide +kernel
theorem dX8_repeat_74 : decode cX8_repeat 74 = .ok (.ireturn, 1) := by decide +kernel
set_option maxRecDepth 20000 in
theorem ggX8_weave_X8_isDraft : GoodIn wsX8_weave wsX8_isDraft := goodIn_r _ [6, 7, 8, 5, 9] (by decide +kernel) (by decide +kernel)
set_option maxRecDepth 20000 in
theorem gX8_weave_X8_isDraft : GoodIn wsX8_weave (va_wsS RX8 99 yX8_isDraft wsX8_isDraft) := goodIn_app (goodIn_of _ (by decide +kernel)) ggX8_weave_X8_isDraft
set_option maxRecDepth 20000 in
theorem ggX8_weave_X8_within : GoodIn wsX8_weave wsX8_within := goodIn_r _ [9] (by decide +kernel) (by decide +kernel)
set_option maxRecDepth 20000 in
theorem gX8_weave_X8_within : GoodIn wsX8_weave (va_wsS RX8 40 yX8_within wsX8_within) := goodIn_app (goodIn_of _ (by decide +kernel)) ggX8_weave_X8_within
set_option maxRecDepth 20000 in
theorem ggX8_weave_X8_record : GoodIn wsX8_weave wsX8_record := goodIn_r _ [13, 14, 15, 1, 54, 55, 56, 57, 58, 59, 60, 61, 62, 63, 64, 65, 66, 67, 68] (by decide +kernel) (by decide +kernel)
set_option maxRecDepth 20000 in
theorem gX8_weave_X8_record : GoodIn wsX8_weave (wsV RX8 52 RX8 yX8_record wsX8_record) := goodIn_app (goodIn_of _ (by decide +kernel)) ggX8_weave_X8_record
set_option maxRecDepth 20000 in
theorem ggX8_weave_X8_lay : GoodIn wsX8_weave wsX8_lay := goodIn_r _ [19, 20, 21, 22, 23, 5, 24, 1, 25, 26, 27, 28, 29, 30, 31, 32, 33, 34, 35, 36, 54, 55, 56, 57, 58, 59, 60, 61, 62, 63, 64, 65, 66, 67, 68] (by decide +kernel) (by decide +kernel)
set_option maxRecDepth 20000 in
theorem gX8_weave_X8_lay : GoodIn wsX8_weave (wsV RX8 69 RX8 yX8_lay wsX8_lay) := goodIn_app (goodIn_of _ (by decide +kernel)) ggX8_weave_X8_lay
set_option maxRecDepth 20000 in
theorem ggX8_weave_X8_takeThreads : GoodIn wsX8_weave wsX8_takeThreads := goodIn_r _ [40, 2, 1, 54, 55, 56, 57, 58, 59, 60, 61, 62, 63, 64, 65, 66, 67, 68] (by decide +kernel) (by decide +kernel)
set_option maxRecDepth 20000 in
theorem gX8_weave_X8_takeThreads : GoodIn wsX8_weave (wsV RX8 79 RX8 yX8_takeThreads wsX8_takeThreads) := goodIn_app (goodIn_of _ (by decide +kernel)) ggX8_weave_X8_takeThreads
set_option maxRecDepth 20000 in
theorem ggX8_weave_X8_weaveOnce : GoodIn wsX8_weave wsX8_weaveOnce := goodIn_r _ [44, 45, 2, 46, 47, 48, 5, 49, 20, 54, 55, 56, 57, 58, 59, 60, 61, 62, 63, 64, 65, 66, 67, 68] (by decide +kernel) (by decide +kernel)
set_option maxRecDepth 20000 in
theorem gX8_weave_X8_weaveOnce : GoodIn wsX8_weave (wsV RX8 82 RX8 yX8_weaveOnce wsX8_weaveOnce) := goodIn_app (goodIn_of _ (by decide +kernel)) ggX8_weave_X8_weaveOnce
set_option maxRecDepth 20000 in
theorem ggX8_weave_X8_lengthOf : GoodIn wsX8_weave wsX8_lengthOf := goodIn_r _ [24, 1, 54, 55, 56, 57, 58, 59, 60, 61, 62, 63, 64, 65, 66, 67, 68] (by decide +kernel) (by decide +kernel)
set_option maxRecDepth 20000 in
theorem gX8_weave_X8_lengthOf : GoodIn wsX8_weave (wsV RX8 59 RX8 yX8_lengthOf wsX8_lengthOf) := goodIn_app (goodIn_of _ (by decide +kernel)) ggX8_weave_X8_lengthOf
set_option maxRecDepth 20000 in
theorem ggX8_weave_X8_atHome : GoodIn wsX8_weave wsX8_atHome := goodIn_r _ [53, 1, 54, 55, 56, 57, 58, 59, 60, 61, 62, 63, 64, 65, 66, 67, 68] (by decide +kernel) (by decide +kernel)
set_option maxRecDepth 20000 in
theorem gX8_weave_X8_atHome : GoodIn wsX8_weave (wsV RX8 48 RX8 yX8_atHome wsX8_atHome) := goodIn_app (goodIn_of _ (by decide +kernel)) ggX8_weave_X8_atHome
theorem dX8_weave_0 : decode cX8_weave 0 = .ok (.iload_n 1, 1) := by decide +kernel
theorem dX8_weave_1 : decode cX8_weave 1 = .ok (.invokestatic 99, 3) := by decide +kernel
theorem dX8_weave_4 : decode cX8_weave 4 = .ok (.ifCond .ne 5, 3) := by decide +kernel
theorem dX8_weave_7 : decode cX8_weave 7 = .ok (.iconst (-1), 1) := by decide +kernel
theorem dX8_weave_8 : decode cX8_weave 8 = .ok (.ireturn, 1) := by decide +kernel
theorem dX8_weave_9 : decode cX8_weave 9 = .ok (.iload_n 2, 1) := by decide +kernel
theorem dX8_weave_10 : decode cX8_weave 10 = .ok (.iconst 1, 1) := by decide +kernel
theorem dX8_weave_11 : decode cX8_weave 11 = .ok (.sipush 1000, 3) := by decide +kernel
theorem dX8_weave_14 : decode cX8_weave 14 = .ok (.invokestatic 40, 3) := by decide +kernel
theorem dX8_weave_17 : decode cX8_weave 17 = .ok (.ifCond .ne 6, 3) := by decide +kernel
theorem dX8_weave_20 : decode cX8_weave 20 = .ok (.bipush (-2), 2) := by decide +kernel
theorem dX8_weave_22 : decode cX8_weave 22 = .ok (.ireturn, 1) := by decide +kernel
theorem dX8_weave_23 : decode cX8_weave 23 = .ok (.aload_n 0, 1) := by decide +kernel
theorem dX8_weave_24 : decode cX8_weave 24 = .ok (.invokevirtual 52, 3) := by decide +kernel
theorem dX8_weave_27 : decode cX8_weave 27 = .ok (.aload_n 0, 1) := by decide +kernel
theorem dX8_weave_28 : decode cX8_weave 28 = .ok (.iload_n 1, 1) := by decide +kernel
theorem dX8_weave_29 : decode cX8_weave 29 = .ok (.invokevirtual 69, 3) := by decide +kernel
theorem dX8_weave_32 : decode cX8_weave 32 = .ok (.aload_n 0, 1) := by decide +kernel
theorem dX8_weave_33 : decode cX8_weave 33 = .ok (.invokevirtual 79, 3) := by decide +kernel
theorem dX8_weave_36 : decode cX8_weave 36 = .ok (.iconst 0, 1) := by decide +kernel
theorem dX8_weave_37 : decode cX8_weave 37 = .ok (.istore_n 3, 1) := by decide +kernel
theorem dX8_weave_38 : decode cX8_weave 38 = .ok (.iload_n 3, 1) := by decide +kernel
theorem dX8_weave_39 : decode cX8_weave 39 = .ok (.iload_n 2, 1) := by decide +kernel
theorem dX8_weave_40 : decode cX8_weave 40 = .ok (.if_icmp .ge 14, 3) := by decide +kernel
theorem dX8_weave_43 : decode cX8_weave 43 = .ok (.aload_n 0, 1) := by decide +kernel
theorem dX8_weave_44 : decode cX8_weave 44 = .ok (.iload_n 1, 1) := by decide +kernel
theorem dX8_weave_45 : decode cX8_weave 45 = .ok (.invokevirtual 82, 3) := by decide +kernel
theorem dX8_weave_48 : decode cX8_weave 48 = .ok (.iinc 3 1, 3) := by decide +kernel
theorem dX8_weave_51 : decode cX8_weave 51 = .ok (.goto (-13), 3) := by decide +kernel
theorem dX8_weave_54 : decode cX8_weave 54 = .ok (.iconst 0, 1) := by decide +kernel
theorem dX8_weave_55 : decode cX8_weave 55 = .ok (.istore_n 3, 1) := by decide +kernel
theorem dX8_weave_56 : decode cX8_weave 56 = .ok (.iload_n 3, 1) := by decide +kernel
theorem dX8_weave_57 : decode cX8_weave 57 = .ok (.bipush 12, 2) := by decide +kernel
theorem dX8_weave_59 : decode cX8_weave 59 = .ok (.if_icmp .ge 24, 3) := by decide +kernel
theorem dX8_weave_62 : decode cX8_weave 62 = .ok (.aload_n 0, 1) := by decide +kernel
theorem dX8_weave_63 : decode cX8_weave 63 = .ok (.getfield 7, 3) := by decide +kernel
theorem dX8_weave_66 : decode cX8_weave 66 = .ok (.bipush 18, 2) := by decide +kernel
theorem dX8_weave_68 : decode cX8_weave 68 = .ok (.iload_n 3, 1) := by decide +kernel
theorem dX8_weave_69 : decode cX8_weave 69 = .ok (.iadd, 1) := by decide +kernel
theorem dX8_weave_70 : decode cX8_weave 70 = .ok (.aload_n 0, 1) := by decide +kernel
theorem dX8_weave_71 : decode cX8_weave 71 = .ok (.getfield 31, 3) := by decide +kernel
theorem dX8_weave_74 : decode cX8_weave 74 = .ok (.iload_n 3, 1) := by decide +kernel
theorem dX8_weave_75 : decode cX8_weave 75 = .ok (.iaload, 1) := by decide +kernel
theorem dX8_weave_76 : decode cX8_weave 76 = .ok (.iastore, 1) := by decide +kernel
theorem dX8_weave_77 : decode cX8_weave 77 = .ok (.iinc 3 1, 3) := by decide +kernel
theorem dX8_weave_80 : decode cX8_weave 80 = .ok (.goto (-24), 3) := by decide +kernel
theorem dX8_weave_83 : decode cX8_weave 83 = .ok (.aload_n 0, 1) := by decide +kernel
theorem dX8_weave_84 : decode cX8_weave 84 = .ok (.getfield 7, 3) := by decide +kernel
theorem dX8_weave_87 : decode cX8_weave 87 = .ok (.sipush 192, 3) := by decide +kernel
theorem dX8_weave_90 : decode cX8_weave 90 = .ok (.dup2, 1) := by decide +kernel
theorem dX8_weave_91 : decode cX8_weave 91 = .ok (.iaload, 1) := by decide +kernel
theorem dX8_weave_92 : decode cX8_weave 92 = .ok (.iload_n 2, 1) := by decide +kernel
theorem dX8_weave_93 : decode cX8_weave 93 = .ok (.aload_n 0, 1) := by decide +kernel
theorem dX8_weave_94 : decode cX8_weave 94 = .ok (.iload_n 1, 1) := by decide +kernel
theorem dX8_weave_95 : decode cX8_weave 95 = .ok (.invokevirtual 59, 3) := by decide +kernel
theorem dX8_weave_98 : decode cX8_weave 98 = .ok (.imul, 1) := by decide +kernel
theorem dX8_weave_99 : decode cX8_weave 99 = .ok (.iadd, 1) := by decide +kernel
theorem dX8_weave_100 : decode cX8_weave 100 = .ok (.iastore, 1) := by decide +kernel
theorem dX8_weave_101 : decode cX8_weave 101 = .ok (.aload_n 0, 1) := by decide +kernel
theorem dX8_weave_102 : decode cX8_weave 102 = .ok (.getfield 7, 3) := by decide +kernel
theorem dX8_weave_105 : decode cX8_weave 105 = .ok (.sipush 193, 3) := by decide +kernel
theorem dX8_weave_108 : decode cX8_weave 108 = .ok (.dup2, 1) := by decide +kernel
theorem dX8_weave_109 : decode cX8_weave 109 = .ok (.iaload, 1) := by decide +kernel
theorem dX8_weave_110 : decode cX8_weave 110 = .ok (.iload_n 2, 1) := by decide +kernel
theorem dX8_weave_111 : decode cX8_weave 111 = .ok (.iadd, 1) := by decide +kernel
theorem dX8_weave_112 : decode cX8_weave 112 = .ok (.iastore, 1) := by decide +kernel
theorem dX8_weave_113 : decode cX8_weave 113 = .ok (.aload_n 0, 1) := by decide +kernel
theorem dX8_weave_114 : decode cX8_weave 114 = .ok (.invokevirtual 48, 3) := by decide +kernel
theorem dX8_weave_117 : decode cX8_weave 117 = .ok (.ireturn, 1) := by decide +kernel
set_option maxRecDepth 20000 in
theorem ggX8_dye_X8_isPlace : GoodIn wsX8_dye wsX8_isPlace := goodIn_r _ [5, 6, 7, 4, 8] (by decide +kernel) (by decide +kernel)
set_option maxRecDepth 20000 in
theorem gX8_dye_X8_isPlace : GoodIn wsX8_dye (va_wsS RX8 89 yX8_isPlace wsX8_isPlace) := goodIn_app (goodIn_of _ (by decide +kernel)) ggX8_dye_X8_isPlace
set_option maxRecDepth 20000 in
theorem ggX8_dye_X8_within : GoodIn wsX8_dye wsX8_within := goodIn_r _ [8] (by decide +kernel) (by decide +kernel)
set_option maxRecDepth 20000 in
theorem gX8_dye_X8_within : GoodIn wsX8_dye (va_wsS RX8 40 yX8_within wsX8_within) := goodIn_app (goodIn_of _ (by decide +kernel)) ggX8_dye_X8_within
set_option maxRecDepth 20000 in
theorem ggX8_dye_X8_record : GoodIn wsX8_dye wsX8_record := goodIn_r _ [12, 13, 14, 1, 15, 16, 17, 18, 19, 20, 21, 22, 23, 24, 25, 26, 27, 28, 29] (by decide +kernel) (by decide +kernel)
set_option maxRecDepth 20000 in
theorem gX8_dye_X8_record : GoodIn wsX8_dye (wsV RX8 52 RX8 yX8_record wsX8_record) := goodIn_app (goodIn_of _ (by decide +kernel)) ggX8_dye_X8_record
theorem dX8_dye_0 : decode cX8_dye 0 = .ok (.iload_n 1, 1) := by decide +kernel
theorem dX8_dye_1 : decode cX8_dye 1 = .ok (.invokestatic 89, 3) := by decide +kernel
theorem dX8_dye_4 : decode cX8_dye 4 = .ok (.ifCond .ne 5, 3) := by decide +kernel
theorem dX8_dye_7 : decode cX8_dye 7 = .ok (.iconst (-1), 1) := by decide +kernel
theorem dX8_dye_8 : decode cX8_dye 8 = .ok (.ireturn, 1) := by decide +kernel
theorem dX8_dye_9 : decode cX8_dye 9 = .ok (.iload_n 2, 1) := by decide +kernel
theorem dX8_dye_10 : decode cX8_dye 10 = .ok (.iconst 0, 1) := by decide +kernel
theorem dX8_dye_11 : decode cX8_dye 11 = .ok (.iconst 3, 1) := by decide +kernel
theorem dX8_dye_12 : decode cX8_dye 12 = .ok (.invokestatic 40, 3) := by decide +kernel
theorem dX8_dye_15 : decode cX8_dye 15 = .ok (.ifCond .ne 6, 3) := by decide +kernel
theorem dX8_dye_18 : decode cX8_dye 18 = .ok (.bipush (-2), 2) := by decide +kernel
theorem dX8_dye_20 : decode cX8_dye 20 = .ok (.ireturn, 1) := by decide +kernel
theorem dX8_dye_21 : decode cX8_dye 21 = .ok (.aload_n 0, 1) := by decide +kernel
theorem dX8_dye_22 : decode cX8_dye 22 = .ok (.invokevirtual 52, 3) := by decide +kernel
theorem dX8_dye_25 : decode cX8_dye 25 = .ok (.aload_n 0, 1) := by decide +kernel
theorem dX8_dye_26 : decode cX8_dye 26 = .ok (.getfield 7, 3) := by decide +kernel
theorem dX8_dye_29 : decode cX8_dye 29 = .ok (.bipush 30, 2) := by decide +kernel
theorem dX8_dye_31 : decode cX8_dye 31 = .ok (.iload_n 1, 1) := by decide +kernel
theorem dX8_dye_32 : decode cX8_dye 32 = .ok (.iadd, 1) := by decide +kernel
theorem dX8_dye_33 : decode cX8_dye 33 = .ok (.iaload, 1) := by decide +kernel
theorem dX8_dye_34 : decode cX8_dye 34 = .ok (.istore_n 3, 1) := by decide +kernel
theorem dX8_dye_35 : decode cX8_dye 35 = .ok (.aload_n 0, 1) := by decide +kernel
theorem dX8_dye_36 : decode cX8_dye 36 = .ok (.getfield 7, 3) := by decide +kernel
theorem dX8_dye_39 : decode cX8_dye 39 = .ok (.bipush 30, 2) := by decide +kernel
theorem dX8_dye_41 : decode cX8_dye 41 = .ok (.iload_n 1, 1) := by decide +kernel
theorem dX8_dye_42 : decode cX8_dye 42 = .ok (.iadd, 1) := by decide +kernel
theorem dX8_dye_43 : decode cX8_dye 43 = .ok (.iload_n 2, 1) := by decide +kernel
theorem dX8_dye_44 : decode cX8_dye 44 = .ok (.iastore, 1) := by decide +kernel
theorem dX8_dye_45 : decode cX8_dye 45 = .ok (.iload_n 3, 1) := by decide +kernel
theorem dX8_dye_46 : decode cX8_dye 46 = .ok (.ireturn, 1) := by decide +kernel
set_option maxRecDepth 20000 in
theorem ggX8_raising_X8_raised : GoodIn wsX8_raising wsX8_raised := goodIn_r _ [5, 6, 7, 8, 9, 10, 11, 12, 13, 14, 15, 16, 17, 18, 19, 20, 21] (by decide +kernel) (by decide +kernel)
set_option maxRecDepth 20000 in
theorem gX8_raising_X8_raised : GoodIn wsX8_raising (wsV RX8 55 RX8 yX8_raised wsX8_raised) := goodIn_app (goodIn_of _ (by decide +kernel)) ggX8_raising_X8_raised
theorem dX8_raising_0 : decode cX8_raising 0 = .ok (.iconst 0, 1) := by decide +kernel
theorem dX8_raising_1 : decode cX8_raising 1 = .ok (.istore_n 2, 1) := by decide +kernel
theorem dX8_raising_2 : decode cX8_raising 2 = .ok (.iconst 0, 1) := by decide +kernel
theorem dX8_raising_3 : decode cX8_raising 3 = .ok (.istore_n 3, 1) := by decide +kernel
theorem dX8_raising_4 : decode cX8_raising 4 = .ok (.iload_n 3, 1) := by decide +kernel
theorem dX8_raising_5 : decode cX8_raising 5 = .ok (.bipush 6, 2) := by decide +kernel
theorem dX8_raising_7 : decode cX8_raising 7 = .ok (.if_icmp .ge 32, 3) := by decide +kernel
theorem dX8_raising_10 : decode cX8_raising 10 = .ok (.iload_n 2, 1) := by decide +kernel
theorem dX8_raising_11 : decode cX8_raising 11 = .ok (.aload_n 0, 1) := by decide +kernel
theorem dX8_raising_12 : decode cX8_raising 12 = .ok (.iload_n 3, 1) := by decide +kernel
theorem dX8_raising_13 : decode cX8_raising 13 = .ok (.invokevirtual 55, 3) := by decide +kernel
theorem dX8_raising_16 : decode cX8_raising 16 = .ok (.iload_n 1, 1) := by decide +kernel
theorem dX8_raising_17 : decode cX8_raising 17 = .ok (.ishr, 1) := by decide +kernel
theorem dX8_raising_18 : decode cX8_raising 18 = .ok (.iconst 1, 1) := by decide +kernel
theorem dX8_raising_19 : decode cX8_raising 19 = .ok (.iand, 1) := by decide +kernel
theorem dX8_raising_20 : decode cX8_raising 20 = .ok (.iconst 1, 1) := by decide +kernel
theorem dX8_raising_21 : decode cX8_raising 21 = .ok (.if_icmp .ne 9, 3) := by decide +kernel
theorem dX8_raising_24 : decode cX8_raising 24 = .ok (.iconst 1, 1) := by decide +kernel
theorem dX8_raising_25 : decode cX8_raising 25 = .ok (.iload_n 3, 1) := by decide +kernel
theorem dX8_raising_26 : decode cX8_raising 26 = .ok (.ishl, 1) := by decide +kernel
theorem dX8_raising_27 : decode cX8_raising 27 = .ok (.goto 4, 3) := by decide +kernel
theorem dX8_raising_30 : decode cX8_raising 30 = .ok (.iconst 0, 1) := by decide +kernel
theorem dX8_raising_31 : decode cX8_raising 31 = .ok (.ior, 1) := by decide +kernel
theorem dX8_raising_32 : decode cX8_raising 32 = .ok (.istore_n 2, 1) := by decide +kernel
theorem dX8_raising_33 : decode cX8_raising 33 = .ok (.iinc 3 1, 3) := by decide +kernel
theorem dX8_raising_36 : decode cX8_raising 36 = .ok (.goto (-32), 3) := by decide +kernel
theorem dX8_raising_39 : decode cX8_raising 39 = .ok (.iload_n 2, 1) := by decide +kernel
theorem dX8_raising_40 : decode cX8_raising 40 = .ok (.ireturn, 1) := by decide +kernel
set_option maxRecDepth 20000 in
theorem ggX8_place_X8_isPlace : GoodIn wsX8_place wsX8_isPlace := goodIn_r _ [5, 6, 7, 4, 8] (by decide +kernel) (by decide +kernel)
set_option maxRecDepth 20000 in
theorem gX8_place_X8_isPlace : GoodIn wsX8_place (va_wsS RX8 89 yX8_isPlace wsX8_isPlace) := goodIn_app (goodIn_of _ (by decide +kernel)) ggX8_place_X8_isPlace
set_option maxRecDepth 20000 in
theorem ggX8_place_X8_raising : GoodIn wsX8_place wsX8_raising := goodIn_r _ [12, 13, 14, 15, 4, 16, 1, 17, 18, 19, 20, 21, 22, 23, 24, 25, 26, 27, 28, 29, 30, 31] (by decide +kernel) (by decide +kernel)
set_option maxRecDepth 20000 in
theorem gX8_place_X8_raising : GoodIn wsX8_place (wsV RX8 114 RX8 yX8_raising wsX8_raising) := goodIn_app (goodIn_of _ (by decide +kernel)) ggX8_place_X8_raising
theorem dX8_place_0 : decode cX8_place 0 = .ok (.iload_n 1, 1) := by decide +kernel
theorem dX8_place_1 : decode cX8_place 1 = .ok (.invokestatic 89, 3) := by decide +kernel
theorem dX8_place_4 : decode cX8_place 4 = .ok (.ifCond .ne 5, 3) := by decide +kernel
theorem dX8_place_7 : decode cX8_place 7 = .ok (.iconst (-1), 1) := by decide +kernel
theorem dX8_place_8 : decode cX8_place 8 = .ok (.ireturn, 1) := by decide +kernel
theorem dX8_place_9 : decode cX8_place 9 = .ok (.aload_n 0, 1) := by decide +kernel
theorem dX8_place_10 : decode cX8_place 10 = .ok (.getfield 7, 3) := by decide +kernel
theorem dX8_place_13 : decode cX8_place 13 = .ok (.bipush 18, 2) := by decide +kernel
theorem dX8_place_15 : decode cX8_place 15 = .ok (.iload_n 1, 1) := by decide +kernel
theorem dX8_place_16 : decode cX8_place 16 = .ok (.iadd, 1) := by decide +kernel
theorem dX8_place_17 : decode cX8_place 17 = .ok (.iaload, 1) := by decide +kernel
theorem dX8_place_18 : decode cX8_place 18 = .ok (.istore_n 3, 1) := by decide +kernel
theorem dX8_place_19 : decode cX8_place 19 = .ok (.iload_n 2, 1) := by decide +kernel
theorem dX8_place_20 : decode cX8_place 20 = .ok (.tableswitch 59 0 3 #[32, 41, 43, 53], 32) := by decide +kernel
theorem dX8_place_52 : decode cX8_place 52 = .ok (.aload_n 0, 1) := by decide +kernel
theorem dX8_place_53 : decode cX8_place 53 = .ok (.getfield 7, 3) := by decide +kernel
theorem dX8_place_56 : decode cX8_place 56 = .ok (.iconst 0, 1) := by decide +kernel
theorem dX8_place_57 : decode cX8_place 57 = .ok (.iload_n 1, 1) := by decide +kernel
theorem dX8_place_58 : decode cX8_place 58 = .ok (.iadd, 1) := by decide +kernel
theorem dX8_place_59 : decode cX8_place 59 = .ok (.iaload, 1) := by decide +kernel
theorem dX8_place_60 : decode cX8_place 60 = .ok (.ireturn, 1) := by decide +kernel
theorem dX8_place_61 : decode cX8_place 61 = .ok (.iload_n 3, 1) := by decide +kernel
theorem dX8_place_62 : decode cX8_place 62 = .ok (.ireturn, 1) := by decide +kernel
theorem dX8_place_63 : decode cX8_place 63 = .ok (.aload_n 0, 1) := by decide +kernel
theorem dX8_place_64 : decode cX8_place 64 = .ok (.getfield 7, 3) := by decide +kernel
theorem dX8_place_67 : decode cX8_place 67 = .ok (.bipush 30, 2) := by decide +kernel
theorem dX8_place_69 : decode cX8_place 69 = .ok (.iload_n 3, 1) := by decide +kernel
theorem dX8_place_70 : decode cX8_place 70 = .ok (.iadd, 1) := by decide +kernel
theorem dX8_place_71 : decode cX8_place 71 = .ok (.iaload, 1) := by decide +kernel
theorem dX8_place_72 : decode cX8_place 72 = .ok (.ireturn, 1) := by decide +kernel
theorem dX8_place_73 : decode cX8_place 73 = .ok (.aload_n 0, 1) := by decide +kernel
theorem dX8_place_74 : decode cX8_place 74 = .ok (.iload_n 1, 1) := by decide +kernel
theorem dX8_place_75 : decode cX8_place 75 = .ok (.invokevirtual 114, 3) := by decide +kernel
theorem dX8_place_78 : decode cX8_place 78 = .ok (.ireturn, 1) := by decide +kernel
theorem dX8_place_79 : decode cX8_place 79 = .ok (.bipush (-2), 2) := by decide +kernel
theorem dX8_place_81 : decode cX8_place 81 = .ok (.ireturn, 1) := by decide +kernel
set_option maxRecDepth 20000 in
theorem ggX8_treadle_X8_within : GoodIn wsX8_treadle wsX8_within := goodIn_r _ [5] (by decide +kernel) (by decide +kernel)
set_option maxRecDepth 20000 in
theorem gX8_treadle_X8_within : GoodIn wsX8_treadle (va_wsS RX8 40 yX8_within wsX8_within) := goodIn_app (goodIn_of _ (by decide +kernel)) ggX8_treadle_X8_within
set_option maxRecDepth 20000 in
theorem ggX8_treadle_X8_raised : GoodIn wsX8_treadle wsX8_raised := goodIn_r _ [9, 1, 10, 11, 12, 13, 14, 15, 16, 17, 18, 19, 20, 21, 22, 23, 24] (by decide +kernel) (by decide +kernel)
set_option maxRecDepth 20000 in
theorem gX8_treadle_X8_raised : GoodIn wsX8_treadle (wsV RX8 55 RX8 yX8_raised wsX8_raised) := goodIn_app (goodIn_of _ (by decide +kernel)) ggX8_treadle_X8_raised
theorem dX8_treadle_0 : decode cX8_treadle 0 = .ok (.iload_n 1, 1) := by decide +kernel
theorem dX8_treadle_1 : decode cX8_treadle 1 = .ok (.iconst 0, 1) := by decide +kernel
theorem dX8_treadle_2 : decode cX8_treadle 2 = .ok (.iconst 5, 1) := by decide +kernel
theorem dX8_treadle_3 : decode cX8_treadle 3 = .ok (.invokestatic 40, 3) := by decide +kernel
theorem dX8_treadle_6 : decode cX8_treadle 6 = .ok (.ifCond .ne 5, 3) := by decide +kernel
theorem dX8_treadle_9 : decode cX8_treadle 9 = .ok (.iconst (-1), 1) := by decide +kernel
theorem dX8_treadle_10 : decode cX8_treadle 10 = .ok (.ireturn, 1) := by decide +kernel
theorem dX8_treadle_11 : decode cX8_treadle 11 = .ok (.iload_n 2, 1) := by decide +kernel
theorem dX8_treadle_12 : decode cX8_treadle 12 = .ok (.iconst 0, 1) := by decide +kernel
theorem dX8_treadle_13 : decode cX8_treadle 13 = .ok (.iconst 1, 1) := by decide +kernel
theorem dX8_treadle_14 : decode cX8_treadle 14 = .ok (.invokestatic 40, 3) := by decide +kernel
theorem dX8_treadle_17 : decode cX8_treadle 17 = .ok (.ifCond .ne 6, 3) := by decide +kernel
theorem dX8_treadle_20 : decode cX8_treadle 20 = .ok (.bipush (-2), 2) := by decide +kernel
theorem dX8_treadle_22 : decode cX8_treadle 22 = .ok (.ireturn, 1) := by decide +kernel
theorem dX8_treadle_23 : decode cX8_treadle 23 = .ok (.iload_n 2, 1) := by decide +kernel
theorem dX8_treadle_24 : decode cX8_treadle 24 = .ok (.ifCond .ne 15, 3) := by decide +kernel
theorem dX8_treadle_27 : decode cX8_treadle 27 = .ok (.aload_n 0, 1) := by decide +kernel
theorem dX8_treadle_28 : decode cX8_treadle 28 = .ok (.getfield 7, 3) := by decide +kernel
theorem dX8_treadle_31 : decode cX8_treadle 31 = .ok (.bipush 12, 2) := by decide +kernel
theorem dX8_treadle_33 : decode cX8_treadle 33 = .ok (.iload_n 1, 1) := by decide +kernel
theorem dX8_treadle_34 : decode cX8_treadle 34 = .ok (.iadd, 1) := by decide +kernel
theorem dX8_treadle_35 : decode cX8_treadle 35 = .ok (.iaload, 1) := by decide +kernel
theorem dX8_treadle_36 : decode cX8_treadle 36 = .ok (.goto 8, 3) := by decide +kernel
theorem dX8_treadle_39 : decode cX8_treadle 39 = .ok (.aload_n 0, 1) := by decide +kernel
theorem dX8_treadle_40 : decode cX8_treadle 40 = .ok (.iload_n 1, 1) := by decide +kernel
theorem dX8_treadle_41 : decode cX8_treadle 41 = .ok (.invokevirtual 55, 3) := by decide +kernel
theorem dX8_treadle_44 : decode cX8_treadle 44 = .ok (.ireturn, 1) := by decide +kernel
set_option maxRecDepth 20000 in
theorem ggX8_draft_X8_isDraft : GoodIn wsX8_draft wsX8_isDraft := goodIn_r _ [4, 5, 6, 3, 7] (by decide +kernel) (by decide +kernel)
set_option maxRecDepth 20000 in
theorem gX8_draft_X8_isDraft : GoodIn wsX8_draft (va_wsS RX8 99 yX8_isDraft wsX8_isDraft) := goodIn_app (goodIn_of _ (by decide +kernel)) ggX8_draft_X8_isDraft
set_option maxRecDepth 20000 in
theorem ggX8_draft_X8_lay : GoodIn wsX8_draft wsX8_lay := goodIn_r _ [11, 12, 13, 14, 15, 3, 16, 17, 18, 19, 20, 21, 22, 23, 24, 25, 26, 27, 28, 29, 76, 77, 78, 79, 80, 81, 82, 83, 84, 85, 86, 87, 88, 89, 90] (by decide +kernel) (by decide +kernel)
set_option maxRecDepth 20000 in
theorem gX8_draft_X8_lay : GoodIn wsX8_draft (wsV RX8 69 RX8 yX8_lay wsX8_lay) := goodIn_app (goodIn_of _ (by decide +kernel)) ggX8_draft_X8_lay
set_option maxRecDepth 20000 in
theorem ggX8_draft_X8_lengthOf : GoodIn wsX8_draft wsX8_lengthOf := goodIn_r _ [16, 17, 76, 77, 78, 79, 80, 81, 82, 83, 84, 85, 86, 87, 88, 89, 90] (by decide +kernel) (by decide +kernel)
set_option maxRecDepth 20000 in
theorem gX8_draft_X8_lengthOf : GoodIn wsX8_draft (wsV RX8 59 RX8 yX8_lengthOf wsX8_lengthOf) := goodIn_app (goodIn_of _ (by decide +kernel)) ggX8_draft_X8_lengthOf
set_option maxRecDepth 20000 in
theorem ggX8_draft_X8_orderOf : GoodIn wsX8_draft wsX8_orderOf := goodIn_r _ [33, 34, 35, 36, 3, 37, 38, 39, 40, 41, 12, 76, 77, 78, 79, 80, 81, 82, 83, 84, 85, 86, 87, 88, 89, 90] (by decide +kernel) (by decide +kernel)
set_option maxRecDepth 20000 in
theorem gX8_draft_X8_orderOf : GoodIn wsX8_draft (wsV RX8 117 RX8 yX8_orderOf wsX8_orderOf) := goodIn_app (goodIn_of _ (by decide +kernel)) ggX8_draft_X8_orderOf
set_option maxRecDepth 20000 in
theorem ggX8_draft_X8_stays : GoodIn wsX8_draft wsX8_stays := goodIn_r _ [45, 38, 39, 40, 3, 41, 12, 76, 77, 78, 79, 80, 81, 82, 83, 84, 85, 86, 87, 88, 89, 90] (by decide +kernel) (by decide +kernel)
set_option maxRecDepth 20000 in
theorem gX8_draft_X8_stays : GoodIn wsX8_draft (wsV RX8 120 RX8 yX8_stays wsX8_stays) := goodIn_app (goodIn_of _ (by decide +kernel)) ggX8_draft_X8_stays
set_option maxRecDepth 20000 in
theorem ggX8_draft_X8_cycles : GoodIn wsX8_draft wsX8_cycles := goodIn_r _ [49, 34, 35, 36, 3, 37, 38, 39, 40, 41, 12, 76, 77, 78, 79, 80, 81, 82, 83, 84, 85, 86, 87, 88, 89, 90] (by decide +kernel) (by decide +kernel)
set_option maxRecDepth 20000 in
theorem gX8_draft_X8_cycles : GoodIn wsX8_draft (wsV RX8 123 RX8 yX8_cycles wsX8_cycles) := goodIn_app (goodIn_of _ (by decide +kernel)) ggX8_draft_X8_cycles
set_option maxRecDepth 20000 in
theorem ggX8_draft_X8_longest : GoodIn wsX8_draft wsX8_longest := goodIn_r _ [53, 34, 35, 36, 3, 37, 38, 39, 40, 41, 12, 76, 77, 78, 79, 80, 81, 82, 83, 84, 85, 86, 87, 88, 89, 90] (by decide +kernel) (by decide +kernel)
set_option maxRecDepth 20000 in
theorem gX8_draft_X8_longest : GoodIn wsX8_draft (wsV RX8 126 RX8 yX8_longest wsX8_longest) := goodIn_app (goodIn_of _ (by decide +kernel)) ggX8_draft_X8_longest
set_option maxRecDepth 20000 in
theorem ggX8_draft_X8_turnedPairs : GoodIn wsX8_draft wsX8_turnedPairs := goodIn_r _ [57, 38, 39, 40, 3, 41, 12, 76, 77, 78, 79, 80, 81, 82, 83, 84, 85, 86, 87, 88, 89, 90] (by decide +kernel) (by decide +kernel)
set_option maxRecDepth 20000 in
theorem gX8_draft_X8_turnedPairs : GoodIn wsX8_draft (wsV RX8 129 RX8 yX8_turnedPairs wsX8_turnedPairs) := goodIn_app (goodIn_of _ (by decide +kernel)) ggX8_draft_X8_turnedPairs
set_option maxRecDepth 20000 in
theorem ggX8_draft_X8_repeats : GoodIn wsX8_draft wsX8_repeats := goodIn_r _ [61, 62, 63, 64, 3, 65, 66, 17, 67, 68, 69, 70, 71, 38, 39, 40, 41, 12, 72, 73, 74, 75, 76, 77, 78, 79, 80, 81, 82, 83, 84, 85, 86, 87, 88, 89, 90] (by decide +kernel) (by decide +kernel)
set_option maxRecDepth 20000 in
theorem gX8_draft_X8_repeats : GoodIn wsX8_draft (wsV RX8 132 RX8 yX8_repeats wsX8_repeats) := goodIn_app (goodIn_of _ (by decide +kernel)) ggX8_draft_X8_repeats
theorem dX8_draft_0 : decode cX8_draft 0 = .ok (.iload_n 1, 1) := by decide +kernel
theorem dX8_draft_1 : decode cX8_draft 1 = .ok (.invokestatic 99, 3) := by decide +kernel
theorem dX8_draft_4 : decode cX8_draft 4 = .ok (.ifCond .ne 5, 3) := by decide +kernel
theorem dX8_draft_7 : decode cX8_draft 7 = .ok (.iconst (-1), 1) := by decide +kernel
theorem dX8_draft_8 : decode cX8_draft 8 = .ok (.ireturn, 1) := by decide +kernel
theorem dX8_draft_9 : decode cX8_draft 9 = .ok (.aload_n 0, 1) := by decide +kernel
theorem dX8_draft_10 : decode cX8_draft 10 = .ok (.iload_n 1, 1) := by decide +kernel
theorem dX8_draft_11 : decode cX8_draft 11 = .ok (.invokevirtual 69, 3) := by decide +kernel
theorem dX8_draft_14 : decode cX8_draft 14 = .ok (.iload_n 2, 1) := by decide +kernel
theorem dX8_draft_15 : decode cX8_draft 15 = .ok (.tableswitch 83 0 6 #[41, 47, 53, 59, 65, 71, 77], 41) := by decide +kernel
theorem dX8_draft_56 : decode cX8_draft 56 = .ok (.aload_n 0, 1) := by decide +kernel
theorem dX8_draft_57 : decode cX8_draft 57 = .ok (.iload_n 1, 1) := by decide +kernel
theorem dX8_draft_58 : decode cX8_draft 58 = .ok (.invokevirtual 59, 3) := by decide +kernel
theorem dX8_draft_61 : decode cX8_draft 61 = .ok (.ireturn, 1) := by decide +kernel
theorem dX8_draft_62 : decode cX8_draft 62 = .ok (.aload_n 0, 1) := by decide +kernel
theorem dX8_draft_63 : decode cX8_draft 63 = .ok (.iload_n 1, 1) := by decide +kernel
theorem dX8_draft_64 : decode cX8_draft 64 = .ok (.invokevirtual 117, 3) := by decide +kernel
theorem dX8_draft_67 : decode cX8_draft 67 = .ok (.ireturn, 1) := by decide +kernel
theorem dX8_draft_68 : decode cX8_draft 68 = .ok (.aload_n 0, 1) := by decide +kernel
theorem dX8_draft_69 : decode cX8_draft 69 = .ok (.iload_n 1, 1) := by decide +kernel
theorem dX8_draft_70 : decode cX8_draft 70 = .ok (.invokevirtual 120, 3) := by decide +kernel
theorem dX8_draft_73 : decode cX8_draft 73 = .ok (.ireturn, 1) := by decide +kernel
theorem dX8_draft_74 : decode cX8_draft 74 = .ok (.aload_n 0, 1) := by decide +kernel
theorem dX8_draft_75 : decode cX8_draft 75 = .ok (.iload_n 1, 1) := by decide +kernel
theorem dX8_draft_76 : decode cX8_draft 76 = .ok (.invokevirtual 123, 3) := by decide +kernel
theorem dX8_draft_79 : decode cX8_draft 79 = .ok (.ireturn, 1) := by decide +kernel
theorem dX8_draft_80 : decode cX8_draft 80 = .ok (.aload_n 0, 1) := by decide +kernel
theorem dX8_draft_81 : decode cX8_draft 81 = .ok (.iload_n 1, 1) := by decide +kernel
theorem dX8_draft_82 : decode cX8_draft 82 = .ok (.invokevirtual 126, 3) := by decide +kernel
theorem dX8_draft_85 : decode cX8_draft 85 = .ok (.ireturn, 1) := by decide +kernel
theorem dX8_draft_86 : decode cX8_draft 86 = .ok (.aload_n 0, 1) := by decide +kernel
theorem dX8_draft_87 : decode cX8_draft 87 = .ok (.iload_n 1, 1) := by decide +kernel
theorem dX8_draft_88 : decode cX8_draft 88 = .ok (.invokevirtual 129, 3) := by decide +kernel
theorem dX8_draft_91 : decode cX8_draft 91 = .ok (.ireturn, 1) := by decide +kernel
theorem dX8_draft_92 : decode cX8_draft 92 = .ok (.aload_n 0, 1) := by decide +kernel
theorem dX8_draft_93 : decode cX8_draft 93 = .ok (.iload_n 1, 1) := by decide +kernel
theorem dX8_draft_94 : decode cX8_draft 94 = .ok (.invokevirtual 132, 3) := by decide +kernel
theorem dX8_draft_97 : decode cX8_draft 97 = .ok (.ireturn, 1) := by decide +kernel
theorem dX8_draft_98 : decode cX8_draft 98 = .ok (.bipush (-2), 2) := by decide +kernel
theorem dX8_draft_100 : decode cX8_draft 100 = .ok (.ireturn, 1) := by decide +kernel
set_option maxRecDepth 20000 in
theorem ggX8_press_X8_isDraft : GoodIn wsX8_press wsX8_isDraft := goodIn_r _ [4, 5, 6, 3, 7] (by decide +kernel) (by decide +kernel)
set_option maxRecDepth 20000 in
theorem gX8_press_X8_isDraft : GoodIn wsX8_press (va_wsS RX8 99 yX8_isDraft wsX8_isDraft) := goodIn_app (goodIn_of _ (by decide +kernel)) ggX8_press_X8_isDraft
set_option maxRecDepth 20000 in
theorem ggX8_press_X8_lengthOf : GoodIn wsX8_press wsX8_lengthOf := goodIn_r _ [11, 12, 17, 18, 19, 20, 21, 22, 23, 24, 25, 26, 27, 28, 29, 30, 31] (by decide +kernel) (by decide +kernel)
set_option maxRecDepth 20000 in
theorem gX8_press_X8_lengthOf : GoodIn wsX8_press (wsV RX8 59 RX8 yX8_lengthOf wsX8_lengthOf) := goodIn_app (goodIn_of _ (by decide +kernel)) ggX8_press_X8_lengthOf
set_option maxRecDepth 20000 in
theorem ggX8_press_X8_within : GoodIn wsX8_press wsX8_within := goodIn_r _ [7] (by decide +kernel) (by decide +kernel)
set_option maxRecDepth 20000 in
theorem gX8_press_X8_within : GoodIn wsX8_press (va_wsS RX8 40 yX8_within wsX8_within) := goodIn_app (goodIn_of _ (by decide +kernel)) ggX8_press_X8_within
set_option maxRecDepth 20000 in
theorem ggX8_press_X8_pressOf : GoodIn wsX8_press wsX8_pressOf := goodIn_r _ [16, 12, 17, 18, 19, 20, 21, 22, 23, 24, 25, 26, 27, 28, 29, 30, 31] (by decide +kernel) (by decide +kernel)
set_option maxRecDepth 20000 in
theorem gX8_press_X8_pressOf : GoodIn wsX8_press (wsV RX8 62 RX8 yX8_pressOf wsX8_pressOf) := goodIn_app (goodIn_of _ (by decide +kernel)) ggX8_press_X8_pressOf
theorem dX8_press_0 : decode cX8_press 0 = .ok (.iload_n 1, 1) := by decide +kernel
theorem dX8_press_1 : decode cX8_press 1 = .ok (.invokestatic 99, 3) := by decide +kernel
theorem dX8_press_4 : decode cX8_press 4 = .ok (.ifCond .eq 18, 3) := by decide +kernel
theorem dX8_press_7 : decode cX8_press 7 = .ok (.iload_n 2, 1) := by decide +kernel
theorem dX8_press_8 : decode cX8_press 8 = .ok (.iconst 0, 1) := by decide +kernel
theorem dX8_press_9 : decode cX8_press 9 = .ok (.aload_n 0, 1) := by decide +kernel
theorem dX8_press_10 : decode cX8_press 10 = .ok (.iload_n 1, 1) := by decide +kernel
theorem dX8_press_11 : decode cX8_press 11 = .ok (.invokevirtual 59, 3) := by decide +kernel
theorem dX8_press_14 : decode cX8_press 14 = .ok (.iconst 1, 1) := by decide +kernel
theorem dX8_press_15 : decode cX8_press 15 = .ok (.isub, 1) := by decide +kernel
theorem dX8_press_16 : decode cX8_press 16 = .ok (.invokestatic 40, 3) := by decide +kernel
theorem dX8_press_19 : decode cX8_press 19 = .ok (.ifCond .ne 5, 3) := by decide +kernel
theorem dX8_press_22 : decode cX8_press 22 = .ok (.iconst (-1), 1) := by decide +kernel
theorem dX8_press_23 : decode cX8_press 23 = .ok (.ireturn, 1) := by decide +kernel
theorem dX8_press_24 : decode cX8_press 24 = .ok (.aload_n 0, 1) := by decide +kernel
theorem dX8_press_25 : decode cX8_press 25 = .ok (.iload_n 1, 1) := by decide +kernel
theorem dX8_press_26 : decode cX8_press 26 = .ok (.iload_n 2, 1) := by decide +kernel
theorem dX8_press_27 : decode cX8_press 27 = .ok (.invokevirtual 62, 3) := by decide +kernel
theorem dX8_press_30 : decode cX8_press 30 = .ok (.ireturn, 1) := by decide +kernel
set_option maxRecDepth 20000 in
theorem ggX8_comesTo_X8_isDraft : GoodIn wsX8_comesTo wsX8_isDraft := goodIn_r _ [5, 6, 7, 4, 8] (by decide +kernel) (by decide +kernel)
set_option maxRecDepth 20000 in
theorem gX8_comesTo_X8_isDraft : GoodIn wsX8_comesTo (va_wsS RX8 99 yX8_isDraft wsX8_isDraft) := goodIn_app (goodIn_of _ (by decide +kernel)) ggX8_comesTo_X8_isDraft
set_option maxRecDepth 20000 in
theorem ggX8_comesTo_X8_isPlace : GoodIn wsX8_comesTo wsX8_isPlace := goodIn_r _ [11, 6, 7, 4, 8] (by decide +kernel) (by decide +kernel)
set_option maxRecDepth 20000 in
theorem gX8_comesTo_X8_isPlace : GoodIn wsX8_comesTo (va_wsS RX8 89 yX8_isPlace wsX8_isPlace) := goodIn_app (goodIn_of _ (by decide +kernel)) ggX8_comesTo_X8_isPlace
set_option maxRecDepth 20000 in
theorem ggX8_comesTo_X8_within : GoodIn wsX8_comesTo wsX8_within := goodIn_r _ [8] (by decide +kernel) (by decide +kernel)
set_option maxRecDepth 20000 in
theorem gX8_comesTo_X8_within : GoodIn wsX8_comesTo (va_wsS RX8 40 yX8_within wsX8_within) := goodIn_app (goodIn_of _ (by decide +kernel)) ggX8_comesTo_X8_within
set_option maxRecDepth 20000 in
theorem ggX8_comesTo_X8_lay : GoodIn wsX8_comesTo wsX8_lay := goodIn_r _ [15, 16, 17, 18, 19, 4, 20, 21, 22, 23, 24, 25, 26, 27, 28, 29, 30, 31, 32, 33, 42, 43, 44, 45, 46, 47, 48, 49, 50, 51, 52, 53, 54, 55, 56] (by decide +kernel) (by decide +kernel)
set_option maxRecDepth 20000 in
theorem gX8_comesTo_X8_lay : GoodIn wsX8_comesTo (wsV RX8 69 RX8 yX8_lay wsX8_lay) := goodIn_app (goodIn_of _ (by decide +kernel)) ggX8_comesTo_X8_lay
set_option maxRecDepth 20000 in
theorem ggX8_comesTo_X8_cycleOf : GoodIn wsX8_comesTo wsX8_cycleOf := goodIn_r _ [37, 38, 39, 40, 4, 41, 16, 42, 43, 44, 45, 46, 47, 48, 49, 50, 51, 52, 53, 54, 55, 56] (by decide +kernel) (by decide +kernel)
set_option maxRecDepth 20000 in
theorem gX8_comesTo_X8_cycleOf : GoodIn wsX8_comesTo (wsV RX8 76 RX8 yX8_cycleOf wsX8_cycleOf) := goodIn_app (goodIn_of _ (by decide +kernel)) ggX8_comesTo_X8_cycleOf
set_option maxRecDepth 20000 in
theorem ggX8_comesTo_X8_comesBy : GoodIn wsX8_comesTo wsX8_comesBy := goodIn_r _ [41, 16, 42, 43, 44, 45, 46, 47, 48, 49, 50, 51, 52, 53, 54, 55, 56] (by decide +kernel) (by decide +kernel)
set_option maxRecDepth 20000 in
theorem gX8_comesTo_X8_comesBy : GoodIn wsX8_comesTo (wsV RX8 73 RX8 yX8_comesBy wsX8_comesBy) := goodIn_app (goodIn_of _ (by decide +kernel)) ggX8_comesTo_X8_comesBy
theorem dX8_comesTo_0 : decode cX8_comesTo 0 = .ok (.iload_n 1, 1) := by decide +kernel
theorem dX8_comesTo_1 : decode cX8_comesTo 1 = .ok (.invokestatic 99, 3) := by decide +kernel
theorem dX8_comesTo_4 : decode cX8_comesTo 4 = .ok (.ifCond .eq 10, 3) := by decide +kernel
theorem dX8_comesTo_7 : decode cX8_comesTo 7 = .ok (.iload_n 2, 1) := by decide +kernel
theorem dX8_comesTo_8 : decode cX8_comesTo 8 = .ok (.invokestatic 89, 3) := by decide +kernel
theorem dX8_comesTo_11 : decode cX8_comesTo 11 = .ok (.ifCond .ne 5, 3) := by decide +kernel
theorem dX8_comesTo_14 : decode cX8_comesTo 14 = .ok (.iconst (-1), 1) := by decide +kernel
theorem dX8_comesTo_15 : decode cX8_comesTo 15 = .ok (.ireturn, 1) := by decide +kernel
theorem dX8_comesTo_16 : decode cX8_comesTo 16 = .ok (.iload_n 3, 1) := by decide +kernel
theorem dX8_comesTo_17 : decode cX8_comesTo 17 = .ok (.iconst 0, 1) := by decide +kernel
theorem dX8_comesTo_18 : decode cX8_comesTo 18 = .ok (.ldc 135, 2) := by decide +kernel
theorem dX8_comesTo_20 : decode cX8_comesTo 20 = .ok (.invokestatic 40, 3) := by decide +kernel
theorem dX8_comesTo_23 : decode cX8_comesTo 23 = .ok (.ifCond .ne 6, 3) := by decide +kernel
theorem dX8_comesTo_26 : decode cX8_comesTo 26 = .ok (.bipush (-2), 2) := by decide +kernel
theorem dX8_comesTo_28 : decode cX8_comesTo 28 = .ok (.ireturn, 1) := by decide +kernel
theorem dX8_comesTo_29 : decode cX8_comesTo 29 = .ok (.aload_n 0, 1) := by decide +kernel
theorem dX8_comesTo_30 : decode cX8_comesTo 30 = .ok (.iload_n 1, 1) := by decide +kernel
theorem dX8_comesTo_31 : decode cX8_comesTo 31 = .ok (.invokevirtual 69, 3) := by decide +kernel
theorem dX8_comesTo_34 : decode cX8_comesTo 34 = .ok (.iload_n 2, 1) := by decide +kernel
theorem dX8_comesTo_35 : decode cX8_comesTo 35 = .ok (.istore 4, 2) := by decide +kernel
theorem dX8_comesTo_37 : decode cX8_comesTo 37 = .ok (.iconst 0, 1) := by decide +kernel
theorem dX8_comesTo_38 : decode cX8_comesTo 38 = .ok (.istore 5, 2) := by decide +kernel
theorem dX8_comesTo_40 : decode cX8_comesTo 40 = .ok (.iload 5, 2) := by decide +kernel
theorem dX8_comesTo_42 : decode cX8_comesTo 42 = .ok (.iload_n 3, 1) := by decide +kernel
theorem dX8_comesTo_43 : decode cX8_comesTo 43 = .ok (.aload_n 0, 1) := by decide +kernel
theorem dX8_comesTo_44 : decode cX8_comesTo 44 = .ok (.iload_n 1, 1) := by decide +kernel
theorem dX8_comesTo_45 : decode cX8_comesTo 45 = .ok (.iload_n 2, 1) := by decide +kernel
theorem dX8_comesTo_46 : decode cX8_comesTo 46 = .ok (.invokevirtual 76, 3) := by decide +kernel
theorem dX8_comesTo_49 : decode cX8_comesTo 49 = .ok (.irem, 1) := by decide +kernel
theorem dX8_comesTo_50 : decode cX8_comesTo 50 = .ok (.if_icmp .ge 18, 3) := by decide +kernel
theorem dX8_comesTo_53 : decode cX8_comesTo 53 = .ok (.aload_n 0, 1) := by decide +kernel
theorem dX8_comesTo_54 : decode cX8_comesTo 54 = .ok (.iload_n 1, 1) := by decide +kernel
theorem dX8_comesTo_55 : decode cX8_comesTo 55 = .ok (.iload 4, 2) := by decide +kernel
theorem dX8_comesTo_57 : decode cX8_comesTo 57 = .ok (.invokevirtual 73, 3) := by decide +kernel
theorem dX8_comesTo_60 : decode cX8_comesTo 60 = .ok (.istore 4, 2) := by decide +kernel
theorem dX8_comesTo_62 : decode cX8_comesTo 62 = .ok (.iinc 5 1, 3) := by decide +kernel
theorem dX8_comesTo_65 : decode cX8_comesTo 65 = .ok (.goto (-25), 3) := by decide +kernel
theorem dX8_comesTo_68 : decode cX8_comesTo 68 = .ok (.iload 4, 2) := by decide +kernel
theorem dX8_comesTo_70 : decode cX8_comesTo 70 = .ok (.ireturn, 1) := by decide +kernel
set_option maxRecDepth 20000 in
theorem ggX8_neverRaised_X8_raising : GoodIn wsX8_neverRaised wsX8_raising := goodIn_r _ [5, 6, 7, 8, 4, 9, 10, 11, 12, 13, 14, 15, 16, 17, 18, 19, 20, 21, 22, 23, 24, 25] (by decide +kernel) (by decide +kernel)
set_option maxRecDepth 20000 in
theorem gX8_neverRaised_X8_raising : GoodIn wsX8_neverRaised (wsV RX8 114 RX8 yX8_raising wsX8_raising) := goodIn_app (goodIn_of _ (by decide +kernel)) ggX8_neverRaised_X8_raising
theorem dX8_neverRaised_0 : decode cX8_neverRaised 0 = .ok (.iconst 0, 1) := by decide +kernel
theorem dX8_neverRaised_1 : decode cX8_neverRaised 1 = .ok (.istore_n 1, 1) := by decide +kernel
theorem dX8_neverRaised_2 : decode cX8_neverRaised 2 = .ok (.iconst 0, 1) := by decide +kernel
theorem dX8_neverRaised_3 : decode cX8_neverRaised 3 = .ok (.istore_n 2, 1) := by decide +kernel
theorem dX8_neverRaised_4 : decode cX8_neverRaised 4 = .ok (.iload_n 2, 1) := by decide +kernel
theorem dX8_neverRaised_5 : decode cX8_neverRaised 5 = .ok (.bipush 12, 2) := by decide +kernel
theorem dX8_neverRaised_7 : decode cX8_neverRaised 7 = .ok (.if_icmp .ge 27, 3) := by decide +kernel
theorem dX8_neverRaised_10 : decode cX8_neverRaised 10 = .ok (.iload_n 1, 1) := by decide +kernel
theorem dX8_neverRaised_11 : decode cX8_neverRaised 11 = .ok (.aload_n 0, 1) := by decide +kernel
theorem dX8_neverRaised_12 : decode cX8_neverRaised 12 = .ok (.iload_n 2, 1) := by decide +kernel
theorem dX8_neverRaised_13 : decode cX8_neverRaised 13 = .ok (.invokevirtual 114, 3) := by decide +kernel
theorem dX8_neverRaised_16 : decode cX8_neverRaised 16 = .ok (.ifCond .ne 9, 3) := by decide +kernel
theorem dX8_neverRaised_19 : decode cX8_neverRaised 19 = .ok (.iconst 1, 1) := by decide +kernel
theorem dX8_neverRaised_20 : decode cX8_neverRaised 20 = .ok (.iload_n 2, 1) := by decide +kernel
theorem dX8_neverRaised_21 : decode cX8_neverRaised 21 = .ok (.ishl, 1) := by decide +kernel
theorem dX8_neverRaised_22 : decode cX8_neverRaised 22 = .ok (.goto 4, 3) := by decide +kernel
theorem dX8_neverRaised_25 : decode cX8_neverRaised 25 = .ok (.iconst 0, 1) := by decide +kernel
theorem dX8_neverRaised_26 : decode cX8_neverRaised 26 = .ok (.ior, 1) := by decide +kernel
theorem dX8_neverRaised_27 : decode cX8_neverRaised 27 = .ok (.istore_n 1, 1) := by decide +kernel
theorem dX8_neverRaised_28 : decode cX8_neverRaised 28 = .ok (.iinc 2 1, 3) := by decide +kernel
theorem dX8_neverRaised_31 : decode cX8_neverRaised 31 = .ok (.goto (-27), 3) := by decide +kernel
theorem dX8_neverRaised_34 : decode cX8_neverRaised 34 = .ok (.iload_n 1, 1) := by decide +kernel
theorem dX8_neverRaised_35 : decode cX8_neverRaised 35 = .ok (.ireturn, 1) := by decide +kernel
set_option maxRecDepth 20000 in
theorem ggX8_pressedDrafts_X8_lengthOf : GoodIn wsX8_pressedDrafts wsX8_lengthOf := goodIn_r _ [5, 6, 7, 8, 9, 10, 11, 12, 13, 14, 15, 16, 17, 18, 19, 20, 21] (by decide +kernel) (by decide +kernel)
set_option maxRecDepth 20000 in
theorem gX8_pressedDrafts_X8_lengthOf : GoodIn wsX8_pressedDrafts (wsV RX8 59 RX8 yX8_lengthOf wsX8_lengthOf) := goodIn_app (goodIn_of _ (by decide +kernel)) ggX8_pressedDrafts_X8_lengthOf
theorem dX8_pressedDrafts_0 : decode cX8_pressedDrafts 0 = .ok (.iconst 0, 1) := by decide +kernel
theorem dX8_pressedDrafts_1 : decode cX8_pressedDrafts 1 = .ok (.istore_n 1, 1) := by decide +kernel
theorem dX8_pressedDrafts_2 : decode cX8_pressedDrafts 2 = .ok (.iconst 0, 1) := by decide +kernel
theorem dX8_pressedDrafts_3 : decode cX8_pressedDrafts 3 = .ok (.istore_n 2, 1) := by decide +kernel
theorem dX8_pressedDrafts_4 : decode cX8_pressedDrafts 4 = .ok (.iload_n 2, 1) := by decide +kernel
theorem dX8_pressedDrafts_5 : decode cX8_pressedDrafts 5 = .ok (.bipush 6, 2) := by decide +kernel
theorem dX8_pressedDrafts_7 : decode cX8_pressedDrafts 7 = .ok (.if_icmp .ge 27, 3) := by decide +kernel
theorem dX8_pressedDrafts_10 : decode cX8_pressedDrafts 10 = .ok (.iload_n 1, 1) := by decide +kernel
theorem dX8_pressedDrafts_11 : decode cX8_pressedDrafts 11 = .ok (.aload_n 0, 1) := by decide +kernel
theorem dX8_pressedDrafts_12 : decode cX8_pressedDrafts 12 = .ok (.iload_n 2, 1) := by decide +kernel
theorem dX8_pressedDrafts_13 : decode cX8_pressedDrafts 13 = .ok (.invokevirtual 59, 3) := by decide +kernel
theorem dX8_pressedDrafts_16 : decode cX8_pressedDrafts 16 = .ok (.ifCond .le 9, 3) := by decide +kernel
theorem dX8_pressedDrafts_19 : decode cX8_pressedDrafts 19 = .ok (.iconst 1, 1) := by decide +kernel
theorem dX8_pressedDrafts_20 : decode cX8_pressedDrafts 20 = .ok (.iload_n 2, 1) := by decide +kernel
theorem dX8_pressedDrafts_21 : decode cX8_pressedDrafts 21 = .ok (.ishl, 1) := by decide +kernel
theorem dX8_pressedDrafts_22 : decode cX8_pressedDrafts 22 = .ok (.goto 4, 3) := by decide +kernel
theorem dX8_pressedDrafts_25 : decode cX8_pressedDrafts 25 = .ok (.iconst 0, 1) := by decide +kernel
theorem dX8_pressedDrafts_26 : decode cX8_pressedDrafts 26 = .ok (.ior, 1) := by decide +kernel
theorem dX8_pressedDrafts_27 : decode cX8_pressedDrafts 27 = .ok (.istore_n 1, 1) := by decide +kernel
theorem dX8_pressedDrafts_28 : decode cX8_pressedDrafts 28 = .ok (.iinc 2 1, 3) := by decide +kernel
theorem dX8_pressedDrafts_31 : decode cX8_pressedDrafts 31 = .ok (.goto (-27), 3) := by decide +kernel
theorem dX8_pressedDrafts_34 : decode cX8_pressedDrafts 34 = .ok (.iload_n 1, 1) := by decide +kernel
theorem dX8_pressedDrafts_35 : decode cX8_pressedDrafts 35 = .ok (.ireturn, 1) := by decide +kernel
set_option maxRecDepth 20000 in
theorem ggX8_count_X8_atHome : GoodIn wsX8_count wsX8_atHome := goodIn_r _ [8, 1, 29, 30, 31, 32, 33, 34, 35, 36, 37, 38, 39, 40, 41, 42, 43] (by decide +kernel) (by decide +kernel)
set_option maxRecDepth 20000 in
theorem gX8_count_X8_atHome : GoodIn wsX8_count (wsV RX8 48 RX8 yX8_atHome wsX8_atHome) := goodIn_app (goodIn_of _ (by decide +kernel)) ggX8_count_X8_atHome
set_option maxRecDepth 20000 in
theorem ggX8_count_X8_neverRaised : GoodIn wsX8_count wsX8_neverRaised := goodIn_r _ [12, 13, 14, 15, 7, 16, 17, 18, 19, 20, 1, 29, 30, 31, 32, 33, 34, 35, 36, 37, 38, 39, 40, 41, 42, 43] (by decide +kernel) (by decide +kernel)
set_option maxRecDepth 20000 in
theorem gX8_count_X8_neverRaised : GoodIn wsX8_count (wsV RX8 136 RX8 yX8_neverRaised wsX8_neverRaised) := goodIn_app (goodIn_of _ (by decide +kernel)) ggX8_count_X8_neverRaised
set_option maxRecDepth 20000 in
theorem ggX8_count_X8_pressedDrafts : GoodIn wsX8_count wsX8_pressedDrafts := goodIn_r _ [24, 25, 26, 27, 7, 28, 1, 29, 30, 31, 32, 33, 34, 35, 36, 37, 38, 39, 40, 41, 42, 43] (by decide +kernel) (by decide +kernel)
set_option maxRecDepth 20000 in
theorem gX8_count_X8_pressedDrafts : GoodIn wsX8_count (wsV RX8 139 RX8 yX8_pressedDrafts wsX8_pressedDrafts) := goodIn_app (goodIn_of _ (by decide +kernel)) ggX8_count_X8_pressedDrafts
theorem dX8_count_0 : decode cX8_count 0 = .ok (.iload_n 1, 1) := by decide +kernel
theorem dX8_count_1 : decode cX8_count 1 = .ok (.tableswitch 86 0 6 #[43, 48, 57, 66, 71, 76, 81], 43) := by decide +kernel
theorem dX8_count_44 : decode cX8_count 44 = .ok (.aload_n 0, 1) := by decide +kernel
theorem dX8_count_45 : decode cX8_count 45 = .ok (.invokevirtual 48, 3) := by decide +kernel
theorem dX8_count_48 : decode cX8_count 48 = .ok (.ireturn, 1) := by decide +kernel
theorem dX8_count_49 : decode cX8_count 49 = .ok (.aload_n 0, 1) := by decide +kernel
theorem dX8_count_50 : decode cX8_count 50 = .ok (.getfield 7, 3) := by decide +kernel
theorem dX8_count_53 : decode cX8_count 53 = .ok (.sipush 192, 3) := by decide +kernel
theorem dX8_count_56 : decode cX8_count 56 = .ok (.iaload, 1) := by decide +kernel
theorem dX8_count_57 : decode cX8_count 57 = .ok (.ireturn, 1) := by decide +kernel
theorem dX8_count_58 : decode cX8_count 58 = .ok (.aload_n 0, 1) := by decide +kernel
theorem dX8_count_59 : decode cX8_count 59 = .ok (.getfield 7, 3) := by decide +kernel
theorem dX8_count_62 : decode cX8_count 62 = .ok (.sipush 193, 3) := by decide +kernel
theorem dX8_count_65 : decode cX8_count 65 = .ok (.iaload, 1) := by decide +kernel
theorem dX8_count_66 : decode cX8_count 66 = .ok (.ireturn, 1) := by decide +kernel
theorem dX8_count_67 : decode cX8_count 67 = .ok (.aload_n 0, 1) := by decide +kernel
theorem dX8_count_68 : decode cX8_count 68 = .ok (.invokevirtual 136, 3) := by decide +kernel
theorem dX8_count_71 : decode cX8_count 71 = .ok (.ireturn, 1) := by decide +kernel
theorem dX8_count_72 : decode cX8_count 72 = .ok (.aload_n 0, 1) := by decide +kernel
theorem dX8_count_73 : decode cX8_count 73 = .ok (.invokevirtual 139, 3) := by decide +kernel
theorem dX8_count_76 : decode cX8_count 76 = .ok (.ireturn, 1) := by decide +kernel
theorem dX8_count_77 : decode cX8_count 77 = .ok (.aload_n 0, 1) := by decide +kernel
theorem dX8_count_78 : decode cX8_count 78 = .ok (.getfield 105, 3) := by decide +kernel
theorem dX8_count_81 : decode cX8_count 81 = .ok (.ireturn, 1) := by decide +kernel
theorem dX8_count_82 : decode cX8_count 82 = .ok (.aload_n 0, 1) := by decide +kernel
theorem dX8_count_83 : decode cX8_count 83 = .ok (.getfield 44, 3) := by decide +kernel
theorem dX8_count_86 : decode cX8_count 86 = .ok (.ireturn, 1) := by decide +kernel
theorem dX8_count_87 : decode cX8_count 87 = .ok (.bipush (-2), 2) := by decide +kernel
theorem dX8_count_89 : decode cX8_count 89 = .ok (.ireturn, 1) := by decide +kernel
set_option maxRecDepth 20000 in
theorem ggX8_kernel_X8_areDrafts : GoodIn wsX8_kernel wsX8_areDrafts := goodIn_r _ [4, 5, 6, 3, 7] (by decide +kernel) (by decide +kernel)
set_option maxRecDepth 20000 in
theorem gX8_kernel_X8_areDrafts : GoodIn wsX8_kernel (va_wsS RX8 142 yX8_areDrafts wsX8_areDrafts) := goodIn_app (goodIn_of _ (by decide +kernel)) ggX8_kernel_X8_areDrafts
set_option maxRecDepth 20000 in
theorem ggX8_kernel_X8_layAll : GoodIn wsX8_kernel wsX8_layAll := goodIn_r _ [11, 12, 13, 14, 3, 15, 16, 17, 18, 19, 20, 21, 22, 23, 24, 25, 26, 27, 28, 29, 30, 31, 32, 33, 42, 43, 44, 45, 46, 47, 48, 49, 50, 51, 52, 53, 54, 55, 56] (by decide +kernel) (by decide +kernel)
set_option maxRecDepth 20000 in
theorem gX8_kernel_X8_layAll : GoodIn wsX8_kernel (wsV RX8 145 RX8 yX8_layAll wsX8_layAll) := goodIn_app (goodIn_of _ (by decide +kernel)) ggX8_kernel_X8_layAll
set_option maxRecDepth 20000 in
theorem ggX8_kernel_X8_stays : GoodIn wsX8_kernel wsX8_stays := goodIn_r _ [37, 38, 39, 40, 3, 41, 16, 42, 43, 44, 45, 46, 47, 48, 49, 50, 51, 52, 53, 54, 55, 56] (by decide +kernel) (by decide +kernel)
set_option maxRecDepth 20000 in
theorem gX8_kernel_X8_stays : GoodIn wsX8_kernel (wsV RX8 120 RX8 yX8_stays wsX8_stays) := goodIn_app (goodIn_of _ (by decide +kernel)) ggX8_kernel_X8_stays
theorem dX8_kernel_0 : decode cX8_kernel 0 = .ok (.iload_n 1, 1) := by decide +kernel
theorem dX8_kernel_1 : decode cX8_kernel 1 = .ok (.invokestatic 142, 3) := by decide +kernel
theorem dX8_kernel_4 : decode cX8_kernel 4 = .ok (.ifCond .ne 6, 3) := by decide +kernel
theorem dX8_kernel_7 : decode cX8_kernel 7 = .ok (.bipush (-2), 2) := by decide +kernel
theorem dX8_kernel_9 : decode cX8_kernel 9 = .ok (.ireturn, 1) := by decide +kernel
theorem dX8_kernel_10 : decode cX8_kernel 10 = .ok (.aload_n 0, 1) := by decide +kernel
theorem dX8_kernel_11 : decode cX8_kernel 11 = .ok (.invokevirtual 145, 3) := by decide +kernel
end
section
theorem dX8_kernel_14 : decode cX8_kernel 14 = .ok (.sipush 4095, 3) := by decide +kernel
theorem dX8_kernel_17 : decode cX8_kernel 17 = .ok (.istore_n 2, 1) := by decide +kernel
theorem dX8_kernel_18 : decode cX8_kernel 18 = .ok (.iconst 0, 1) := by decide +kernel
theorem dX8_kernel_19 : decode cX8_kernel 19 = .ok (.istore_n 3, 1) := by decide +kernel
theorem dX8_kernel_20 : decode cX8_kernel 20 = .ok (.iload_n 3, 1) := by decide +kernel
theorem dX8_kernel_21 : decode cX8_kernel 21 = .ok (.bipush 6, 2) := by decide +kernel
theorem dX8_kernel_23 : decode cX8_kernel 23 = .ok (.if_icmp .ge 30, 3) := by decide +kernel
theorem dX8_kernel_26 : decode cX8_kernel 26 = .ok (.iload_n 2, 1) := by decide +kernel
theorem dX8_kernel_27 : decode cX8_kernel 27 = .ok (.iload_n 1, 1) := by decide +kernel
theorem dX8_kernel_28 : decode cX8_kernel 28 = .ok (.iload_n 3, 1) := by decide +kernel
theorem dX8_kernel_29 : decode cX8_kernel 29 = .ok (.ishr, 1) := by decide +kernel
theorem dX8_kernel_30 : decode cX8_kernel 30 = .ok (.iconst 1, 1) := by decide +kernel
theorem dX8_kernel_31 : decode cX8_kernel 31 = .ok (.iand, 1) := by decide +kernel
theorem dX8_kernel_32 : decode cX8_kernel 32 = .ok (.iconst 1, 1) := by decide +kernel
theorem dX8_kernel_33 : decode cX8_kernel 33 = .ok (.if_icmp .ne 11, 3) := by decide +kernel
theorem dX8_kernel_36 : decode cX8_kernel 36 = .ok (.aload_n 0, 1) := by decide +kernel
theorem dX8_kernel_37 : decode cX8_kernel 37 = .ok (.iload_n 3, 1) := by decide +kernel
theorem dX8_kernel_38 : decode cX8_kernel 38 = .ok (.invokevirtual 120, 3) := by decide +kernel
theorem dX8_kernel_41 : decode cX8_kernel 41 = .ok (.goto 4, 3) := by decide +kernel
theorem dX8_kernel_44 : decode cX8_kernel 44 = .ok (.iload_n 2, 1) := by decide +kernel
theorem dX8_kernel_45 : decode cX8_kernel 45 = .ok (.iand, 1) := by decide +kernel
theorem dX8_kernel_46 : decode cX8_kernel 46 = .ok (.istore_n 2, 1) := by decide +kernel
theorem dX8_kernel_47 : decode cX8_kernel 47 = .ok (.iinc 3 1, 3) := by decide +kernel
theorem dX8_kernel_50 : decode cX8_kernel 50 = .ok (.goto (-30), 3) := by decide +kernel
theorem dX8_kernel_53 : decode cX8_kernel 53 = .ok (.iload_n 2, 1) := by decide +kernel
theorem dX8_kernel_54 : decode cX8_kernel 54 = .ok (.ireturn, 1) := by decide +kernel
set_option maxRecDepth 20000 in
theorem ggX8_orbit_X8_isPlace : GoodIn wsX8_orbit wsX8_isPlace := goodIn_r _ [5, 6, 7, 4, 8] (by decide +kernel) (by decide +kernel)
set_option maxRecDepth 20000 in
theorem gX8_orbit_X8_isPlace : GoodIn wsX8_orbit (va_wsS RX8 89 yX8_isPlace wsX8_isPlace) := goodIn_app (goodIn_of _ (by decide +kernel)) ggX8_orbit_X8_isPlace
set_option maxRecDepth 20000 in
theorem ggX8_orbit_X8_areDrafts : GoodIn wsX8_orbit wsX8_areDrafts := goodIn_r _ [11, 6, 7, 4, 8] (by decide +kernel) (by decide +kernel)
set_option maxRecDepth 20000 in
theorem gX8_orbit_X8_areDrafts : GoodIn wsX8_orbit (va_wsS RX8 142 yX8_areDrafts wsX8_areDrafts) := goodIn_app (goodIn_of _ (by decide +kernel)) ggX8_orbit_X8_areDrafts
set_option maxRecDepth 20000 in
theorem ggX8_orbit_X8_layAll : GoodIn wsX8_orbit wsX8_layAll := goodIn_r _ [15, 16, 17, 18, 4, 19, 1, 20, 21, 22, 23, 24, 25, 26, 27, 28, 29, 30, 31, 32, 33, 34, 35, 36, 37, 38, 39, 40, 41, 42, 43, 44, 45, 46, 47, 48, 49, 50, 51] (by decide +kernel) (by decide +kernel)
set_option maxRecDepth 20000 in
theorem gX8_orbit_X8_layAll : GoodIn wsX8_orbit (wsV RX8 145 RX8 yX8_layAll wsX8_layAll) := goodIn_app (goodIn_of _ (by decide +kernel)) ggX8_orbit_X8_layAll
theorem dX8_orbit_0 : decode cX8_orbit 0 = .ok (.iload_n 2, 1) := by decide +kernel
theorem dX8_orbit_1 : decode cX8_orbit 1 = .ok (.invokestatic 89, 3) := by decide +kernel
theorem dX8_orbit_4 : decode cX8_orbit 4 = .ok (.ifCond .ne 5, 3) := by decide +kernel
theorem dX8_orbit_7 : decode cX8_orbit 7 = .ok (.iconst (-1), 1) := by decide +kernel
theorem dX8_orbit_8 : decode cX8_orbit 8 = .ok (.ireturn, 1) := by decide +kernel
theorem dX8_orbit_9 : decode cX8_orbit 9 = .ok (.iload_n 1, 1) := by decide +kernel
theorem dX8_orbit_10 : decode cX8_orbit 10 = .ok (.invokestatic 142, 3) := by decide +kernel
theorem dX8_orbit_13 : decode cX8_orbit 13 = .ok (.ifCond .ne 6, 3) := by decide +kernel
theorem dX8_orbit_16 : decode cX8_orbit 16 = .ok (.bipush (-2), 2) := by decide +kernel
theorem dX8_orbit_18 : decode cX8_orbit 18 = .ok (.ireturn, 1) := by decide +kernel
theorem dX8_orbit_19 : decode cX8_orbit 19 = .ok (.aload_n 0, 1) := by decide +kernel
theorem dX8_orbit_20 : decode cX8_orbit 20 = .ok (.invokevirtual 145, 3) := by decide +kernel
theorem dX8_orbit_23 : decode cX8_orbit 23 = .ok (.iconst 1, 1) := by decide +kernel
theorem dX8_orbit_24 : decode cX8_orbit 24 = .ok (.iload_n 2, 1) := by decide +kernel
theorem dX8_orbit_25 : decode cX8_orbit 25 = .ok (.ishl, 1) := by decide +kernel
theorem dX8_orbit_26 : decode cX8_orbit 26 = .ok (.istore_n 3, 1) := by decide +kernel
theorem dX8_orbit_27 : decode cX8_orbit 27 = .ok (.iconst 0, 1) := by decide +kernel
theorem dX8_orbit_28 : decode cX8_orbit 28 = .ok (.istore 4, 2) := by decide +kernel
theorem dX8_orbit_30 : decode cX8_orbit 30 = .ok (.iload 4, 2) := by decide +kernel
theorem dX8_orbit_32 : decode cX8_orbit 32 = .ok (.bipush 12, 2) := by decide +kernel
theorem dX8_orbit_34 : decode cX8_orbit 34 = .ok (.if_icmp .ge 79, 3) := by decide +kernel
theorem dX8_orbit_37 : decode cX8_orbit 37 = .ok (.iconst 0, 1) := by decide +kernel
theorem dX8_orbit_38 : decode cX8_orbit 38 = .ok (.istore 5, 2) := by decide +kernel
theorem dX8_orbit_40 : decode cX8_orbit 40 = .ok (.iload 5, 2) := by decide +kernel
theorem dX8_orbit_42 : decode cX8_orbit 42 = .ok (.bipush 72, 2) := by decide +kernel
theorem dX8_orbit_44 : decode cX8_orbit 44 = .ok (.if_icmp .ge 63, 3) := by decide +kernel
theorem dX8_orbit_47 : decode cX8_orbit 47 = .ok (.iload_n 3, 1) := by decide +kernel
theorem dX8_orbit_48 : decode cX8_orbit 48 = .ok (.iload 5, 2) := by decide +kernel
theorem dX8_orbit_50 : decode cX8_orbit 50 = .ok (.bipush 12, 2) := by decide +kernel
theorem dX8_orbit_52 : decode cX8_orbit 52 = .ok (.irem, 1) := by decide +kernel
theorem dX8_orbit_53 : decode cX8_orbit 53 = .ok (.ishr, 1) := by decide +kernel
theorem dX8_orbit_54 : decode cX8_orbit 54 = .ok (.iconst 1, 1) := by decide +kernel
theorem dX8_orbit_55 : decode cX8_orbit 55 = .ok (.iand, 1) := by decide +kernel
theorem dX8_orbit_56 : decode cX8_orbit 56 = .ok (.iconst 1, 1) := by decide +kernel
theorem dX8_orbit_57 : decode cX8_orbit 57 = .ok (.if_icmp .ne 20, 3) := by decide +kernel
theorem dX8_orbit_60 : decode cX8_orbit 60 = .ok (.iload_n 1, 1) := by decide +kernel
theorem dX8_orbit_61 : decode cX8_orbit 61 = .ok (.iload 5, 2) := by decide +kernel
theorem dX8_orbit_63 : decode cX8_orbit 63 = .ok (.bipush 12, 2) := by decide +kernel
theorem dX8_orbit_65 : decode cX8_orbit 65 = .ok (.idiv, 1) := by decide +kernel
theorem dX8_orbit_66 : decode cX8_orbit 66 = .ok (.ishr, 1) := by decide +kernel
theorem dX8_orbit_67 : decode cX8_orbit 67 = .ok (.iconst 1, 1) := by decide +kernel
theorem dX8_orbit_68 : decode cX8_orbit 68 = .ok (.iand, 1) := by decide +kernel
theorem dX8_orbit_69 : decode cX8_orbit 69 = .ok (.iconst 1, 1) := by decide +kernel
theorem dX8_orbit_70 : decode cX8_orbit 70 = .ok (.if_icmp .ne 7, 3) := by decide +kernel
theorem dX8_orbit_73 : decode cX8_orbit 73 = .ok (.iconst 1, 1) := by decide +kernel
theorem dX8_orbit_74 : decode cX8_orbit 74 = .ok (.goto 4, 3) := by decide +kernel
theorem dX8_orbit_77 : decode cX8_orbit 77 = .ok (.iconst 0, 1) := by decide +kernel
theorem dX8_orbit_78 : decode cX8_orbit 78 = .ok (.istore 6, 2) := by decide +kernel
theorem dX8_orbit_80 : decode cX8_orbit 80 = .ok (.iload_n 3, 1) := by decide +kernel
theorem dX8_orbit_81 : decode cX8_orbit 81 = .ok (.iload 6, 2) := by decide +kernel
theorem dX8_orbit_83 : decode cX8_orbit 83 = .ok (.ifCond .eq 15, 3) := by decide +kernel
theorem dX8_orbit_86 : decode cX8_orbit 86 = .ok (.iconst 1, 1) := by decide +kernel
theorem dX8_orbit_87 : decode cX8_orbit 87 = .ok (.aload_n 0, 1) := by decide +kernel
theorem dX8_orbit_88 : decode cX8_orbit 88 = .ok (.getfield 28, 3) := by decide +kernel
theorem dX8_orbit_91 : decode cX8_orbit 91 = .ok (.iload 5, 2) := by decide +kernel
theorem dX8_orbit_93 : decode cX8_orbit 93 = .ok (.iaload, 1) := by decide +kernel
theorem dX8_orbit_94 : decode cX8_orbit 94 = .ok (.ishl, 1) := by decide +kernel
theorem dX8_orbit_95 : decode cX8_orbit 95 = .ok (.goto 4, 3) := by decide +kernel
theorem dX8_orbit_98 : decode cX8_orbit 98 = .ok (.iconst 0, 1) := by decide +kernel
theorem dX8_orbit_99 : decode cX8_orbit 99 = .ok (.ior, 1) := by decide +kernel
theorem dX8_orbit_100 : decode cX8_orbit 100 = .ok (.istore_n 3, 1) := by decide +kernel
theorem dX8_orbit_101 : decode cX8_orbit 101 = .ok (.iinc 5 1, 3) := by decide +kernel
theorem dX8_orbit_104 : decode cX8_orbit 104 = .ok (.goto (-64), 3) := by decide +kernel
theorem dX8_orbit_107 : decode cX8_orbit 107 = .ok (.iinc 4 1, 3) := by decide +kernel
theorem dX8_orbit_110 : decode cX8_orbit 110 = .ok (.goto (-80), 3) := by decide +kernel
theorem dX8_orbit_113 : decode cX8_orbit 113 = .ok (.iload_n 3, 1) := by decide +kernel
theorem dX8_orbit_114 : decode cX8_orbit 114 = .ok (.ireturn, 1) := by decide +kernel
set_option maxRecDepth 20000 in
theorem ggX8_unlike_X8_comesBy : GoodIn wsX8_unlike wsX8_comesBy := goodIn_r _ [5, 6, 7, 8, 9, 10, 11, 12, 13, 14, 15, 16, 17, 18, 19, 20, 21] (by decide +kernel) (by decide +kernel)
set_option maxRecDepth 20000 in
theorem gX8_unlike_X8_comesBy : GoodIn wsX8_unlike (wsV RX8 73 RX8 yX8_comesBy wsX8_comesBy) := goodIn_app (goodIn_of _ (by decide +kernel)) ggX8_unlike_X8_comesBy
theorem dX8_unlike_0 : decode cX8_unlike 0 = .ok (.iconst 0, 1) := by decide +kernel
theorem dX8_unlike_1 : decode cX8_unlike 1 = .ok (.istore 4, 2) := by decide +kernel
theorem dX8_unlike_3 : decode cX8_unlike 3 = .ok (.iconst 0, 1) := by decide +kernel
theorem dX8_unlike_4 : decode cX8_unlike 4 = .ok (.istore 5, 2) := by decide +kernel
theorem dX8_unlike_6 : decode cX8_unlike 6 = .ok (.iload 5, 2) := by decide +kernel
theorem dX8_unlike_8 : decode cX8_unlike 8 = .ok (.bipush 12, 2) := by decide +kernel
theorem dX8_unlike_10 : decode cX8_unlike 10 = .ok (.if_icmp .ge 94, 3) := by decide +kernel
theorem dX8_unlike_13 : decode cX8_unlike 13 = .ok (.aload_n 0, 1) := by decide +kernel
theorem dX8_unlike_14 : decode cX8_unlike 14 = .ok (.iload_n 1, 1) := by decide +kernel
theorem dX8_unlike_15 : decode cX8_unlike 15 = .ok (.iload 5, 2) := by decide +kernel
theorem dX8_unlike_17 : decode cX8_unlike 17 = .ok (.invokevirtual 73, 3) := by decide +kernel
theorem dX8_unlike_20 : decode cX8_unlike 20 = .ok (.istore 6, 2) := by decide +kernel
theorem dX8_unlike_22 : decode cX8_unlike 22 = .ok (.iload_n 3, 1) := by decide +kernel
theorem dX8_unlike_23 : decode cX8_unlike 23 = .ok (.iconst 2, 1) := by decide +kernel
theorem dX8_unlike_24 : decode cX8_unlike 24 = .ok (.if_icmp .ne 8, 3) := by decide +kernel
theorem dX8_unlike_27 : decode cX8_unlike 27 = .ok (.iload 5, 2) := by decide +kernel
theorem dX8_unlike_29 : decode cX8_unlike 29 = .ok (.goto 10, 3) := by decide +kernel
theorem dX8_unlike_32 : decode cX8_unlike 32 = .ok (.aload_n 0, 1) := by decide +kernel
theorem dX8_unlike_33 : decode cX8_unlike 33 = .ok (.iload_n 2, 1) := by decide +kernel
theorem dX8_unlike_34 : decode cX8_unlike 34 = .ok (.iload 5, 2) := by decide +kernel
theorem dX8_unlike_36 : decode cX8_unlike 36 = .ok (.invokevirtual 73, 3) := by decide +kernel
theorem dX8_unlike_39 : decode cX8_unlike 39 = .ok (.istore 7, 2) := by decide +kernel
theorem dX8_unlike_41 : decode cX8_unlike 41 = .ok (.iload_n 3, 1) := by decide +kernel
theorem dX8_unlike_42 : decode cX8_unlike 42 = .ok (.ifCond .ne 8, 3) := by decide +kernel
theorem dX8_unlike_45 : decode cX8_unlike 45 = .ok (.iload 6, 2) := by decide +kernel
theorem dX8_unlike_47 : decode cX8_unlike 47 = .ok (.goto 10, 3) := by decide +kernel
theorem dX8_unlike_50 : decode cX8_unlike 50 = .ok (.aload_n 0, 1) := by decide +kernel
theorem dX8_unlike_51 : decode cX8_unlike 51 = .ok (.iload_n 2, 1) := by decide +kernel
theorem dX8_unlike_52 : decode cX8_unlike 52 = .ok (.iload 6, 2) := by decide +kernel
theorem dX8_unlike_54 : decode cX8_unlike 54 = .ok (.invokevirtual 73, 3) := by decide +kernel
theorem dX8_unlike_57 : decode cX8_unlike 57 = .ok (.istore 6, 2) := by decide +kernel
theorem dX8_unlike_59 : decode cX8_unlike 59 = .ok (.iload_n 3, 1) := by decide +kernel
theorem dX8_unlike_60 : decode cX8_unlike 60 = .ok (.iconst 1, 1) := by decide +kernel
theorem dX8_unlike_61 : decode cX8_unlike 61 = .ok (.if_icmp .ne 13, 3) := by decide +kernel
theorem dX8_unlike_64 : decode cX8_unlike 64 = .ok (.aload_n 0, 1) := by decide +kernel
theorem dX8_unlike_65 : decode cX8_unlike 65 = .ok (.iload_n 1, 1) := by decide +kernel
theorem dX8_unlike_66 : decode cX8_unlike 66 = .ok (.iload 7, 2) := by decide +kernel
theorem dX8_unlike_68 : decode cX8_unlike 68 = .ok (.invokevirtual 73, 3) := by decide +kernel
theorem dX8_unlike_71 : decode cX8_unlike 71 = .ok (.goto 5, 3) := by decide +kernel
theorem dX8_unlike_74 : decode cX8_unlike 74 = .ok (.iload 7, 2) := by decide +kernel
theorem dX8_unlike_76 : decode cX8_unlike 76 = .ok (.istore 7, 2) := by decide +kernel
theorem dX8_unlike_78 : decode cX8_unlike 78 = .ok (.iload 4, 2) := by decide +kernel
theorem dX8_unlike_80 : decode cX8_unlike 80 = .ok (.iload 6, 2) := by decide +kernel
theorem dX8_unlike_82 : decode cX8_unlike 82 = .ok (.iload 7, 2) := by decide +kernel
theorem dX8_unlike_84 : decode cX8_unlike 84 = .ok (.if_icmp .ne 7, 3) := by decide +kernel
theorem dX8_unlike_87 : decode cX8_unlike 87 = .ok (.iconst 0, 1) := by decide +kernel
theorem dX8_unlike_88 : decode cX8_unlike 88 = .ok (.goto 7, 3) := by decide +kernel
theorem dX8_unlike_91 : decode cX8_unlike 91 = .ok (.iconst 1, 1) := by decide +kernel
theorem dX8_unlike_92 : decode cX8_unlike 92 = .ok (.iload 5, 2) := by decide +kernel
theorem dX8_unlike_94 : decode cX8_unlike 94 = .ok (.ishl, 1) := by decide +kernel
theorem dX8_unlike_95 : decode cX8_unlike 95 = .ok (.ior, 1) := by decide +kernel
theorem dX8_unlike_96 : decode cX8_unlike 96 = .ok (.istore 4, 2) := by decide +kernel
theorem dX8_unlike_98 : decode cX8_unlike 98 = .ok (.iinc 5 1, 3) := by decide +kernel
theorem dX8_unlike_101 : decode cX8_unlike 101 = .ok (.goto (-95), 3) := by decide +kernel
theorem dX8_unlike_104 : decode cX8_unlike 104 = .ok (.iload 4, 2) := by decide +kernel
theorem dX8_unlike_106 : decode cX8_unlike 106 = .ok (.ireturn, 1) := by decide +kernel
set_option maxRecDepth 20000 in
theorem ggX8_pair_X8_isDraft : GoodIn wsX8_pair wsX8_isDraft := goodIn_r _ [4, 5, 6, 3, 7] (by decide +kernel) (by decide +kernel)
set_option maxRecDepth 20000 in
theorem gX8_pair_X8_isDraft : GoodIn wsX8_pair (va_wsS RX8 99 yX8_isDraft wsX8_isDraft) := goodIn_app (goodIn_of _ (by decide +kernel)) ggX8_pair_X8_isDraft
set_option maxRecDepth 20000 in
theorem ggX8_pair_X8_within : GoodIn wsX8_pair wsX8_within := goodIn_r _ [7] (by decide +kernel) (by decide +kernel)
set_option maxRecDepth 20000 in
theorem gX8_pair_X8_within : GoodIn wsX8_pair (va_wsS RX8 40 yX8_within wsX8_within) := goodIn_app (goodIn_of _ (by decide +kernel)) ggX8_pair_X8_within
set_option maxRecDepth 20000 in
theorem ggX8_pair_X8_lay : GoodIn wsX8_pair wsX8_lay := goodIn_r _ [11, 12, 13, 14, 15, 3, 16, 17, 18, 19, 20, 21, 22, 23, 24, 25, 26, 27, 28, 29, 38, 39, 40, 41, 42, 43, 44, 45, 46, 47, 48, 49, 50, 51, 52] (by decide +kernel) (by decide +kernel)
set_option maxRecDepth 20000 in
theorem gX8_pair_X8_lay : GoodIn wsX8_pair (wsV RX8 69 RX8 yX8_lay wsX8_lay) := goodIn_app (goodIn_of _ (by decide +kernel)) ggX8_pair_X8_lay
set_option maxRecDepth 20000 in
theorem ggX8_pair_X8_unlike : GoodIn wsX8_pair wsX8_unlike := goodIn_r _ [33, 34, 35, 36, 3, 37, 12, 38, 39, 40, 41, 42, 43, 44, 45, 46, 47, 48, 49, 50, 51, 52] (by decide +kernel) (by decide +kernel)
set_option maxRecDepth 20000 in
theorem gX8_pair_X8_unlike : GoodIn wsX8_pair (wsV RX8 148 RX8 yX8_unlike wsX8_unlike) := goodIn_app (goodIn_of _ (by decide +kernel)) ggX8_pair_X8_unlike
theorem dX8_pair_0 : decode cX8_pair 0 = .ok (.iload_n 1, 1) := by decide +kernel
theorem dX8_pair_1 : decode cX8_pair 1 = .ok (.invokestatic 99, 3) := by decide +kernel
theorem dX8_pair_4 : decode cX8_pair 4 = .ok (.ifCond .eq 10, 3) := by decide +kernel
theorem dX8_pair_7 : decode cX8_pair 7 = .ok (.iload_n 2, 1) := by decide +kernel
theorem dX8_pair_8 : decode cX8_pair 8 = .ok (.invokestatic 99, 3) := by decide +kernel
theorem dX8_pair_11 : decode cX8_pair 11 = .ok (.ifCond .ne 5, 3) := by decide +kernel
theorem dX8_pair_14 : decode cX8_pair 14 = .ok (.iconst (-1), 1) := by decide +kernel
theorem dX8_pair_15 : decode cX8_pair 15 = .ok (.ireturn, 1) := by decide +kernel
theorem dX8_pair_16 : decode cX8_pair 16 = .ok (.iload_n 3, 1) := by decide +kernel
theorem dX8_pair_17 : decode cX8_pair 17 = .ok (.iconst 0, 1) := by decide +kernel
theorem dX8_pair_18 : decode cX8_pair 18 = .ok (.iconst 3, 1) := by decide +kernel
theorem dX8_pair_19 : decode cX8_pair 19 = .ok (.invokestatic 40, 3) := by decide +kernel
theorem dX8_pair_22 : decode cX8_pair 22 = .ok (.ifCond .ne 6, 3) := by decide +kernel
theorem dX8_pair_25 : decode cX8_pair 25 = .ok (.bipush (-2), 2) := by decide +kernel
theorem dX8_pair_27 : decode cX8_pair 27 = .ok (.ireturn, 1) := by decide +kernel
theorem dX8_pair_28 : decode cX8_pair 28 = .ok (.aload_n 0, 1) := by decide +kernel
theorem dX8_pair_29 : decode cX8_pair 29 = .ok (.iload_n 1, 1) := by decide +kernel
theorem dX8_pair_30 : decode cX8_pair 30 = .ok (.invokevirtual 69, 3) := by decide +kernel
theorem dX8_pair_33 : decode cX8_pair 33 = .ok (.aload_n 0, 1) := by decide +kernel
theorem dX8_pair_34 : decode cX8_pair 34 = .ok (.iload_n 2, 1) := by decide +kernel
theorem dX8_pair_35 : decode cX8_pair 35 = .ok (.invokevirtual 69, 3) := by decide +kernel
theorem dX8_pair_38 : decode cX8_pair 38 = .ok (.iload_n 3, 1) := by decide +kernel
theorem dX8_pair_39 : decode cX8_pair 39 = .ok (.iconst 3, 1) := by decide +kernel
theorem dX8_pair_40 : decode cX8_pair 40 = .ok (.if_icmp .ne 11, 3) := by decide +kernel
theorem dX8_pair_43 : decode cX8_pair 43 = .ok (.aload_n 0, 1) := by decide +kernel
theorem dX8_pair_44 : decode cX8_pair 44 = .ok (.iload_n 1, 1) := by decide +kernel
theorem dX8_pair_45 : decode cX8_pair 45 = .ok (.iload_n 2, 1) := by decide +kernel
theorem dX8_pair_46 : decode cX8_pair 46 = .ok (.iconst 0, 1) := by decide +kernel
theorem dX8_pair_47 : decode cX8_pair 47 = .ok (.invokevirtual 148, 3) := by decide +kernel
theorem dX8_pair_50 : decode cX8_pair 50 = .ok (.ireturn, 1) := by decide +kernel
theorem dX8_pair_51 : decode cX8_pair 51 = .ok (.aload_n 0, 1) := by decide +kernel
theorem dX8_pair_52 : decode cX8_pair 52 = .ok (.iload_n 1, 1) := by decide +kernel
theorem dX8_pair_53 : decode cX8_pair 53 = .ok (.iload_n 2, 1) := by decide +kernel
theorem dX8_pair_54 : decode cX8_pair 54 = .ok (.iload_n 3, 1) := by decide +kernel
theorem dX8_pair_55 : decode cX8_pair 55 = .ok (.invokevirtual 148, 3) := by decide +kernel
theorem dX8_pair_58 : decode cX8_pair 58 = .ok (.ifCond .ne 7, 3) := by decide +kernel
theorem dX8_pair_61 : decode cX8_pair 61 = .ok (.iconst 1, 1) := by decide +kernel
theorem dX8_pair_62 : decode cX8_pair 62 = .ok (.goto 4, 3) := by decide +kernel
theorem dX8_pair_65 : decode cX8_pair 65 = .ok (.iconst 0, 1) := by decide +kernel
theorem dX8_pair_66 : decode cX8_pair 66 = .ok (.ireturn, 1) := by decide +kernel
theorem dX8_addWay_0 : decode cX8_addWay 0 = .ok (.iconst 1, 1) := by decide +kernel
theorem dX8_addWay_1 : decode cX8_addWay 1 = .ok (.istore_n 1, 1) := by decide +kernel
theorem dX8_addWay_2 : decode cX8_addWay 2 = .ok (.iconst 0, 1) := by decide +kernel
theorem dX8_addWay_3 : decode cX8_addWay 3 = .ok (.istore_n 2, 1) := by decide +kernel
theorem dX8_addWay_4 : decode cX8_addWay 4 = .ok (.iload_n 2, 1) := by decide +kernel
theorem dX8_addWay_5 : decode cX8_addWay 5 = .ok (.aload_n 0, 1) := by decide +kernel
theorem dX8_addWay_6 : decode cX8_addWay 6 = .ok (.getfield 152, 3) := by decide +kernel
theorem dX8_addWay_9 : decode cX8_addWay 9 = .ok (.if_icmp .ge 73, 3) := by decide +kernel
theorem dX8_addWay_12 : decode cX8_addWay 12 = .ok (.iconst 1, 1) := by decide +kernel
theorem dX8_addWay_13 : decode cX8_addWay 13 = .ok (.istore_n 3, 1) := by decide +kernel
theorem dX8_addWay_14 : decode cX8_addWay 14 = .ok (.iconst 0, 1) := by decide +kernel
theorem dX8_addWay_15 : decode cX8_addWay 15 = .ok (.istore 4, 2) := by decide +kernel
theorem dX8_addWay_17 : decode cX8_addWay 17 = .ok (.iload 4, 2) := by decide +kernel
theorem dX8_addWay_19 : decode cX8_addWay 19 = .ok (.bipush 12, 2) := by decide +kernel
theorem dX8_addWay_21 : decode cX8_addWay 21 = .ok (.if_icmp .ge 41, 3) := by decide +kernel
theorem dX8_addWay_24 : decode cX8_addWay 24 = .ok (.iload_n 3, 1) := by decide +kernel
theorem dX8_addWay_25 : decode cX8_addWay 25 = .ok (.ifCond .eq 29, 3) := by decide +kernel
theorem dX8_addWay_28 : decode cX8_addWay 28 = .ok (.aload_n 0, 1) := by decide +kernel
theorem dX8_addWay_29 : decode cX8_addWay 29 = .ok (.getfield 37, 3) := by decide +kernel
theorem dX8_addWay_32 : decode cX8_addWay 32 = .ok (.bipush 12, 2) := by decide +kernel
theorem dX8_addWay_34 : decode cX8_addWay 34 = .ok (.iload_n 2, 1) := by decide +kernel
theorem dX8_addWay_35 : decode cX8_addWay 35 = .ok (.imul, 1) := by decide +kernel
theorem dX8_addWay_36 : decode cX8_addWay 36 = .ok (.iload 4, 2) := by decide +kernel
theorem dX8_addWay_38 : decode cX8_addWay 38 = .ok (.iadd, 1) := by decide +kernel
theorem dX8_addWay_39 : decode cX8_addWay 39 = .ok (.iaload, 1) := by decide +kernel
theorem dX8_addWay_40 : decode cX8_addWay 40 = .ok (.aload_n 0, 1) := by decide +kernel
theorem dX8_addWay_41 : decode cX8_addWay 41 = .ok (.getfield 31, 3) := by decide +kernel
theorem dX8_addWay_44 : decode cX8_addWay 44 = .ok (.iload 4, 2) := by decide +kernel
theorem dX8_addWay_46 : decode cX8_addWay 46 = .ok (.iaload, 1) := by decide +kernel
theorem dX8_addWay_47 : decode cX8_addWay 47 = .ok (.if_icmp .ne 7, 3) := by decide +kernel
theorem dX8_addWay_50 : decode cX8_addWay 50 = .ok (.iconst 1, 1) := by decide +kernel
theorem dX8_addWay_51 : decode cX8_addWay 51 = .ok (.goto 4, 3) := by decide +kernel
theorem dX8_addWay_54 : decode cX8_addWay 54 = .ok (.iconst 0, 1) := by decide +kernel
theorem dX8_addWay_55 : decode cX8_addWay 55 = .ok (.istore_n 3, 1) := by decide +kernel
theorem dX8_addWay_56 : decode cX8_addWay 56 = .ok (.iinc 4 1, 3) := by decide +kernel
theorem dX8_addWay_59 : decode cX8_addWay 59 = .ok (.goto (-42), 3) := by decide +kernel
theorem dX8_addWay_62 : decode cX8_addWay 62 = .ok (.iload_n 1, 1) := by decide +kernel
theorem dX8_addWay_63 : decode cX8_addWay 63 = .ok (.ifCond .eq 11, 3) := by decide +kernel
theorem dX8_addWay_66 : decode cX8_addWay 66 = .ok (.iload_n 3, 1) := by decide +kernel
theorem dX8_addWay_67 : decode cX8_addWay 67 = .ok (.ifCond .ne 7, 3) := by decide +kernel
theorem dX8_addWay_70 : decode cX8_addWay 70 = .ok (.iconst 1, 1) := by decide +kernel
theorem dX8_addWay_71 : decode cX8_addWay 71 = .ok (.goto 4, 3) := by decide +kernel
theorem dX8_addWay_74 : decode cX8_addWay 74 = .ok (.iconst 0, 1) := by decide +kernel
theorem dX8_addWay_75 : decode cX8_addWay 75 = .ok (.istore_n 1, 1) := by decide +kernel
theorem dX8_addWay_76 : decode cX8_addWay 76 = .ok (.iinc 2 1, 3) := by decide +kernel
theorem dX8_addWay_79 : decode cX8_addWay 79 = .ok (.goto (-75), 3) := by decide +kernel
theorem dX8_addWay_82 : decode cX8_addWay 82 = .ok (.iload_n 1, 1) := by decide +kernel
theorem dX8_addWay_83 : decode cX8_addWay 83 = .ok (.ifCond .eq 47, 3) := by decide +kernel
theorem dX8_addWay_86 : decode cX8_addWay 86 = .ok (.aload_n 0, 1) := by decide +kernel
theorem dX8_addWay_87 : decode cX8_addWay 87 = .ok (.getfield 152, 3) := by decide +kernel
theorem dX8_addWay_90 : decode cX8_addWay 90 = .ok (.sipush 300, 3) := by decide +kernel
theorem dX8_addWay_93 : decode cX8_addWay 93 = .ok (.if_icmp .ge 37, 3) := by decide +kernel
theorem dX8_addWay_96 : decode cX8_addWay 96 = .ok (.iconst 0, 1) := by decide +kernel
theorem dX8_addWay_97 : decode cX8_addWay 97 = .ok (.istore_n 2, 1) := by decide +kernel
theorem dX8_addWay_98 : decode cX8_addWay 98 = .ok (.iload_n 2, 1) := by decide +kernel
theorem dX8_addWay_99 : decode cX8_addWay 99 = .ok (.bipush 12, 2) := by decide +kernel
theorem dX8_addWay_101 : decode cX8_addWay 101 = .ok (.if_icmp .ge 29, 3) := by decide +kernel
theorem dX8_addWay_104 : decode cX8_addWay 104 = .ok (.aload_n 0, 1) := by decide +kernel
theorem dX8_addWay_105 : decode cX8_addWay 105 = .ok (.getfield 37, 3) := by decide +kernel
theorem dX8_addWay_108 : decode cX8_addWay 108 = .ok (.bipush 12, 2) := by decide +kernel
theorem dX8_addWay_110 : decode cX8_addWay 110 = .ok (.aload_n 0, 1) := by decide +kernel
theorem dX8_addWay_111 : decode cX8_addWay 111 = .ok (.getfield 152, 3) := by decide +kernel
theorem dX8_addWay_114 : decode cX8_addWay 114 = .ok (.imul, 1) := by decide +kernel
theorem dX8_addWay_115 : decode cX8_addWay 115 = .ok (.iload_n 2, 1) := by decide +kernel
theorem dX8_addWay_116 : decode cX8_addWay 116 = .ok (.iadd, 1) := by decide +kernel
theorem dX8_addWay_117 : decode cX8_addWay 117 = .ok (.aload_n 0, 1) := by decide +kernel
theorem dX8_addWay_118 : decode cX8_addWay 118 = .ok (.getfield 31, 3) := by decide +kernel
theorem dX8_addWay_121 : decode cX8_addWay 121 = .ok (.iload_n 2, 1) := by decide +kernel
theorem dX8_addWay_122 : decode cX8_addWay 122 = .ok (.iaload, 1) := by decide +kernel
theorem dX8_addWay_123 : decode cX8_addWay 123 = .ok (.iastore, 1) := by decide +kernel
theorem dX8_addWay_124 : decode cX8_addWay 124 = .ok (.iinc 2 1, 3) := by decide +kernel
theorem dX8_addWay_127 : decode cX8_addWay 127 = .ok (.goto (-29), 3) := by decide +kernel
theorem dX8_addWay_130 : decode cX8_addWay 130 = .ok (.aload_n 0, 1) := by decide +kernel
theorem dX8_addWay_131 : decode cX8_addWay 131 = .ok (.dup, 1) := by decide +kernel
theorem dX8_addWay_132 : decode cX8_addWay 132 = .ok (.getfield 152, 3) := by decide +kernel
theorem dX8_addWay_135 : decode cX8_addWay 135 = .ok (.iload_n 1, 1) := by decide +kernel
theorem dX8_addWay_136 : decode cX8_addWay 136 = .ok (.ifCond .eq 7, 3) := by decide +kernel
theorem dX8_addWay_139 : decode cX8_addWay 139 = .ok (.iconst 1, 1) := by decide +kernel
theorem dX8_addWay_140 : decode cX8_addWay 140 = .ok (.goto 4, 3) := by decide +kernel
theorem dX8_addWay_143 : decode cX8_addWay 143 = .ok (.iconst 0, 1) := by decide +kernel
theorem dX8_addWay_144 : decode cX8_addWay 144 = .ok (.iadd, 1) := by decide +kernel
theorem dX8_addWay_145 : decode cX8_addWay 145 = .ok (.putfield 152, 3) := by decide +kernel
theorem dX8_addWay_148 : decode cX8_addWay 148 = .ok (.return_, 1) := by decide +kernel
set_option maxRecDepth 20000 in
theorem ggX8_ways_X8_areDrafts : GoodIn wsX8_ways wsX8_areDrafts := goodIn_r _ [7, 8, 9, 6, 10] (by decide +kernel) (by decide +kernel)
set_option maxRecDepth 20000 in
theorem gX8_ways_X8_areDrafts : GoodIn wsX8_ways (va_wsS RX8 142 yX8_areDrafts wsX8_areDrafts) := goodIn_app (goodIn_of _ (by decide +kernel)) ggX8_ways_X8_areDrafts
set_option maxRecDepth 20000 in
theorem ggX8_ways_X8_layAll : GoodIn wsX8_ways wsX8_layAll := goodIn_r _ [14, 15, 16, 17, 6, 18, 19, 20, 21, 22, 23, 24, 25, 26, 27, 28, 29, 30, 31, 32, 33, 34, 35, 36, 45, 46, 47, 48, 49, 50, 51, 52, 53, 54, 55, 56, 57, 58, 59] (by decide +kernel) (by decide +kernel)
set_option maxRecDepth 20000 in
theorem gX8_ways_X8_layAll : GoodIn wsX8_ways (wsV RX8 145 RX8 yX8_layAll wsX8_layAll) := goodIn_app (goodIn_of _ (by decide +kernel)) ggX8_ways_X8_layAll
set_option maxRecDepth 20000 in
theorem ggX8_ways_X8_addWay : GoodIn wsX8_ways wsX8_addWay := goodIn_r _ [40, 1, 3, 2, 45, 46, 47, 48, 49, 50, 51, 52, 53, 54, 55, 56, 57, 58, 59] (by decide +kernel) (by decide +kernel)
set_option maxRecDepth 20000 in
theorem gX8_ways_X8_addWay : GoodIn wsX8_ways (wsV RX8 155 RX8 yX8_addWay wsX8_addWay) := goodIn_app (goodIn_of _ (by decide +kernel)) ggX8_ways_X8_addWay
set_option maxRecDepth 20000 in
theorem ggX8_ways_X8_comesBy : GoodIn wsX8_ways wsX8_comesBy := goodIn_r _ [44, 19, 45, 46, 47, 48, 49, 50, 51, 52, 53, 54, 55, 56, 57, 58, 59] (by decide +kernel) (by decide +kernel)
set_option maxRecDepth 20000 in
theorem gX8_ways_X8_comesBy : GoodIn wsX8_ways (wsV RX8 73 RX8 yX8_comesBy wsX8_comesBy) := goodIn_app (goodIn_of _ (by decide +kernel)) ggX8_ways_X8_comesBy
theorem dX8_ways_0 : decode cX8_ways 0 = .ok (.iload_n 1, 1) := by decide +kernel
theorem dX8_ways_1 : decode cX8_ways 1 = .ok (.invokestatic 142, 3) := by decide +kernel
theorem dX8_ways_4 : decode cX8_ways 4 = .ok (.ifCond .ne 6, 3) := by decide +kernel
theorem dX8_ways_7 : decode cX8_ways 7 = .ok (.bipush (-2), 2) := by decide +kernel
theorem dX8_ways_9 : decode cX8_ways 9 = .ok (.ireturn, 1) := by decide +kernel
theorem dX8_ways_10 : decode cX8_ways 10 = .ok (.aload_n 0, 1) := by decide +kernel
theorem dX8_ways_11 : decode cX8_ways 11 = .ok (.invokevirtual 145, 3) := by decide +kernel
theorem dX8_ways_14 : decode cX8_ways 14 = .ok (.aload_n 0, 1) := by decide +kernel
theorem dX8_ways_15 : decode cX8_ways 15 = .ok (.iconst 0, 1) := by decide +kernel
theorem dX8_ways_16 : decode cX8_ways 16 = .ok (.putfield 152, 3) := by decide +kernel
theorem dX8_ways_19 : decode cX8_ways 19 = .ok (.iconst 0, 1) := by decide +kernel
theorem dX8_ways_20 : decode cX8_ways 20 = .ok (.istore_n 2, 1) := by decide +kernel
theorem dX8_ways_21 : decode cX8_ways 21 = .ok (.iload_n 2, 1) := by decide +kernel
theorem dX8_ways_22 : decode cX8_ways 22 = .ok (.bipush 12, 2) := by decide +kernel
theorem dX8_ways_24 : decode cX8_ways 24 = .ok (.if_icmp .ge 16, 3) := by decide +kernel
theorem dX8_ways_27 : decode cX8_ways 27 = .ok (.aload_n 0, 1) := by decide +kernel
theorem dX8_ways_28 : decode cX8_ways 28 = .ok (.getfield 31, 3) := by decide +kernel
theorem dX8_ways_31 : decode cX8_ways 31 = .ok (.iload_n 2, 1) := by decide +kernel
theorem dX8_ways_32 : decode cX8_ways 32 = .ok (.iload_n 2, 1) := by decide +kernel
theorem dX8_ways_33 : decode cX8_ways 33 = .ok (.iastore, 1) := by decide +kernel
theorem dX8_ways_34 : decode cX8_ways 34 = .ok (.iinc 2 1, 3) := by decide +kernel
theorem dX8_ways_37 : decode cX8_ways 37 = .ok (.goto (-16), 3) := by decide +kernel
theorem dX8_ways_40 : decode cX8_ways 40 = .ok (.aload_n 0, 1) := by decide +kernel
theorem dX8_ways_41 : decode cX8_ways 41 = .ok (.invokevirtual 155, 3) := by decide +kernel
theorem dX8_ways_44 : decode cX8_ways 44 = .ok (.iconst 0, 1) := by decide +kernel
theorem dX8_ways_45 : decode cX8_ways 45 = .ok (.istore_n 2, 1) := by decide +kernel
theorem dX8_ways_46 : decode cX8_ways 46 = .ok (.iload_n 2, 1) := by decide +kernel
theorem dX8_ways_47 : decode cX8_ways 47 = .ok (.aload_n 0, 1) := by decide +kernel
theorem dX8_ways_48 : decode cX8_ways 48 = .ok (.getfield 152, 3) := by decide +kernel
theorem dX8_ways_51 : decode cX8_ways 51 = .ok (.if_icmp .ge 96, 3) := by decide +kernel
theorem dX8_ways_54 : decode cX8_ways 54 = .ok (.aload_n 0, 1) := by decide +kernel
theorem dX8_ways_55 : decode cX8_ways 55 = .ok (.getfield 152, 3) := by decide +kernel
theorem dX8_ways_58 : decode cX8_ways 58 = .ok (.sipush 300, 3) := by decide +kernel
theorem dX8_ways_61 : decode cX8_ways 61 = .ok (.if_icmp .gt 86, 3) := by decide +kernel
theorem dX8_ways_64 : decode cX8_ways 64 = .ok (.iconst 0, 1) := by decide +kernel
theorem dX8_ways_65 : decode cX8_ways 65 = .ok (.istore_n 3, 1) := by decide +kernel
theorem dX8_ways_66 : decode cX8_ways 66 = .ok (.iload_n 3, 1) := by decide +kernel
theorem dX8_ways_67 : decode cX8_ways 67 = .ok (.bipush 6, 2) := by decide +kernel
theorem dX8_ways_69 : decode cX8_ways 69 = .ok (.if_icmp .ge 72, 3) := by decide +kernel
theorem dX8_ways_72 : decode cX8_ways 72 = .ok (.aload_n 0, 1) := by decide +kernel
theorem dX8_ways_73 : decode cX8_ways 73 = .ok (.getfield 152, 3) := by decide +kernel
theorem dX8_ways_76 : decode cX8_ways 76 = .ok (.sipush 300, 3) := by decide +kernel
theorem dX8_ways_79 : decode cX8_ways 79 = .ok (.if_icmp .gt 62, 3) := by decide +kernel
theorem dX8_ways_82 : decode cX8_ways 82 = .ok (.iload_n 1, 1) := by decide +kernel
theorem dX8_ways_83 : decode cX8_ways 83 = .ok (.iload_n 3, 1) := by decide +kernel
theorem dX8_ways_84 : decode cX8_ways 84 = .ok (.ishr, 1) := by decide +kernel
theorem dX8_ways_85 : decode cX8_ways 85 = .ok (.iconst 1, 1) := by decide +kernel
theorem dX8_ways_86 : decode cX8_ways 86 = .ok (.iand, 1) := by decide +kernel
theorem dX8_ways_87 : decode cX8_ways 87 = .ok (.iconst 1, 1) := by decide +kernel
theorem dX8_ways_88 : decode cX8_ways 88 = .ok (.if_icmp .ne 47, 3) := by decide +kernel
theorem dX8_ways_91 : decode cX8_ways 91 = .ok (.iconst 0, 1) := by decide +kernel
theorem dX8_ways_92 : decode cX8_ways 92 = .ok (.istore 4, 2) := by decide +kernel
theorem dX8_ways_94 : decode cX8_ways 94 = .ok (.iload 4, 2) := by decide +kernel
theorem dX8_ways_96 : decode cX8_ways 96 = .ok (.bipush 12, 2) := by decide +kernel
theorem dX8_ways_98 : decode cX8_ways 98 = .ok (.if_icmp .ge 33, 3) := by decide +kernel
theorem dX8_ways_101 : decode cX8_ways 101 = .ok (.aload_n 0, 1) := by decide +kernel
theorem dX8_ways_102 : decode cX8_ways 102 = .ok (.getfield 31, 3) := by decide +kernel
theorem dX8_ways_105 : decode cX8_ways 105 = .ok (.iload 4, 2) := by decide +kernel
theorem dX8_ways_107 : decode cX8_ways 107 = .ok (.aload_n 0, 1) := by decide +kernel
theorem dX8_ways_108 : decode cX8_ways 108 = .ok (.iload_n 3, 1) := by decide +kernel
theorem dX8_ways_109 : decode cX8_ways 109 = .ok (.aload_n 0, 1) := by decide +kernel
theorem dX8_ways_110 : decode cX8_ways 110 = .ok (.getfield 37, 3) := by decide +kernel
theorem dX8_ways_113 : decode cX8_ways 113 = .ok (.bipush 12, 2) := by decide +kernel
theorem dX8_ways_115 : decode cX8_ways 115 = .ok (.iload_n 2, 1) := by decide +kernel
theorem dX8_ways_116 : decode cX8_ways 116 = .ok (.imul, 1) := by decide +kernel
theorem dX8_ways_117 : decode cX8_ways 117 = .ok (.iload 4, 2) := by decide +kernel
theorem dX8_ways_119 : decode cX8_ways 119 = .ok (.iadd, 1) := by decide +kernel
theorem dX8_ways_120 : decode cX8_ways 120 = .ok (.iaload, 1) := by decide +kernel
theorem dX8_ways_121 : decode cX8_ways 121 = .ok (.invokevirtual 73, 3) := by decide +kernel
theorem dX8_ways_124 : decode cX8_ways 124 = .ok (.iastore, 1) := by decide +kernel
theorem dX8_ways_125 : decode cX8_ways 125 = .ok (.iinc 4 1, 3) := by decide +kernel
theorem dX8_ways_128 : decode cX8_ways 128 = .ok (.goto (-34), 3) := by decide +kernel
theorem dX8_ways_131 : decode cX8_ways 131 = .ok (.aload_n 0, 1) := by decide +kernel
theorem dX8_ways_132 : decode cX8_ways 132 = .ok (.invokevirtual 155, 3) := by decide +kernel
theorem dX8_ways_135 : decode cX8_ways 135 = .ok (.iinc 3 1, 3) := by decide +kernel
theorem dX8_ways_138 : decode cX8_ways 138 = .ok (.goto (-72), 3) := by decide +kernel
theorem dX8_ways_141 : decode cX8_ways 141 = .ok (.iinc 2 1, 3) := by decide +kernel
theorem dX8_ways_144 : decode cX8_ways 144 = .ok (.goto (-98), 3) := by decide +kernel
theorem dX8_ways_147 : decode cX8_ways 147 = .ok (.aload_n 0, 1) := by decide +kernel
theorem dX8_ways_148 : decode cX8_ways 148 = .ok (.getfield 152, 3) := by decide +kernel
theorem dX8_ways_151 : decode cX8_ways 151 = .ok (.sipush 300, 3) := by decide +kernel
theorem dX8_ways_154 : decode cX8_ways 154 = .ok (.if_icmp .le 8, 3) := by decide +kernel
theorem dX8_ways_157 : decode cX8_ways 157 = .ok (.bipush (-6), 2) := by decide +kernel
theorem dX8_ways_159 : decode cX8_ways 159 = .ok (.goto 7, 3) := by decide +kernel
theorem dX8_ways_162 : decode cX8_ways 162 = .ok (.aload_n 0, 1) := by decide +kernel
theorem dX8_ways_163 : decode cX8_ways 163 = .ok (.getfield 152, 3) := by decide +kernel
theorem dX8_ways_166 : decode cX8_ways 166 = .ok (.ireturn, 1) := by decide +kernel
set_option maxRecDepth 20000 in
theorem ggX8_untilHome_X8_isDraft : GoodIn wsX8_untilHome wsX8_isDraft := goodIn_r _ [4, 5, 6, 3, 7] (by decide +kernel) (by decide +kernel)
set_option maxRecDepth 20000 in
theorem gX8_untilHome_X8_isDraft : GoodIn wsX8_untilHome (va_wsS RX8 99 yX8_isDraft wsX8_isDraft) := goodIn_app (goodIn_of _ (by decide +kernel)) ggX8_untilHome_X8_isDraft
set_option maxRecDepth 20000 in
theorem ggX8_untilHome_X8_lay : GoodIn wsX8_untilHome wsX8_lay := goodIn_r _ [11, 12, 13, 14, 15, 3, 16, 17, 18, 19, 20, 21, 22, 23, 24, 25, 26, 27, 28, 29, 56, 57, 58, 59, 60, 61, 62, 63, 64, 65, 66, 67, 68, 69, 70] (by decide +kernel) (by decide +kernel)
set_option maxRecDepth 20000 in
theorem gX8_untilHome_X8_lay : GoodIn wsX8_untilHome (wsV RX8 69 RX8 yX8_lay wsX8_lay) := goodIn_app (goodIn_of _ (by decide +kernel)) ggX8_untilHome_X8_lay
set_option maxRecDepth 20000 in
theorem ggX8_untilHome_X8_orderOf : GoodIn wsX8_untilHome wsX8_orderOf := goodIn_r _ [33, 34, 35, 36, 3, 37, 38, 39, 40, 41, 12, 56, 57, 58, 59, 60, 61, 62, 63, 64, 65, 66, 67, 68, 69, 70] (by decide +kernel) (by decide +kernel)
set_option maxRecDepth 20000 in
theorem gX8_untilHome_X8_orderOf : GoodIn wsX8_untilHome (wsV RX8 117 RX8 yX8_orderOf wsX8_orderOf) := goodIn_app (goodIn_of _ (by decide +kernel)) ggX8_untilHome_X8_orderOf
set_option maxRecDepth 20000 in
theorem ggX8_untilHome_X8_takeThreads : GoodIn wsX8_untilHome wsX8_takeThreads := goodIn_r _ [45, 46, 17, 56, 57, 58, 59, 60, 61, 62, 63, 64, 65, 66, 67, 68, 69, 70] (by decide +kernel) (by decide +kernel)
set_option maxRecDepth 20000 in
theorem gX8_untilHome_X8_takeThreads : GoodIn wsX8_untilHome (wsV RX8 79 RX8 yX8_takeThreads wsX8_takeThreads) := goodIn_app (goodIn_of _ (by decide +kernel)) ggX8_untilHome_X8_takeThreads
set_option maxRecDepth 20000 in
theorem ggX8_untilHome_X8_homeNow : GoodIn wsX8_untilHome wsX8_homeNow := goodIn_r _ [50, 46, 56, 57, 58, 59, 60, 61, 62, 63, 64, 65, 66, 67, 68, 69, 70] (by decide +kernel) (by decide +kernel)
set_option maxRecDepth 20000 in
theorem gX8_untilHome_X8_homeNow : GoodIn wsX8_untilHome (wsV RX8 158 RX8 yX8_homeNow wsX8_homeNow) := goodIn_app (goodIn_of _ (by decide +kernel)) ggX8_untilHome_X8_homeNow
set_option maxRecDepth 20000 in
theorem ggX8_untilHome_X8_weaveOnce : GoodIn wsX8_untilHome wsX8_weaveOnce := goodIn_r _ [54, 55, 46, 38, 39, 40, 3, 41, 12, 56, 57, 58, 59, 60, 61, 62, 63, 64, 65, 66, 67, 68, 69, 70] (by decide +kernel) (by decide +kernel)
set_option maxRecDepth 20000 in
theorem gX8_untilHome_X8_weaveOnce : GoodIn wsX8_untilHome (wsV RX8 82 RX8 yX8_weaveOnce wsX8_weaveOnce) := goodIn_app (goodIn_of _ (by decide +kernel)) ggX8_untilHome_X8_weaveOnce
theorem dX8_untilHome_0 : decode cX8_untilHome 0 = .ok (.iload_n 1, 1) := by decide +kernel
theorem dX8_untilHome_1 : decode cX8_untilHome 1 = .ok (.invokestatic 99, 3) := by decide +kernel
theorem dX8_untilHome_4 : decode cX8_untilHome 4 = .ok (.ifCond .ne 5, 3) := by decide +kernel
theorem dX8_untilHome_7 : decode cX8_untilHome 7 = .ok (.iconst (-1), 1) := by decide +kernel
theorem dX8_untilHome_8 : decode cX8_untilHome 8 = .ok (.ireturn, 1) := by decide +kernel
theorem dX8_untilHome_9 : decode cX8_untilHome 9 = .ok (.aload_n 0, 1) := by decide +kernel
theorem dX8_untilHome_10 : decode cX8_untilHome 10 = .ok (.iload_n 1, 1) := by decide +kernel
theorem dX8_untilHome_11 : decode cX8_untilHome 11 = .ok (.invokevirtual 69, 3) := by decide +kernel
theorem dX8_untilHome_14 : decode cX8_untilHome 14 = .ok (.aload_n 0, 1) := by decide +kernel
theorem dX8_untilHome_15 : decode cX8_untilHome 15 = .ok (.iload_n 1, 1) := by decide +kernel
theorem dX8_untilHome_16 : decode cX8_untilHome 16 = .ok (.invokevirtual 117, 3) := by decide +kernel
theorem dX8_untilHome_19 : decode cX8_untilHome 19 = .ok (.istore_n 2, 1) := by decide +kernel
theorem dX8_untilHome_20 : decode cX8_untilHome 20 = .ok (.aload_n 0, 1) := by decide +kernel
theorem dX8_untilHome_21 : decode cX8_untilHome 21 = .ok (.invokevirtual 79, 3) := by decide +kernel
theorem dX8_untilHome_24 : decode cX8_untilHome 24 = .ok (.iconst 0, 1) := by decide +kernel
theorem dX8_untilHome_25 : decode cX8_untilHome 25 = .ok (.istore_n 3, 1) := by decide +kernel
theorem dX8_untilHome_26 : decode cX8_untilHome 26 = .ok (.iload_n 3, 1) := by decide +kernel
theorem dX8_untilHome_27 : decode cX8_untilHome 27 = .ok (.iload_n 2, 1) := by decide +kernel
theorem dX8_untilHome_28 : decode cX8_untilHome 28 = .ok (.if_icmp .ge 23, 3) := by decide +kernel
theorem dX8_untilHome_31 : decode cX8_untilHome 31 = .ok (.aload_n 0, 1) := by decide +kernel
theorem dX8_untilHome_32 : decode cX8_untilHome 32 = .ok (.invokevirtual 158, 3) := by decide +kernel
theorem dX8_untilHome_35 : decode cX8_untilHome 35 = .ok (.bipush 12, 2) := by decide +kernel
theorem dX8_untilHome_37 : decode cX8_untilHome 37 = .ok (.if_icmp .ge 14, 3) := by decide +kernel
theorem dX8_untilHome_40 : decode cX8_untilHome 40 = .ok (.aload_n 0, 1) := by decide +kernel
theorem dX8_untilHome_41 : decode cX8_untilHome 41 = .ok (.iload_n 1, 1) := by decide +kernel
theorem dX8_untilHome_42 : decode cX8_untilHome 42 = .ok (.invokevirtual 82, 3) := by decide +kernel
theorem dX8_untilHome_45 : decode cX8_untilHome 45 = .ok (.iinc 3 1, 3) := by decide +kernel
theorem dX8_untilHome_48 : decode cX8_untilHome 48 = .ok (.goto (-22), 3) := by decide +kernel
theorem dX8_untilHome_51 : decode cX8_untilHome 51 = .ok (.iload_n 3, 1) := by decide +kernel
theorem dX8_untilHome_52 : decode cX8_untilHome 52 = .ok (.iload_n 2, 1) := by decide +kernel
theorem dX8_untilHome_53 : decode cX8_untilHome 53 = .ok (.if_icmp .ge 7, 3) := by decide +kernel
theorem dX8_untilHome_56 : decode cX8_untilHome 56 = .ok (.iload_n 3, 1) := by decide +kernel
theorem dX8_untilHome_57 : decode cX8_untilHome 57 = .ok (.goto 5, 3) := by decide +kernel
theorem dX8_untilHome_60 : decode cX8_untilHome 60 = .ok (.bipush (-6), 2) := by decide +kernel
theorem dX8_untilHome_62 : decode cX8_untilHome 62 = .ok (.ireturn, 1) := by decide +kernel
set_option maxRecDepth 20000 in
theorem ggX8_bestDraft_X8_within : GoodIn wsX8_bestDraft wsX8_within := goodIn_r _ [4] (by decide +kernel) (by decide +kernel)
set_option maxRecDepth 20000 in
theorem gX8_bestDraft_X8_within : GoodIn wsX8_bestDraft (va_wsS RX8 40 yX8_within wsX8_within) := goodIn_app (goodIn_of _ (by decide +kernel)) ggX8_bestDraft_X8_within
set_option maxRecDepth 20000 in
theorem ggX8_bestDraft_X8_lay : GoodIn wsX8_bestDraft wsX8_lay := goodIn_r _ [8, 9, 10, 11, 12, 3, 13, 14, 15, 16, 17, 18, 19, 20, 21, 22, 23, 24, 25, 26, 45, 46, 47, 48, 49, 50, 51, 52, 53, 54, 55, 56, 57, 58, 59] (by decide +kernel) (by decide +kernel)
set_option maxRecDepth 20000 in
theorem gX8_bestDraft_X8_lay : GoodIn wsX8_bestDraft (wsV RX8 69 RX8 yX8_lay wsX8_lay) := goodIn_app (goodIn_of _ (by decide +kernel)) ggX8_bestDraft_X8_lay
set_option maxRecDepth 20000 in
theorem ggX8_bestDraft_X8_takeThreads : GoodIn wsX8_bestDraft wsX8_takeThreads := goodIn_r _ [30, 31, 14, 45, 46, 47, 48, 49, 50, 51, 52, 53, 54, 55, 56, 57, 58, 59] (by decide +kernel) (by decide +kernel)
set_option maxRecDepth 20000 in
theorem gX8_bestDraft_X8_takeThreads : GoodIn wsX8_bestDraft (wsV RX8 79 RX8 yX8_takeThreads wsX8_takeThreads) := goodIn_app (goodIn_of _ (by decide +kernel)) ggX8_bestDraft_X8_takeThreads
set_option maxRecDepth 20000 in
theorem ggX8_bestDraft_X8_weaveOnce : GoodIn wsX8_bestDraft wsX8_weaveOnce := goodIn_r _ [35, 36, 31, 37, 38, 39, 3, 40, 9, 45, 46, 47, 48, 49, 50, 51, 52, 53, 54, 55, 56, 57, 58, 59] (by decide +kernel) (by decide +kernel)
set_option maxRecDepth 20000 in
theorem gX8_bestDraft_X8_weaveOnce : GoodIn wsX8_bestDraft (wsV RX8 82 RX8 yX8_weaveOnce wsX8_weaveOnce) := goodIn_app (goodIn_of _ (by decide +kernel)) ggX8_bestDraft_X8_weaveOnce
set_option maxRecDepth 20000 in
theorem ggX8_bestDraft_X8_homeNow : GoodIn wsX8_bestDraft wsX8_homeNow := goodIn_r _ [44, 31, 45, 46, 47, 48, 49, 50, 51, 52, 53, 54, 55, 56, 57, 58, 59] (by decide +kernel) (by decide +kernel)
set_option maxRecDepth 20000 in
theorem gX8_bestDraft_X8_homeNow : GoodIn wsX8_bestDraft (wsV RX8 158 RX8 yX8_homeNow wsX8_homeNow) := goodIn_app (goodIn_of _ (by decide +kernel)) ggX8_bestDraft_X8_homeNow
theorem dX8_bestDraft_0 : decode cX8_bestDraft 0 = .ok (.iload_n 1, 1) := by decide +kernel
theorem dX8_bestDraft_1 : decode cX8_bestDraft 1 = .ok (.iconst 0, 1) := by decide +kernel
theorem dX8_bestDraft_2 : decode cX8_bestDraft 2 = .ok (.iconst 1, 1) := by decide +kernel
theorem dX8_bestDraft_3 : decode cX8_bestDraft 3 = .ok (.invokestatic 40, 3) := by decide +kernel
theorem dX8_bestDraft_6 : decode cX8_bestDraft 6 = .ok (.ifCond .ne 6, 3) := by decide +kernel
theorem dX8_bestDraft_9 : decode cX8_bestDraft 9 = .ok (.bipush (-2), 2) := by decide +kernel
theorem dX8_bestDraft_11 : decode cX8_bestDraft 11 = .ok (.ireturn, 1) := by decide +kernel
theorem dX8_bestDraft_12 : decode cX8_bestDraft 12 = .ok (.iconst 0, 1) := by decide +kernel
theorem dX8_bestDraft_13 : decode cX8_bestDraft 13 = .ok (.istore_n 2, 1) := by decide +kernel
theorem dX8_bestDraft_14 : decode cX8_bestDraft 14 = .ok (.iconst (-1), 1) := by decide +kernel
theorem dX8_bestDraft_15 : decode cX8_bestDraft 15 = .ok (.istore_n 3, 1) := by decide +kernel
theorem dX8_bestDraft_16 : decode cX8_bestDraft 16 = .ok (.iconst 0, 1) := by decide +kernel
theorem dX8_bestDraft_17 : decode cX8_bestDraft 17 = .ok (.istore 4, 2) := by decide +kernel
theorem dX8_bestDraft_19 : decode cX8_bestDraft 19 = .ok (.iload 4, 2) := by decide +kernel
theorem dX8_bestDraft_21 : decode cX8_bestDraft 21 = .ok (.bipush 6, 2) := by decide +kernel
theorem dX8_bestDraft_23 : decode cX8_bestDraft 23 = .ok (.if_icmp .ge 57, 3) := by decide +kernel
theorem dX8_bestDraft_26 : decode cX8_bestDraft 26 = .ok (.aload_n 0, 1) := by decide +kernel
theorem dX8_bestDraft_27 : decode cX8_bestDraft 27 = .ok (.iload 4, 2) := by decide +kernel
theorem dX8_bestDraft_29 : decode cX8_bestDraft 29 = .ok (.invokevirtual 69, 3) := by decide +kernel
theorem dX8_bestDraft_32 : decode cX8_bestDraft 32 = .ok (.aload_n 0, 1) := by decide +kernel
theorem dX8_bestDraft_33 : decode cX8_bestDraft 33 = .ok (.invokevirtual 79, 3) := by decide +kernel
theorem dX8_bestDraft_36 : decode cX8_bestDraft 36 = .ok (.aload_n 0, 1) := by decide +kernel
theorem dX8_bestDraft_37 : decode cX8_bestDraft 37 = .ok (.iload 4, 2) := by decide +kernel
theorem dX8_bestDraft_39 : decode cX8_bestDraft 39 = .ok (.invokevirtual 82, 3) := by decide +kernel
theorem dX8_bestDraft_42 : decode cX8_bestDraft 42 = .ok (.aload_n 0, 1) := by decide +kernel
theorem dX8_bestDraft_43 : decode cX8_bestDraft 43 = .ok (.invokevirtual 158, 3) := by decide +kernel
theorem dX8_bestDraft_46 : decode cX8_bestDraft 46 = .ok (.iload_n 3, 1) := by decide +kernel
theorem dX8_bestDraft_47 : decode cX8_bestDraft 47 = .ok (.if_icmp .le 8, 3) := by decide +kernel
theorem dX8_bestDraft_50 : decode cX8_bestDraft 50 = .ok (.iload 4, 2) := by decide +kernel
theorem dX8_bestDraft_52 : decode cX8_bestDraft 52 = .ok (.goto 4, 3) := by decide +kernel
theorem dX8_bestDraft_55 : decode cX8_bestDraft 55 = .ok (.iload_n 2, 1) := by decide +kernel
theorem dX8_bestDraft_56 : decode cX8_bestDraft 56 = .ok (.istore_n 2, 1) := by decide +kernel
theorem dX8_bestDraft_57 : decode cX8_bestDraft 57 = .ok (.aload_n 0, 1) := by decide +kernel
theorem dX8_bestDraft_58 : decode cX8_bestDraft 58 = .ok (.invokevirtual 158, 3) := by decide +kernel
theorem dX8_bestDraft_61 : decode cX8_bestDraft 61 = .ok (.iload_n 3, 1) := by decide +kernel
theorem dX8_bestDraft_62 : decode cX8_bestDraft 62 = .ok (.if_icmp .le 10, 3) := by decide +kernel
theorem dX8_bestDraft_65 : decode cX8_bestDraft 65 = .ok (.aload_n 0, 1) := by decide +kernel
theorem dX8_bestDraft_66 : decode cX8_bestDraft 66 = .ok (.invokevirtual 158, 3) := by decide +kernel
theorem dX8_bestDraft_69 : decode cX8_bestDraft 69 = .ok (.goto 4, 3) := by decide +kernel
theorem dX8_bestDraft_72 : decode cX8_bestDraft 72 = .ok (.iload_n 3, 1) := by decide +kernel
theorem dX8_bestDraft_73 : decode cX8_bestDraft 73 = .ok (.istore_n 3, 1) := by decide +kernel
theorem dX8_bestDraft_74 : decode cX8_bestDraft 74 = .ok (.iinc 4 1, 3) := by decide +kernel
theorem dX8_bestDraft_77 : decode cX8_bestDraft 77 = .ok (.goto (-58), 3) := by decide +kernel
theorem dX8_bestDraft_80 : decode cX8_bestDraft 80 = .ok (.iload_n 1, 1) := by decide +kernel
theorem dX8_bestDraft_81 : decode cX8_bestDraft 81 = .ok (.ifCond .ne 7, 3) := by decide +kernel
theorem dX8_bestDraft_84 : decode cX8_bestDraft 84 = .ok (.iload_n 2, 1) := by decide +kernel
theorem dX8_bestDraft_85 : decode cX8_bestDraft 85 = .ok (.goto 4, 3) := by decide +kernel
theorem dX8_bestDraft_88 : decode cX8_bestDraft 88 = .ok (.iload_n 3, 1) := by decide +kernel
theorem dX8_bestDraft_89 : decode cX8_bestDraft 89 = .ok (.ireturn, 1) := by decide +kernel
theorem dX8_codeAt_0 : decode cX8_codeAt 0 = .ok (.lload_n 0, 1) := by decide +kernel
theorem dX8_codeAt_1 : decode cX8_codeAt 1 = .ok (.bipush 8, 2) := by decide +kernel
theorem dX8_codeAt_3 : decode cX8_codeAt 3 = .ok (.iload_n 2, 1) := by decide +kernel
theorem dX8_codeAt_4 : decode cX8_codeAt 4 = .ok (.imul, 1) := by decide +kernel
theorem dX8_codeAt_5 : decode cX8_codeAt 5 = .ok (.lushr, 1) := by decide +kernel
theorem dX8_codeAt_6 : decode cX8_codeAt 6 = .ok (.ldc2_w 161, 3) := by decide +kernel
theorem dX8_codeAt_9 : decode cX8_codeAt 9 = .ok (.land, 1) := by decide +kernel
theorem dX8_codeAt_10 : decode cX8_codeAt 10 = .ok (.l2i, 1) := by decide +kernel
theorem dX8_codeAt_11 : decode cX8_codeAt 11 = .ok (.ireturn, 1) := by decide +kernel
set_option maxRecDepth 20000 in
theorem ggX8_charactersIn_X8_codeAt : GoodIn wsX8_charactersIn wsX8_codeAt := goodIn_r _ [4, 5] (by decide +kernel) (by decide +kernel)
set_option maxRecDepth 20000 in
theorem gX8_charactersIn_X8_codeAt : GoodIn wsX8_charactersIn (va_wsS RX8 163 yX8_codeAt wsX8_codeAt) := goodIn_app (goodIn_of _ (by decide +kernel)) ggX8_charactersIn_X8_codeAt
set_option maxRecDepth 20000 in
theorem ggX8_charactersIn_X8_within : GoodIn wsX8_charactersIn wsX8_within := goodIn_r _ [8] (by decide +kernel) (by decide +kernel)
set_option maxRecDepth 20000 in
theorem gX8_charactersIn_X8_within : GoodIn wsX8_charactersIn (va_wsS RX8 40 yX8_within wsX8_within) := goodIn_app (goodIn_of _ (by decide +kernel)) ggX8_charactersIn_X8_within
theorem dX8_charactersIn_0 : decode cX8_charactersIn 0 = .ok (.iconst 0, 1) := by decide +kernel
theorem dX8_charactersIn_1 : decode cX8_charactersIn 1 = .ok (.istore_n 2, 1) := by decide +kernel
theorem dX8_charactersIn_2 : decode cX8_charactersIn 2 = .ok (.iload_n 2, 1) := by decide +kernel
theorem dX8_charactersIn_3 : decode cX8_charactersIn 3 = .ok (.bipush 8, 2) := by decide +kernel
theorem dX8_charactersIn_5 : decode cX8_charactersIn 5 = .ok (.if_icmp .ge 17, 3) := by decide +kernel
theorem dX8_charactersIn_8 : decode cX8_charactersIn 8 = .ok (.lload_n 0, 1) := by decide +kernel
theorem dX8_charactersIn_9 : decode cX8_charactersIn 9 = .ok (.iload_n 2, 1) := by decide +kernel
theorem dX8_charactersIn_10 : decode cX8_charactersIn 10 = .ok (.invokestatic 163, 3) := by decide +kernel
theorem dX8_charactersIn_13 : decode cX8_charactersIn 13 = .ok (.ifCond .eq 9, 3) := by decide +kernel
theorem dX8_charactersIn_16 : decode cX8_charactersIn 16 = .ok (.iinc 2 1, 3) := by decide +kernel
theorem dX8_charactersIn_19 : decode cX8_charactersIn 19 = .ok (.goto (-17), 3) := by decide +kernel
theorem dX8_charactersIn_22 : decode cX8_charactersIn 22 = .ok (.iload_n 2, 1) := by decide +kernel
theorem dX8_charactersIn_23 : decode cX8_charactersIn 23 = .ok (.bipush 8, 2) := by decide +kernel
theorem dX8_charactersIn_25 : decode cX8_charactersIn 25 = .ok (.if_icmp .eq 14, 3) := by decide +kernel
theorem dX8_charactersIn_28 : decode cX8_charactersIn 28 = .ok (.lload_n 0, 1) := by decide +kernel
theorem dX8_charactersIn_29 : decode cX8_charactersIn 29 = .ok (.bipush 8, 2) := by decide +kernel
theorem dX8_charactersIn_31 : decode cX8_charactersIn 31 = .ok (.iload_n 2, 1) := by decide +kernel
theorem dX8_charactersIn_32 : decode cX8_charactersIn 32 = .ok (.imul, 1) := by decide +kernel
theorem dX8_charactersIn_33 : decode cX8_charactersIn 33 = .ok (.lushr, 1) := by decide +kernel
theorem dX8_charactersIn_34 : decode cX8_charactersIn 34 = .ok (.lconst 0, 1) := by decide +kernel
theorem dX8_charactersIn_35 : decode cX8_charactersIn 35 = .ok (.lcmp, 1) := by decide +kernel
theorem dX8_charactersIn_36 : decode cX8_charactersIn 36 = .ok (.ifCond .ne 7, 3) := by decide +kernel
theorem dX8_charactersIn_39 : decode cX8_charactersIn 39 = .ok (.iconst 1, 1) := by decide +kernel
theorem dX8_charactersIn_40 : decode cX8_charactersIn 40 = .ok (.goto 4, 3) := by decide +kernel
theorem dX8_charactersIn_43 : decode cX8_charactersIn 43 = .ok (.iconst 0, 1) := by decide +kernel
theorem dX8_charactersIn_44 : decode cX8_charactersIn 44 = .ok (.istore_n 3, 1) := by decide +kernel
theorem dX8_charactersIn_45 : decode cX8_charactersIn 45 = .ok (.iconst 0, 1) := by decide +kernel
theorem dX8_charactersIn_46 : decode cX8_charactersIn 46 = .ok (.istore 4, 2) := by decide +kernel
theorem dX8_charactersIn_48 : decode cX8_charactersIn 48 = .ok (.iload 4, 2) := by decide +kernel
theorem dX8_charactersIn_50 : decode cX8_charactersIn 50 = .ok (.iload_n 2, 1) := by decide +kernel
theorem dX8_charactersIn_51 : decode cX8_charactersIn 51 = .ok (.if_icmp .ge 35, 3) := by decide +kernel
theorem dX8_charactersIn_54 : decode cX8_charactersIn 54 = .ok (.iload_n 3, 1) := by decide +kernel
theorem dX8_charactersIn_55 : decode cX8_charactersIn 55 = .ok (.ifCond .eq 23, 3) := by decide +kernel
theorem dX8_charactersIn_58 : decode cX8_charactersIn 58 = .ok (.lload_n 0, 1) := by decide +kernel
theorem dX8_charactersIn_59 : decode cX8_charactersIn 59 = .ok (.iload 4, 2) := by decide +kernel
theorem dX8_charactersIn_61 : decode cX8_charactersIn 61 = .ok (.invokestatic 163, 3) := by decide +kernel
theorem dX8_charactersIn_64 : decode cX8_charactersIn 64 = .ok (.bipush 33, 2) := by decide +kernel
theorem dX8_charactersIn_66 : decode cX8_charactersIn 66 = .ok (.bipush 126, 2) := by decide +kernel
theorem dX8_charactersIn_68 : decode cX8_charactersIn 68 = .ok (.invokestatic 40, 3) := by decide +kernel
theorem dX8_charactersIn_71 : decode cX8_charactersIn 71 = .ok (.ifCond .eq 7, 3) := by decide +kernel
theorem dX8_charactersIn_74 : decode cX8_charactersIn 74 = .ok (.iconst 1, 1) := by decide +kernel
theorem dX8_charactersIn_75 : decode cX8_charactersIn 75 = .ok (.goto 4, 3) := by decide +kernel
theorem dX8_charactersIn_78 : decode cX8_charactersIn 78 = .ok (.iconst 0, 1) := by decide +kernel
theorem dX8_charactersIn_79 : decode cX8_charactersIn 79 = .ok (.istore_n 3, 1) := by decide +kernel
theorem dX8_charactersIn_80 : decode cX8_charactersIn 80 = .ok (.iinc 4 1, 3) := by decide +kernel
theorem dX8_charactersIn_83 : decode cX8_charactersIn 83 = .ok (.goto (-35), 3) := by decide +kernel
theorem dX8_charactersIn_86 : decode cX8_charactersIn 86 = .ok (.iload_n 3, 1) := by decide +kernel
theorem dX8_charactersIn_87 : decode cX8_charactersIn 87 = .ok (.ifCond .eq 7, 3) := by decide +kernel
theorem dX8_charactersIn_90 : decode cX8_charactersIn 90 = .ok (.iload_n 2, 1) := by decide +kernel
theorem dX8_charactersIn_91 : decode cX8_charactersIn 91 = .ok (.goto 4, 3) := by decide +kernel
theorem dX8_charactersIn_94 : decode cX8_charactersIn 94 = .ok (.iconst 0, 1) := by decide +kernel
theorem dX8_charactersIn_95 : decode cX8_charactersIn 95 = .ok (.ireturn, 1) := by decide +kernel
set_option maxRecDepth 20000 in
theorem ggX8_write_X8_charactersIn : GoodIn wsX8_write wsX8_charactersIn := goodIn_r _ [6, 7, 8, 5, 9, 10, 11, 12, 13] (by decide +kernel) (by decide +kernel)
set_option maxRecDepth 20000 in
theorem gX8_write_X8_charactersIn : GoodIn wsX8_write (va_wsS RX8 167 yX8_charactersIn wsX8_charactersIn) := goodIn_app (goodIn_of _ (by decide +kernel)) ggX8_write_X8_charactersIn
set_option maxRecDepth 20000 in
theorem ggX8_write_X8_codeAt : GoodIn wsX8_write wsX8_codeAt := goodIn_r _ [9, 10] (by decide +kernel) (by decide +kernel)
set_option maxRecDepth 20000 in
theorem gX8_write_X8_codeAt : GoodIn wsX8_write (va_wsS RX8 163 yX8_codeAt wsX8_codeAt) := goodIn_app (goodIn_of _ (by decide +kernel)) ggX8_write_X8_codeAt
theorem dX8_write_0 : decode cX8_write 0 = .ok (.lload_n 1, 1) := by decide +kernel
theorem dX8_write_1 : decode cX8_write 1 = .ok (.invokestatic 167, 3) := by decide +kernel
theorem dX8_write_4 : decode cX8_write 4 = .ok (.istore_n 3, 1) := by decide +kernel
theorem dX8_write_5 : decode cX8_write 5 = .ok (.iload_n 3, 1) := by decide +kernel
theorem dX8_write_6 : decode cX8_write 6 = .ok (.ifCond .ne 6, 3) := by decide +kernel
theorem dX8_write_9 : decode cX8_write 9 = .ok (.bipush (-2), 2) := by decide +kernel
theorem dX8_write_11 : decode cX8_write 11 = .ok (.ireturn, 1) := by decide +kernel
theorem dX8_write_12 : decode cX8_write 12 = .ok (.aload_n 0, 1) := by decide +kernel
theorem dX8_write_13 : decode cX8_write 13 = .ok (.getfield 105, 3) := by decide +kernel
theorem dX8_write_16 : decode cX8_write 16 = .ok (.iload_n 3, 1) := by decide +kernel
theorem dX8_write_17 : decode cX8_write 17 = .ok (.iadd, 1) := by decide +kernel
theorem dX8_write_18 : decode cX8_write 18 = .ok (.bipush 40, 2) := by decide +kernel
theorem dX8_write_20 : decode cX8_write 20 = .ok (.if_icmp .le 6, 3) := by decide +kernel
theorem dX8_write_23 : decode cX8_write 23 = .ok (.bipush (-4), 2) := by decide +kernel
theorem dX8_write_25 : decode cX8_write 25 = .ok (.ireturn, 1) := by decide +kernel
theorem dX8_write_26 : decode cX8_write 26 = .ok (.iload_n 3, 1) := by decide +kernel
theorem dX8_write_27 : decode cX8_write 27 = .ok (.iconst 1, 1) := by decide +kernel
theorem dX8_write_28 : decode cX8_write 28 = .ok (.isub, 1) := by decide +kernel
theorem dX8_write_29 : decode cX8_write 29 = .ok (.istore 4, 2) := by decide +kernel
theorem dX8_write_31 : decode cX8_write 31 = .ok (.iload 4, 2) := by decide +kernel
theorem dX8_write_33 : decode cX8_write 33 = .ok (.ifCond .lt 34, 3) := by decide +kernel
theorem dX8_write_36 : decode cX8_write 36 = .ok (.aload_n 0, 1) := by decide +kernel
theorem dX8_write_37 : decode cX8_write 37 = .ok (.getfield 22, 3) := by decide +kernel
theorem dX8_write_40 : decode cX8_write 40 = .ok (.aload_n 0, 1) := by decide +kernel
theorem dX8_write_41 : decode cX8_write 41 = .ok (.getfield 105, 3) := by decide +kernel
theorem dX8_write_44 : decode cX8_write 44 = .ok (.lload_n 1, 1) := by decide +kernel
theorem dX8_write_45 : decode cX8_write 45 = .ok (.iload 4, 2) := by decide +kernel
theorem dX8_write_47 : decode cX8_write 47 = .ok (.invokestatic 163, 3) := by decide +kernel
theorem dX8_write_50 : decode cX8_write 50 = .ok (.iastore, 1) := by decide +kernel
theorem dX8_write_51 : decode cX8_write 51 = .ok (.aload_n 0, 1) := by decide +kernel
theorem dX8_write_52 : decode cX8_write 52 = .ok (.dup, 1) := by decide +kernel
theorem dX8_write_53 : decode cX8_write 53 = .ok (.getfield 105, 3) := by decide +kernel
theorem dX8_write_56 : decode cX8_write 56 = .ok (.iconst 1, 1) := by decide +kernel
theorem dX8_write_57 : decode cX8_write 57 = .ok (.iadd, 1) := by decide +kernel
theorem dX8_write_58 : decode cX8_write 58 = .ok (.putfield 105, 3) := by decide +kernel
theorem dX8_write_61 : decode cX8_write 61 = .ok (.iinc 4 (-1), 3) := by decide +kernel
theorem dX8_write_64 : decode cX8_write 64 = .ok (.goto (-33), 3) := by decide +kernel
theorem dX8_write_67 : decode cX8_write 67 = .ok (.aload_n 0, 1) := by decide +kernel
theorem dX8_write_68 : decode cX8_write 68 = .ok (.getfield 105, 3) := by decide +kernel
theorem dX8_write_71 : decode cX8_write 71 = .ok (.ireturn, 1) := by decide +kernel
theorem dX8_wipe_0 : decode cX8_wipe 0 = .ok (.aload_n 0, 1) := by decide +kernel
theorem dX8_wipe_1 : decode cX8_wipe 1 = .ok (.getfield 105, 3) := by decide +kernel
theorem dX8_wipe_4 : decode cX8_wipe 4 = .ok (.istore_n 1, 1) := by decide +kernel
theorem dX8_wipe_5 : decode cX8_wipe 5 = .ok (.aload_n 0, 1) := by decide +kernel
theorem dX8_wipe_6 : decode cX8_wipe 6 = .ok (.iconst 0, 1) := by decide +kernel
theorem dX8_wipe_7 : decode cX8_wipe 7 = .ok (.putfield 105, 3) := by decide +kernel
theorem dX8_wipe_10 : decode cX8_wipe 10 = .ok (.iload_n 1, 1) := by decide +kernel
theorem dX8_wipe_11 : decode cX8_wipe 11 = .ok (.ireturn, 1) := by decide +kernel
theorem dX8_next_0 : decode cX8_next 0 = .ok (.aload_n 0, 1) := by decide +kernel
theorem dX8_next_1 : decode cX8_next 1 = .ok (.getfield 171, 3) := by decide +kernel
theorem dX8_next_4 : decode cX8_next 4 = .ok (.aload_n 0, 1) := by decide +kernel
theorem dX8_next_5 : decode cX8_next 5 = .ok (.getfield 105, 3) := by decide +kernel
theorem dX8_next_8 : decode cX8_next 8 = .ok (.if_icmp .ge 15, 3) := by decide +kernel
theorem dX8_next_11 : decode cX8_next 11 = .ok (.aload_n 0, 1) := by decide +kernel
theorem dX8_next_12 : decode cX8_next 12 = .ok (.getfield 22, 3) := by decide +kernel
theorem dX8_next_15 : decode cX8_next 15 = .ok (.aload_n 0, 1) := by decide +kernel
theorem dX8_next_16 : decode cX8_next 16 = .ok (.getfield 171, 3) := by decide +kernel
theorem dX8_next_19 : decode cX8_next 19 = .ok (.iaload, 1) := by decide +kernel
theorem dX8_next_20 : decode cX8_next 20 = .ok (.goto 4, 3) := by decide +kernel
theorem dX8_next_23 : decode cX8_next 23 = .ok (.iconst 0, 1) := by decide +kernel
theorem dX8_next_24 : decode cX8_next 24 = .ok (.ireturn, 1) := by decide +kernel
set_option maxRecDepth 20000 in
theorem ggX8_readsPress_X8_next : GoodIn wsX8_readsPress wsX8_next := goodIn_r _ [8, 2, 9, 10, 14, 15, 16, 17, 18, 19, 20, 21, 22, 23, 24, 25, 26, 27, 28] (by decide +kernel) (by decide +kernel)
set_option maxRecDepth 20000 in
theorem gX8_readsPress_X8_next : GoodIn wsX8_readsPress (wsV RX8 174 RX8 yX8_next wsX8_next) := goodIn_app (goodIn_of _ (by decide +kernel)) ggX8_readsPress_X8_next
set_option maxRecDepth 20000 in
theorem ggX8_readsPress_X8_within : GoodIn wsX8_readsPress wsX8_within := goodIn_r _ [13] (by decide +kernel) (by decide +kernel)
set_option maxRecDepth 20000 in
theorem gX8_readsPress_X8_within : GoodIn wsX8_readsPress (va_wsS RX8 40 yX8_within wsX8_within) := goodIn_app (goodIn_of _ (by decide +kernel)) ggX8_readsPress_X8_within
theorem dX8_readsPress_0 : decode cX8_readsPress 0 = .ok (.aload_n 0, 1) := by decide +kernel
theorem dX8_readsPress_1 : decode cX8_readsPress 1 = .ok (.invokevirtual 174, 3) := by decide +kernel
theorem dX8_readsPress_4 : decode cX8_readsPress 4 = .ok (.bipush 97, 2) := by decide +kernel
theorem dX8_readsPress_6 : decode cX8_readsPress 6 = .ok (.isub, 1) := by decide +kernel
theorem dX8_readsPress_7 : decode cX8_readsPress 7 = .ok (.istore_n 1, 1) := by decide +kernel
theorem dX8_readsPress_8 : decode cX8_readsPress 8 = .ok (.aload_n 0, 1) := by decide +kernel
theorem dX8_readsPress_9 : decode cX8_readsPress 9 = .ok (.invokevirtual 174, 3) := by decide +kernel
theorem dX8_readsPress_12 : decode cX8_readsPress 12 = .ok (.bipush 65, 2) := by decide +kernel
theorem dX8_readsPress_14 : decode cX8_readsPress 14 = .ok (.isub, 1) := by decide +kernel
theorem dX8_readsPress_15 : decode cX8_readsPress 15 = .ok (.istore_n 2, 1) := by decide +kernel
theorem dX8_readsPress_16 : decode cX8_readsPress 16 = .ok (.iload_n 1, 1) := by decide +kernel
theorem dX8_readsPress_17 : decode cX8_readsPress 17 = .ok (.iconst 0, 1) := by decide +kernel
theorem dX8_readsPress_18 : decode cX8_readsPress 18 = .ok (.iconst 5, 1) := by decide +kernel
theorem dX8_readsPress_19 : decode cX8_readsPress 19 = .ok (.invokestatic 40, 3) := by decide +kernel
theorem dX8_readsPress_22 : decode cX8_readsPress 22 = .ok (.ifCond .eq 7, 3) := by decide +kernel
theorem dX8_readsPress_25 : decode cX8_readsPress 25 = .ok (.iload_n 1, 1) := by decide +kernel
theorem dX8_readsPress_26 : decode cX8_readsPress 26 = .ok (.goto 21, 3) := by decide +kernel
theorem dX8_readsPress_29 : decode cX8_readsPress 29 = .ok (.iload_n 2, 1) := by decide +kernel
theorem dX8_readsPress_30 : decode cX8_readsPress 30 = .ok (.iconst 0, 1) := by decide +kernel
theorem dX8_readsPress_31 : decode cX8_readsPress 31 = .ok (.iconst 5, 1) := by decide +kernel
theorem dX8_readsPress_32 : decode cX8_readsPress 32 = .ok (.invokestatic 40, 3) := by decide +kernel
theorem dX8_readsPress_35 : decode cX8_readsPress 35 = .ok (.ifCond .eq 10, 3) := by decide +kernel
theorem dX8_readsPress_38 : decode cX8_readsPress 38 = .ok (.iload_n 2, 1) := by decide +kernel
theorem dX8_readsPress_39 : decode cX8_readsPress 39 = .ok (.bipush 6, 2) := by decide +kernel
theorem dX8_readsPress_41 : decode cX8_readsPress 41 = .ok (.iadd, 1) := by decide +kernel
theorem dX8_readsPress_42 : decode cX8_readsPress 42 = .ok (.goto 5, 3) := by decide +kernel
theorem dX8_readsPress_45 : decode cX8_readsPress 45 = .ok (.bipush (-6), 2) := by decide +kernel
theorem dX8_readsPress_47 : decode cX8_readsPress 47 = .ok (.istore_n 3, 1) := by decide +kernel
theorem dX8_readsPress_48 : decode cX8_readsPress 48 = .ok (.iload_n 3, 1) := by decide +kernel
theorem dX8_readsPress_49 : decode cX8_readsPress 49 = .ok (.bipush (-6), 2) := by decide +kernel
theorem dX8_readsPress_51 : decode cX8_readsPress 51 = .ok (.if_icmp .eq 12, 3) := by decide +kernel
theorem dX8_readsPress_54 : decode cX8_readsPress 54 = .ok (.aload_n 0, 1) := by decide +kernel
theorem dX8_readsPress_55 : decode cX8_readsPress 55 = .ok (.getfield 96, 3) := by decide +kernel
theorem dX8_readsPress_58 : decode cX8_readsPress 58 = .ok (.bipush 24, 2) := by decide +kernel
theorem dX8_readsPress_60 : decode cX8_readsPress 60 = .ok (.if_icmp .ne 5, 3) := by decide +kernel
theorem dX8_readsPress_63 : decode cX8_readsPress 63 = .ok (.iconst 0, 1) := by decide +kernel
theorem dX8_readsPress_64 : decode cX8_readsPress 64 = .ok (.ireturn, 1) := by decide +kernel
theorem dX8_readsPress_65 : decode cX8_readsPress 65 = .ok (.aload_n 0, 1) := by decide +kernel
theorem dX8_readsPress_66 : decode cX8_readsPress 66 = .ok (.dup, 1) := by decide +kernel
theorem dX8_readsPress_67 : decode cX8_readsPress 67 = .ok (.getfield 171, 3) := by decide +kernel
theorem dX8_readsPress_70 : decode cX8_readsPress 70 = .ok (.iconst 1, 1) := by decide +kernel
theorem dX8_readsPress_71 : decode cX8_readsPress 71 = .ok (.iadd, 1) := by decide +kernel
theorem dX8_readsPress_72 : decode cX8_readsPress 72 = .ok (.putfield 171, 3) := by decide +kernel
theorem dX8_readsPress_75 : decode cX8_readsPress 75 = .ok (.aload_n 0, 1) := by decide +kernel
theorem dX8_readsPress_76 : decode cX8_readsPress 76 = .ok (.invokevirtual 174, 3) := by decide +kernel
theorem dX8_readsPress_79 : decode cX8_readsPress 79 = .ok (.bipush 50, 2) := by decide +kernel
theorem dX8_readsPress_81 : decode cX8_readsPress 81 = .ok (.bipush 57, 2) := by decide +kernel
theorem dX8_readsPress_83 : decode cX8_readsPress 83 = .ok (.invokestatic 40, 3) := by decide +kernel
theorem dX8_readsPress_86 : decode cX8_readsPress 86 = .ok (.ifCond .eq 13, 3) := by decide +kernel
theorem dX8_readsPress_89 : decode cX8_readsPress 89 = .ok (.aload_n 0, 1) := by decide +kernel
theorem dX8_readsPress_90 : decode cX8_readsPress 90 = .ok (.invokevirtual 174, 3) := by decide +kernel
theorem dX8_readsPress_93 : decode cX8_readsPress 93 = .ok (.bipush 48, 2) := by decide +kernel
theorem dX8_readsPress_95 : decode cX8_readsPress 95 = .ok (.isub, 1) := by decide +kernel
theorem dX8_readsPress_96 : decode cX8_readsPress 96 = .ok (.goto 4, 3) := by decide +kernel
theorem dX8_readsPress_99 : decode cX8_readsPress 99 = .ok (.iconst 1, 1) := by decide +kernel
theorem dX8_readsPress_100 : decode cX8_readsPress 100 = .ok (.istore 4, 2) := by decide +kernel
theorem dX8_readsPress_102 : decode cX8_readsPress 102 = .ok (.aload_n 0, 1) := by decide +kernel
theorem dX8_readsPress_103 : decode cX8_readsPress 103 = .ok (.getfield 96, 3) := by decide +kernel
theorem dX8_readsPress_106 : decode cX8_readsPress 106 = .ok (.iload 4, 2) := by decide +kernel
theorem dX8_readsPress_108 : decode cX8_readsPress 108 = .ok (.iadd, 1) := by decide +kernel
theorem dX8_readsPress_109 : decode cX8_readsPress 109 = .ok (.bipush 24, 2) := by decide +kernel
theorem dX8_readsPress_111 : decode cX8_readsPress 111 = .ok (.if_icmp .le 5, 3) := by decide +kernel
theorem dX8_readsPress_114 : decode cX8_readsPress 114 = .ok (.iconst 0, 1) := by decide +kernel
theorem dX8_readsPress_115 : decode cX8_readsPress 115 = .ok (.ireturn, 1) := by decide +kernel
theorem dX8_readsPress_116 : decode cX8_readsPress 116 = .ok (.aload_n 0, 1) := by decide +kernel
theorem dX8_readsPress_117 : decode cX8_readsPress 117 = .ok (.dup, 1) := by decide +kernel
theorem dX8_readsPress_118 : decode cX8_readsPress 118 = .ok (.getfield 171, 3) := by decide +kernel
theorem dX8_readsPress_121 : decode cX8_readsPress 121 = .ok (.iload 4, 2) := by decide +kernel
theorem dX8_readsPress_123 : decode cX8_readsPress 123 = .ok (.iconst 1, 1) := by decide +kernel
theorem dX8_readsPress_124 : decode cX8_readsPress 124 = .ok (.if_icmp .le 7, 3) := by decide +kernel
theorem dX8_readsPress_127 : decode cX8_readsPress 127 = .ok (.iconst 1, 1) := by decide +kernel
theorem dX8_readsPress_128 : decode cX8_readsPress 128 = .ok (.goto 4, 3) := by decide +kernel
theorem dX8_readsPress_131 : decode cX8_readsPress 131 = .ok (.iconst 0, 1) := by decide +kernel
theorem dX8_readsPress_132 : decode cX8_readsPress 132 = .ok (.iadd, 1) := by decide +kernel
theorem dX8_readsPress_133 : decode cX8_readsPress 133 = .ok (.putfield 171, 3) := by decide +kernel
theorem dX8_readsPress_136 : decode cX8_readsPress 136 = .ok (.iconst 0, 1) := by decide +kernel
theorem dX8_readsPress_137 : decode cX8_readsPress 137 = .ok (.istore 5, 2) := by decide +kernel
theorem dX8_readsPress_139 : decode cX8_readsPress 139 = .ok (.iload 5, 2) := by decide +kernel
theorem dX8_readsPress_141 : decode cX8_readsPress 141 = .ok (.iload 4, 2) := by decide +kernel
theorem dX8_readsPress_143 : decode cX8_readsPress 143 = .ok (.if_icmp .ge 29, 3) := by decide +kernel
theorem dX8_readsPress_146 : decode cX8_readsPress 146 = .ok (.aload_n 0, 1) := by decide +kernel
theorem dX8_readsPress_147 : decode cX8_readsPress 147 = .ok (.getfield 25, 3) := by decide +kernel
theorem dX8_readsPress_150 : decode cX8_readsPress 150 = .ok (.aload_n 0, 1) := by decide +kernel
theorem dX8_readsPress_151 : decode cX8_readsPress 151 = .ok (.getfield 96, 3) := by decide +kernel
theorem dX8_readsPress_154 : decode cX8_readsPress 154 = .ok (.iload_n 3, 1) := by decide +kernel
theorem dX8_readsPress_155 : decode cX8_readsPress 155 = .ok (.iastore, 1) := by decide +kernel
theorem dX8_readsPress_156 : decode cX8_readsPress 156 = .ok (.aload_n 0, 1) := by decide +kernel
theorem dX8_readsPress_157 : decode cX8_readsPress 157 = .ok (.dup, 1) := by decide +kernel
theorem dX8_readsPress_158 : decode cX8_readsPress 158 = .ok (.getfield 96, 3) := by decide +kernel
theorem dX8_readsPress_161 : decode cX8_readsPress 161 = .ok (.iconst 1, 1) := by decide +kernel
theorem dX8_readsPress_162 : decode cX8_readsPress 162 = .ok (.iadd, 1) := by decide +kernel
theorem dX8_readsPress_163 : decode cX8_readsPress 163 = .ok (.putfield 96, 3) := by decide +kernel
theorem dX8_readsPress_166 : decode cX8_readsPress 166 = .ok (.iinc 5 1, 3) := by decide +kernel
theorem dX8_readsPress_169 : decode cX8_readsPress 169 = .ok (.goto (-30), 3) := by decide +kernel
theorem dX8_readsPress_172 : decode cX8_readsPress 172 = .ok (.iconst 1, 1) := by decide +kernel
theorem dX8_readsPress_173 : decode cX8_readsPress 173 = .ok (.ireturn, 1) := by decide +kernel
set_option maxRecDepth 20000 in
theorem ggX8_findFault_X8_readsPress : GoodIn wsX8_findFault wsX8_readsPress := goodIn_r _ [8, 2, 1, 9, 10, 11, 12, 7, 13, 3, 14, 15, 16, 17, 18, 19, 20, 21, 22, 23, 24, 25, 26, 27, 28, 29, 30, 31, 32] (by decide +kernel) (by decide +kernel)
set_option maxRecDepth 20000 in
theorem gX8_findFault_X8_readsPress : GoodIn wsX8_findFault (wsV RX8 177 RX8 yX8_readsPress wsX8_readsPress) := goodIn_app (goodIn_of _ (by decide +kernel)) ggX8_findFault_X8_readsPress
theorem dX8_findFault_0 : decode cX8_findFault 0 = .ok (.aload_n 0, 1) := by decide +kernel
theorem dX8_findFault_1 : decode cX8_findFault 1 = .ok (.iconst 0, 1) := by decide +kernel
theorem dX8_findFault_2 : decode cX8_findFault 2 = .ok (.putfield 171, 3) := by decide +kernel
theorem dX8_findFault_5 : decode cX8_findFault 5 = .ok (.aload_n 0, 1) := by decide +kernel
theorem dX8_findFault_6 : decode cX8_findFault 6 = .ok (.iconst 0, 1) := by decide +kernel
theorem dX8_findFault_7 : decode cX8_findFault 7 = .ok (.putfield 96, 3) := by decide +kernel
theorem dX8_findFault_10 : decode cX8_findFault 10 = .ok (.iconst 1, 1) := by decide +kernel
theorem dX8_findFault_11 : decode cX8_findFault 11 = .ok (.istore_n 1, 1) := by decide +kernel
theorem dX8_findFault_12 : decode cX8_findFault 12 = .ok (.iload_n 1, 1) := by decide +kernel
theorem dX8_findFault_13 : decode cX8_findFault 13 = .ok (.ifCond .eq 22, 3) := by decide +kernel
theorem dX8_findFault_16 : decode cX8_findFault 16 = .ok (.aload_n 0, 1) := by decide +kernel
theorem dX8_findFault_17 : decode cX8_findFault 17 = .ok (.getfield 171, 3) := by decide +kernel
theorem dX8_findFault_20 : decode cX8_findFault 20 = .ok (.aload_n 0, 1) := by decide +kernel
theorem dX8_findFault_21 : decode cX8_findFault 21 = .ok (.getfield 105, 3) := by decide +kernel
theorem dX8_findFault_24 : decode cX8_findFault 24 = .ok (.if_icmp .ge 11, 3) := by decide +kernel
theorem dX8_findFault_27 : decode cX8_findFault 27 = .ok (.aload_n 0, 1) := by decide +kernel
theorem dX8_findFault_28 : decode cX8_findFault 28 = .ok (.invokevirtual 177, 3) := by decide +kernel
theorem dX8_findFault_31 : decode cX8_findFault 31 = .ok (.istore_n 1, 1) := by decide +kernel
theorem dX8_findFault_32 : decode cX8_findFault 32 = .ok (.goto (-20), 3) := by decide +kernel
theorem dX8_findFault_35 : decode cX8_findFault 35 = .ok (.iload_n 1, 1) := by decide +kernel
theorem dX8_findFault_36 : decode cX8_findFault 36 = .ok (.ifCond .eq 15, 3) := by decide +kernel
theorem dX8_findFault_39 : decode cX8_findFault 39 = .ok (.aload_n 0, 1) := by decide +kernel
theorem dX8_findFault_40 : decode cX8_findFault 40 = .ok (.getfield 105, 3) := by decide +kernel
theorem dX8_findFault_43 : decode cX8_findFault 43 = .ok (.ifCond .le 8, 3) := by decide +kernel
theorem dX8_findFault_46 : decode cX8_findFault 46 = .ok (.bipush (-6), 2) := by decide +kernel
theorem dX8_findFault_48 : decode cX8_findFault 48 = .ok (.goto 7, 3) := by decide +kernel
theorem dX8_findFault_51 : decode cX8_findFault 51 = .ok (.aload_n 0, 1) := by decide +kernel
theorem dX8_findFault_52 : decode cX8_findFault 52 = .ok (.getfield 171, 3) := by decide +kernel
theorem dX8_findFault_55 : decode cX8_findFault 55 = .ok (.ireturn, 1) := by decide +kernel
set_option maxRecDepth 20000 in
theorem ggX8_fault_X8_findFault : GoodIn wsX8_fault wsX8_findFault := goodIn_r _ [5, 6, 7, 8, 9, 10, 11, 4, 12, 13, 14, 15, 16, 17, 18, 19, 20, 21, 22, 23, 24, 25, 26, 27, 28, 29, 30, 31, 32, 33, 34, 35, 36] (by decide +kernel) (by decide +kernel)
set_option maxRecDepth 20000 in
theorem gX8_fault_X8_findFault : GoodIn wsX8_fault (wsV RX8 102 RX8 yX8_findFault wsX8_findFault) := goodIn_app (goodIn_of _ (by decide +kernel)) ggX8_fault_X8_findFault
theorem dX8_fault_0 : decode cX8_fault 0 = .ok (.aload_n 0, 1) := by decide +kernel
theorem dX8_fault_1 : decode cX8_fault 1 = .ok (.invokevirtual 102, 3) := by decide +kernel
theorem dX8_fault_4 : decode cX8_fault 4 = .ok (.ireturn, 1) := by decide +kernel
theorem dJ6_bitCount_0f7a4_0 : decode cJ6_bitCount_0f7a4 0 = .ok (.iload_n 0, 1) := by decide +kernel
theorem dJ6_bitCount_0f7a4_1 : decode cJ6_bitCount_0f7a4 1 = .ok (.iload_n 0, 1) := by decide +kernel
theorem dJ6_bitCount_0f7a4_2 : decode cJ6_bitCount_0f7a4 2 = .ok (.iconst 1, 1) := by decide +kernel
theorem dJ6_bitCount_0f7a4_3 : decode cJ6_bitCount_0f7a4 3 = .ok (.iushr, 1) := by decide +kernel
theorem dJ6_bitCount_0f7a4_4 : decode cJ6_bitCount_0f7a4 4 = .ok (.ldc_w 265, 3) := by decide +kernel
theorem dJ6_bitCount_0f7a4_7 : decode cJ6_bitCount_0f7a4 7 = .ok (.iand, 1) := by decide +kernel
theorem dJ6_bitCount_0f7a4_8 : decode cJ6_bitCount_0f7a4 8 = .ok (.isub, 1) := by decide +kernel
theorem dJ6_bitCount_0f7a4_9 : decode cJ6_bitCount_0f7a4 9 = .ok (.istore_n 0, 1) := by decide +kernel
theorem dJ6_bitCount_0f7a4_10 : decode cJ6_bitCount_0f7a4 10 = .ok (.iload_n 0, 1) := by decide +kernel
theorem dJ6_bitCount_0f7a4_11 : decode cJ6_bitCount_0f7a4 11 = .ok (.ldc_w 266, 3) := by decide +kernel
theorem dJ6_bitCount_0f7a4_14 : decode cJ6_bitCount_0f7a4 14 = .ok (.iand, 1) := by decide +kernel
theorem dJ6_bitCount_0f7a4_15 : decode cJ6_bitCount_0f7a4 15 = .ok (.iload_n 0, 1) := by decide +kernel
theorem dJ6_bitCount_0f7a4_16 : decode cJ6_bitCount_0f7a4 16 = .ok (.iconst 2, 1) := by decide +kernel
theorem dJ6_bitCount_0f7a4_17 : decode cJ6_bitCount_0f7a4 17 = .ok (.iushr, 1) := by decide +kernel
theorem dJ6_bitCount_0f7a4_18 : decode cJ6_bitCount_0f7a4 18 = .ok (.ldc_w 266, 3) := by decide +kernel
theorem dJ6_bitCount_0f7a4_21 : decode cJ6_bitCount_0f7a4 21 = .ok (.iand, 1) := by decide +kernel
theorem dJ6_bitCount_0f7a4_22 : decode cJ6_bitCount_0f7a4 22 = .ok (.iadd, 1) := by decide +kernel
theorem dJ6_bitCount_0f7a4_23 : decode cJ6_bitCount_0f7a4 23 = .ok (.istore_n 0, 1) := by decide +kernel
theorem dJ6_bitCount_0f7a4_24 : decode cJ6_bitCount_0f7a4 24 = .ok (.iload_n 0, 1) := by decide +kernel
theorem dJ6_bitCount_0f7a4_25 : decode cJ6_bitCount_0f7a4 25 = .ok (.iload_n 0, 1) := by decide +kernel
theorem dJ6_bitCount_0f7a4_26 : decode cJ6_bitCount_0f7a4 26 = .ok (.iconst 4, 1) := by decide +kernel
theorem dJ6_bitCount_0f7a4_27 : decode cJ6_bitCount_0f7a4 27 = .ok (.iushr, 1) := by decide +kernel
theorem dJ6_bitCount_0f7a4_28 : decode cJ6_bitCount_0f7a4 28 = .ok (.iadd, 1) := by decide +kernel
theorem dJ6_bitCount_0f7a4_29 : decode cJ6_bitCount_0f7a4 29 = .ok (.ldc_w 267, 3) := by decide +kernel
theorem dJ6_bitCount_0f7a4_32 : decode cJ6_bitCount_0f7a4 32 = .ok (.iand, 1) := by decide +kernel
theorem dJ6_bitCount_0f7a4_33 : decode cJ6_bitCount_0f7a4 33 = .ok (.istore_n 0, 1) := by decide +kernel
theorem dJ6_bitCount_0f7a4_34 : decode cJ6_bitCount_0f7a4 34 = .ok (.iload_n 0, 1) := by decide +kernel
theorem dJ6_bitCount_0f7a4_35 : decode cJ6_bitCount_0f7a4 35 = .ok (.iload_n 0, 1) := by decide +kernel
theorem dJ6_bitCount_0f7a4_36 : decode cJ6_bitCount_0f7a4 36 = .ok (.bipush 8, 2) := by decide +kernel
theorem dJ6_bitCount_0f7a4_38 : decode cJ6_bitCount_0f7a4 38 = .ok (.iushr, 1) := by decide +kernel
theorem dJ6_bitCount_0f7a4_39 : decode cJ6_bitCount_0f7a4 39 = .ok (.iadd, 1) := by decide +kernel
theorem dJ6_bitCount_0f7a4_40 : decode cJ6_bitCount_0f7a4 40 = .ok (.istore_n 0, 1) := by decide +kernel
theorem dJ6_bitCount_0f7a4_41 : decode cJ6_bitCount_0f7a4 41 = .ok (.iload_n 0, 1) := by decide +kernel
theorem dJ6_bitCount_0f7a4_42 : decode cJ6_bitCount_0f7a4 42 = .ok (.iload_n 0, 1) := by decide +kernel
theorem dJ6_bitCount_0f7a4_43 : decode cJ6_bitCount_0f7a4 43 = .ok (.bipush 16, 2) := by decide +kernel
theorem dJ6_bitCount_0f7a4_45 : decode cJ6_bitCount_0f7a4 45 = .ok (.iushr, 1) := by decide +kernel
theorem dJ6_bitCount_0f7a4_46 : decode cJ6_bitCount_0f7a4 46 = .ok (.iadd, 1) := by decide +kernel
theorem dJ6_bitCount_0f7a4_47 : decode cJ6_bitCount_0f7a4 47 = .ok (.istore_n 0, 1) := by decide +kernel
theorem dJ6_bitCount_0f7a4_48 : decode cJ6_bitCount_0f7a4 48 = .ok (.iload_n 0, 1) := by decide +kernel
theorem dJ6_bitCount_0f7a4_49 : decode cJ6_bitCount_0f7a4 49 = .ok (.bipush 63, 2) := by decide +kernel
theorem dJ6_bitCount_0f7a4_51 : decode cJ6_bitCount_0f7a4 51 = .ok (.iand, 1) := by decide +kernel
theorem dJ6_bitCount_0f7a4_52 : decode cJ6_bitCount_0f7a4 52 = .ok (.ireturn, 1) := by decide +kernel
set_option maxRecDepth 20000 in
theorem ggL_law_X7_init : GoodIn wsL_law wsX7_init := goodIn_r _ [9, 10, 11, 12, 13, 14, 15, 16, 17, 18, 19, 20, 21, 22, 23, 24, 25, 26, 27, 28, 29, 30, 31, 32, 33, 34, 35, 36, 37, 38, 39, 40, 41, 42, 43, 44, 45, 46, 47, 48, 49, 50, 51, 52, 53, 54, 55, 56, 57, 58, 59, 60, 61, 62, 63, 64, 65, 66, 67, 68, 69, 70, 71, 72, 73, 74, 680, 681, 682, 683, 684, 685, 686, 659, 660, 661, 662, 663, 664, 687, 688, 689, 690, 691, 692, 693, 694, 695, 696, 697] (by decide +kernel) (by decide +kernel)
set_option maxRecDepth 20000 in
theorem gL_law_X7_init : GoodIn wsL_law (wsX7_init) := ggL_law_X7_init
set_option maxRecDepth 20000 in
theorem ggL_law_X8_init : GoodIn wsL_law wsX8_init := goodIn_r _ [77, 78, 11, 12, 43, 79, 80, 81, 82, 83, 84, 85, 86, 87, 88, 665, 666, 667, 668, 669, 670, 671, 672, 673, 674, 675, 676, 677, 678, 679] (by decide +kernel) (by decide +kernel)
set_option maxRecDepth 20000 in
theorem gL_law_X8_init : GoodIn wsL_law (wsX8_init) := ggL_law_X8_init
set_option maxRecDepth 20000 in
theorem ggL_law_X7_put : GoodIn wsL_law wsX7_put := goodIn_r _ [92, 20, 16, 93, 94, 95, 2, 96, 97, 98, 99, 19, 100, 59, 58, 57, 14, 15, 101, 102, 103, 104, 105, 35, 36, 37, 11, 12, 38, 39, 40, 41, 42, 43, 44, 45, 46, 47, 48, 31, 32, 49, 50, 51, 52, 53, 106, 107, 108, 109, 110, 111, 112, 113, 114, 115, 116, 117, 118, 119, 120, 121, 122, 123, 124, 125, 126, 127, 659, 660, 661, 662, 663, 664, 680, 681, 682, 683, 684, 685, 686, 687, 688, 696, 697] (by decide +kernel) (by decide +kernel)
set_option maxRecDepth 20000 in
theorem gL_law_X7_put : GoodIn wsL_law (wsV RL 13 RX7 yX7_put wsX7_put) := goodIn_app (goodIn_of _ (by decide +kernel)) ggL_law_X7_put
set_option maxRecDepth 20000 in
theorem ggL_law_X8_put : GoodIn wsL_law wsX8_put := goodIn_r _ [131, 79, 132, 133, 5, 134, 135, 136, 137, 138, 139, 140, 141, 142, 80, 665, 666, 667, 668, 669, 670, 671, 672, 673, 674, 675, 676, 677, 678, 679] (by decide +kernel) (by decide +kernel)
set_option maxRecDepth 20000 in
theorem gL_law_X8_put : GoodIn wsL_law (wsV RL 17 RX8 yX8_put wsX8_put) := goodIn_app (goodIn_of _ (by decide +kernel)) ggL_law_X8_put
set_option maxRecDepth 20000 in
theorem ggL_law_X7_tie : GoodIn wsL_law wsX7_tie := goodIn_r _ [146, 20, 16, 147, 94, 95, 2, 96, 97, 98, 99, 19, 100, 59, 58, 57, 14, 15, 101, 102, 103, 104, 105, 35, 36, 37, 11, 12, 38, 39, 40, 41, 42, 43, 44, 45, 46, 47, 48, 31, 32, 49, 50, 51, 52, 53, 106, 107, 108, 109, 110, 111, 112, 113, 114, 115, 116, 117, 118, 148, 149, 150, 151, 152, 120, 121, 122, 153, 154, 155, 156, 157, 158, 159, 160, 161, 659, 660, 661, 662, 663, 664, 680, 681, 682, 683, 684, 685, 686, 687, 688, 696, 697] (by decide +kernel) (by decide +kernel)
set_option maxRecDepth 20000 in
theorem gL_law_X7_tie : GoodIn wsL_law (wsV RL 18 RX7 yX7_tie wsX7_tie) := goodIn_app (goodIn_of _ (by decide +kernel)) ggL_law_X7_tie
set_option maxRecDepth 20000 in
theorem ggL_law_X8_tie : GoodIn wsL_law wsX8_tie := goodIn_r _ [165, 79, 135, 136, 5, 137, 138, 139, 140, 141, 142, 80, 166, 167, 168, 169, 170, 171, 172, 665, 666, 667, 668, 669, 670, 671, 672, 673, 674, 675, 676, 677, 678, 679] (by decide +kernel) (by decide +kernel)
set_option maxRecDepth 20000 in
theorem gL_law_X8_tie : GoodIn wsL_law (wsV RL 21 RX8 yX8_tie wsX8_tie) := goodIn_app (goodIn_of _ (by decide +kernel)) ggL_law_X8_tie
set_option maxRecDepth 20000 in
theorem ggL_law_X7_read : GoodIn wsL_law wsX7_read := goodIn_r _ [176, 16, 25, 33, 20, 177, 178, 179, 180, 181, 15, 182, 46, 95, 2, 96, 183, 184, 185, 24, 186, 187, 65, 64, 188, 189, 190, 191, 192, 193, 194, 195, 196, 32, 197, 53, 52, 97, 98, 99, 19, 100, 59, 58, 57, 14, 101, 102, 103, 104, 105, 35, 36, 37, 11, 12, 38, 39, 40, 41, 42, 43, 44, 45, 47, 48, 31, 49, 50, 51, 106, 107, 108, 109, 110, 111, 112, 113, 114, 115, 116, 117, 118, 198, 659, 660, 661, 662, 663, 664, 689, 690, 696, 697, 680, 681, 682, 683, 684, 685, 686, 687, 688] (by decide +kernel) (by decide +kernel)
set_option maxRecDepth 20000 in
theorem gL_law_X7_read : GoodIn wsL_law (wsV RL 22 RX7 yX7_read wsX7_read) := goodIn_app (goodIn_of _ (by decide +kernel)) ggL_law_X7_read
set_option maxRecDepth 20000 in
theorem ggL_law_X8_read : GoodIn wsL_law wsX8_read := goodIn_r _ [202, 203, 204, 205, 5, 206, 135, 136, 137, 207, 208, 209, 210, 211, 212, 213, 214, 215, 216, 84, 217, 218, 219, 220, 83, 221, 222, 223, 224, 79, 138, 139, 140, 141, 142, 80, 665, 666, 667, 668, 669, 670, 671, 672, 673, 674, 675, 676, 677, 678, 679] (by decide +kernel) (by decide +kernel)
set_option maxRecDepth 20000 in
theorem gL_law_X8_read : GoodIn wsL_law (wsV RL 26 RX8 yX8_read wsX8_read) := goodIn_app (goodIn_of _ (by decide +kernel)) ggL_law_X8_read
set_option maxRecDepth 20000 in
theorem ggL_law_X7_compose : GoodIn wsL_law wsX7_compose := goodIn_r _ [228, 16, 178, 20, 33, 179, 180, 181, 15, 182, 46, 95, 2, 96, 97, 98, 99, 19, 100, 59, 58, 57, 14, 101, 102, 103, 104, 105, 35, 36, 37, 11, 12, 38, 39, 40, 41, 42, 43, 44, 45, 47, 48, 31, 32, 49, 50, 51, 52, 53, 106, 107, 108, 109, 110, 111, 112, 113, 114, 115, 116, 117, 118, 229, 230, 231, 232, 233, 234, 235, 236, 237, 195, 196, 197, 198, 659, 660, 661, 662, 663, 664, 696, 697, 680, 681, 682, 683, 684, 685, 686, 687, 688] (by decide +kernel) (by decide +kernel)
set_option maxRecDepth 20000 in
theorem gL_law_X7_compose : GoodIn wsL_law (wsV RL 27 RX7 yX7_compose wsX7_compose) := goodIn_app (goodIn_of _ (by decide +kernel)) ggL_law_X7_compose
set_option maxRecDepth 20000 in
theorem ggL_law_X8_compose : GoodIn wsL_law wsX8_compose := goodIn_r _ [241, 212, 204, 205, 5, 206, 135, 136, 137, 242, 243, 244, 245, 79, 246, 247, 248, 249, 84, 250, 251, 252, 253, 221, 222, 223, 224, 138, 139, 140, 141, 142, 80, 665, 666, 667, 668, 669, 670, 671, 672, 673, 674, 675, 676, 677, 678, 679] (by decide +kernel) (by decide +kernel)
set_option maxRecDepth 20000 in
theorem gL_law_X8_compose : GoodIn wsL_law (wsV RL 31 RX8 yX8_compose wsX8_compose) := goodIn_app (goodIn_of _ (by decide +kernel)) ggL_law_X8_compose
set_option maxRecDepth 20000 in
theorem ggL_law_X7_turnRound : GoodIn wsL_law wsX7_turnRound := goodIn_r _ [257, 16, 20, 33, 178, 179, 180, 181, 15, 182, 46, 95, 2, 96, 97, 98, 99, 19, 100, 59, 58, 57, 14, 101, 102, 103, 104, 105, 35, 36, 37, 11, 12, 38, 39, 40, 41, 42, 43, 44, 45, 47, 48, 31, 32, 49, 50, 51, 52, 53, 106, 107, 108, 109, 110, 111, 112, 113, 114, 115, 116, 117, 118, 258, 259, 260, 261, 233, 234, 235, 236, 237, 195, 196, 197, 198, 659, 660, 661, 662, 663, 664, 696, 697, 680, 681, 682, 683, 684, 685, 686, 687, 688] (by decide +kernel) (by decide +kernel)
end
section
set_option maxRecDepth 20000 in
theorem gL_law_X7_turnRound : GoodIn wsL_law (wsV RL 32 RX7 yX7_turnRound wsX7_turnRound) := goodIn_app (goodIn_of _ (by decide +kernel)) ggL_law_X7_turnRound
set_option maxRecDepth 20000 in
theorem ggL_law_X8_turnRound : GoodIn wsL_law wsX8_turnRound := goodIn_r _ [265, 212, 84, 204, 205, 5, 206, 135, 136, 137, 242, 243, 244, 245, 79, 250, 251, 252, 253, 221, 222, 223, 224, 138, 139, 140, 141, 142, 80, 665, 666, 667, 668, 669, 670, 671, 672, 673, 674, 675, 676, 677, 678, 679] (by decide +kernel) (by decide +kernel)
set_option maxRecDepth 20000 in
theorem gL_law_X8_turnRound : GoodIn wsL_law (wsV RL 35 RX8 yX8_turnRound wsX8_turnRound) := goodIn_app (goodIn_of _ (by decide +kernel)) ggL_law_X8_turnRound
set_option maxRecDepth 20000 in
theorem ggL_law_X7_repeat : GoodIn wsL_law wsX7_repeat := goodIn_r _ [269, 16, 178, 20, 33, 179, 180, 181, 15, 182, 46, 95, 2, 96, 97, 98, 99, 19, 100, 59, 58, 57, 14, 101, 102, 103, 104, 105, 35, 36, 37, 11, 12, 38, 39, 40, 41, 42, 43, 44, 45, 47, 48, 31, 32, 49, 50, 51, 52, 53, 106, 107, 108, 109, 110, 111, 112, 113, 114, 115, 116, 117, 118, 229, 230, 231, 232, 233, 234, 235, 236, 237, 195, 196, 197, 198, 659, 660, 661, 662, 663, 664, 696, 697, 680, 681, 682, 683, 684, 685, 686, 687, 688] (by decide +kernel) (by decide +kernel)
set_option maxRecDepth 20000 in
theorem gL_law_X7_repeat : GoodIn wsL_law (wsV RL 36 RX7 yX7_repeat wsX7_repeat) := goodIn_app (goodIn_of _ (by decide +kernel)) ggL_law_X7_repeat
set_option maxRecDepth 20000 in
theorem ggL_law_X8_repeat : GoodIn wsL_law wsX8_repeat := goodIn_r _ [273, 212, 204, 205, 5, 206, 135, 136, 137, 242, 243, 244, 245, 79, 246, 247, 248, 249, 84, 250, 251, 252, 253, 221, 222, 223, 224, 138, 139, 140, 141, 142, 80, 665, 666, 667, 668, 669, 670, 671, 672, 673, 674, 675, 676, 677, 678, 679] (by decide +kernel) (by decide +kernel)
set_option maxRecDepth 20000 in
theorem gL_law_X8_repeat : GoodIn wsL_law (wsV RL 39 RX8 yX8_repeat wsX8_repeat) := goodIn_app (goodIn_of _ (by decide +kernel)) ggL_law_X8_repeat
set_option maxRecDepth 20000 in
theorem ggL_law_X7_weave : GoodIn wsL_law wsX7_weave := goodIn_r _ [277, 16, 20, 278, 279, 178, 280, 179, 180, 181, 15, 182, 46, 95, 2, 96, 97, 98, 99, 19, 100, 59, 58, 57, 14, 101, 102, 103, 104, 105, 35, 36, 37, 11, 12, 38, 39, 40, 41, 42, 43, 44, 45, 47, 48, 31, 32, 49, 50, 51, 52, 53, 106, 107, 108, 109, 110, 111, 112, 113, 114, 115, 116, 117, 118, 281, 282, 283, 284, 285, 286, 287, 234, 235, 236, 288, 289, 290, 291, 292, 149, 150, 151, 152, 120, 121, 122, 153, 154, 293, 294, 295, 296, 297, 298, 124, 125, 126, 127, 299, 300, 301, 302, 303, 304, 305, 306, 307, 308, 309, 310, 311, 312, 313, 314, 315, 316, 317, 318, 319, 320, 321, 156, 157, 158, 159, 160, 161, 659, 660, 661, 662, 663, 664, 680, 681, 682, 683, 684, 685, 686, 696, 697, 687, 688] (by decide +kernel) (by decide +kernel)
set_option maxRecDepth 20000 in
theorem gL_law_X7_weave : GoodIn wsL_law (wsV RL 40 RX7 yX7_weave wsX7_weave) := goodIn_app (goodIn_of _ (by decide +kernel)) ggL_law_X7_weave
set_option maxRecDepth 20000 in
theorem ggL_law_X8_weave : GoodIn wsL_law wsX8_weave := goodIn_r _ [325, 79, 86, 204, 205, 5, 206, 135, 136, 137, 138, 139, 140, 141, 142, 80, 326, 327, 328, 329, 85, 242, 243, 244, 245, 250, 251, 252, 253, 330, 331, 332, 333, 166, 167, 168, 169, 334, 335, 336, 337, 338, 339, 340, 341, 87, 342, 343, 344, 345, 346, 347, 348, 349, 665, 666, 667, 668, 669, 670, 671, 672, 673, 674, 675, 676, 677, 678, 679] (by decide +kernel) (by decide +kernel)
set_option maxRecDepth 20000 in
theorem gL_law_X8_weave : GoodIn wsL_law (wsV RL 43 RX8 yX8_weave wsX8_weave) := goodIn_app (goodIn_of _ (by decide +kernel)) ggL_law_X8_weave
set_option maxRecDepth 20000 in
theorem ggL_law_X7_dye : GoodIn wsL_law wsX7_dye := goodIn_r _ [353, 20, 16, 354, 94, 95, 2, 96, 97, 98, 99, 19, 100, 59, 58, 57, 14, 15, 101, 102, 103, 104, 105, 35, 36, 37, 11, 12, 38, 39, 40, 41, 42, 43, 44, 45, 46, 47, 48, 31, 32, 49, 50, 51, 52, 53, 106, 107, 108, 109, 110, 111, 112, 113, 114, 115, 116, 117, 118, 119, 120, 121, 122, 123, 124, 125, 126, 127, 659, 660, 661, 662, 663, 664, 680, 681, 682, 683, 684, 685, 686, 687, 688, 696, 697] (by decide +kernel) (by decide +kernel)
set_option maxRecDepth 20000 in
theorem gL_law_X7_dye : GoodIn wsL_law (wsV RL 44 RX7 yX7_dye wsX7_dye) := goodIn_app (goodIn_of _ (by decide +kernel)) ggL_law_X7_dye
set_option maxRecDepth 20000 in
theorem ggL_law_X8_dye : GoodIn wsL_law wsX8_dye := goodIn_r _ [358, 79, 132, 133, 5, 134, 135, 136, 137, 138, 139, 140, 141, 142, 80, 665, 666, 667, 668, 669, 670, 671, 672, 673, 674, 675, 676, 677, 678, 679] (by decide +kernel) (by decide +kernel)
set_option maxRecDepth 20000 in
theorem gL_law_X8_dye : GoodIn wsL_law (wsV RL 47 RX8 yX8_dye wsX8_dye) := goodIn_app (goodIn_of _ (by decide +kernel)) ggL_law_X8_dye
set_option maxRecDepth 20000 in
theorem ggL_law_X7_place : GoodIn wsL_law wsX7_place := goodIn_r _ [362, 16, 93, 278, 94, 95, 2, 96, 119, 120, 121, 122, 363, 364, 365, 15, 366, 41, 42, 306, 307, 295, 308, 309, 367, 368, 369, 370, 44, 39, 152, 153, 154, 659, 660, 661, 662, 663, 664, 680, 681, 682, 683, 684, 685, 686] (by decide +kernel) (by decide +kernel)
set_option maxRecDepth 20000 in
theorem gL_law_X7_place : GoodIn wsL_law (wsV RL 48 RX7 yX7_place wsX7_place) := goodIn_app (goodIn_of _ (by decide +kernel)) ggL_law_X7_place
set_option maxRecDepth 20000 in
theorem ggL_law_X8_place : GoodIn wsL_law wsX8_place := goodIn_r _ [374, 79, 132, 133, 5, 134, 135, 136, 137, 375, 376, 377, 378, 166, 167, 168, 169, 665, 666, 667, 668, 669, 670, 671, 672, 673, 674, 675, 676, 677, 678, 679] (by decide +kernel) (by decide +kernel)
set_option maxRecDepth 20000 in
theorem gL_law_X8_place : GoodIn wsL_law (wsV RL 51 RX8 yX8_place wsX8_place) := goodIn_app (goodIn_of _ (by decide +kernel)) ggL_law_X8_place
set_option maxRecDepth 20000 in
theorem ggL_law_X7_treadle : GoodIn wsL_law wsX7_treadle := goodIn_r _ [382, 16, 147, 94, 95, 2, 96, 148, 149, 150, 15, 151, 44, 39, 152, 120, 121, 122, 153, 154, 659, 660, 661, 662, 663, 664, 680, 681, 682, 683, 684, 685, 686] (by decide +kernel) (by decide +kernel)
set_option maxRecDepth 20000 in
theorem gL_law_X7_treadle : GoodIn wsL_law (wsV RL 52 RX7 yX7_treadle wsX7_treadle) := goodIn_app (goodIn_of _ (by decide +kernel)) ggL_law_X7_treadle
set_option maxRecDepth 20000 in
theorem ggL_law_X8_treadle : GoodIn wsL_law wsX8_treadle := goodIn_r _ [386, 79, 135, 136, 5, 137, 166, 167, 168, 169, 665, 666, 667, 668, 669, 670, 671, 672, 673, 674, 675, 676, 677, 678, 679] (by decide +kernel) (by decide +kernel)
set_option maxRecDepth 20000 in
theorem gL_law_X8_treadle : GoodIn wsL_law (wsV RL 55 RX8 yX8_treadle wsX8_treadle) := goodIn_app (goodIn_of _ (by decide +kernel)) ggL_law_X8_treadle
set_option maxRecDepth 20000 in
theorem ggL_law_X7_draft : GoodIn wsL_law wsX7_draft := goodIn_r _ [390, 16, 178, 391, 179, 180, 181, 15, 182, 46, 95, 2, 96, 281, 282, 283, 284, 40, 285, 286, 287, 234, 235, 32, 236, 52, 288, 289, 290, 291, 292, 149, 150, 151, 44, 39, 152, 120, 121, 122, 153, 154, 293, 294, 295, 296, 297, 298, 124, 125, 126, 127, 299, 300, 301, 302, 303, 304, 305, 306, 307, 308, 309, 392, 393, 394, 395, 319, 320, 396, 397, 398, 399, 400, 401, 402, 403, 404, 321, 156, 157, 158, 159, 160, 161, 405, 406, 407, 363, 364, 365, 366, 41, 42, 659, 660, 661, 662, 663, 664, 696, 697, 680, 681, 682, 683, 684, 685, 686] (by decide +kernel) (by decide +kernel)
set_option maxRecDepth 20000 in
theorem gL_law_X7_draft : GoodIn wsL_law (wsV RL 56 RX7 yX7_draft wsX7_draft) := goodIn_app (goodIn_of _ (by decide +kernel)) ggL_law_X7_draft
set_option maxRecDepth 20000 in
theorem ggL_law_X8_draft : GoodIn wsL_law wsX8_draft := goodIn_r _ [411, 204, 205, 5, 206, 135, 136, 137, 326, 327, 328, 329, 85, 242, 243, 244, 245, 79, 250, 251, 252, 253, 330, 331, 332, 333, 166, 167, 168, 169, 412, 413, 414, 415, 416, 417, 418, 419, 342, 343, 344, 345, 420, 421, 422, 423, 424, 425, 426, 427, 428, 429, 430, 431, 432, 433, 434, 435, 436, 437, 438, 439, 334, 335, 336, 337, 86, 338, 339, 340, 341, 87, 440, 441, 442, 443, 665, 666, 667, 668, 669, 670, 671, 672, 673, 674, 675, 676, 677, 678, 679] (by decide +kernel) (by decide +kernel)
set_option maxRecDepth 20000 in
theorem gL_law_X8_draft : GoodIn wsL_law (wsV RL 59 RX8 yX8_draft wsX8_draft) := goodIn_app (goodIn_of _ (by decide +kernel)) ggL_law_X8_draft
set_option maxRecDepth 20000 in
theorem ggL_law_X7_press : GoodIn wsL_law wsX7_press := goodIn_r _ [447, 16, 178, 179, 180, 181, 15, 182, 46, 95, 2, 96, 94, 448, 234, 235, 32, 236, 52, 659, 660, 661, 662, 663, 664, 696, 697, 680, 681, 682, 683, 684, 685, 686] (by decide +kernel) (by decide +kernel)
set_option maxRecDepth 20000 in
theorem gL_law_X7_press : GoodIn wsL_law (wsV RL 60 RX7 yX7_press wsX7_press) := goodIn_app (goodIn_of _ (by decide +kernel)) ggL_law_X7_press
set_option maxRecDepth 20000 in
theorem ggL_law_X8_press : GoodIn wsL_law wsX8_press := goodIn_r _ [452, 204, 205, 5, 206, 135, 136, 137, 242, 243, 244, 245, 79, 250, 251, 252, 253, 665, 666, 667, 668, 669, 670, 671, 672, 673, 674, 675, 676, 677, 678, 679] (by decide +kernel) (by decide +kernel)
set_option maxRecDepth 20000 in
theorem gL_law_X8_press : GoodIn wsL_law (wsV RL 63 RX8 yX8_press wsX8_press) := goodIn_app (goodIn_of _ (by decide +kernel)) ggL_law_X8_press
set_option maxRecDepth 20000 in
theorem ggL_law_X7_comesTo : GoodIn wsL_law wsX7_comesTo := goodIn_r _ [456, 457, 16, 94, 95, 2, 96, 281, 282, 283, 15, 284, 40, 285, 286, 180, 181, 182, 46, 287, 234, 235, 32, 236, 52, 288, 289, 290, 291, 292, 149, 150, 151, 44, 39, 152, 120, 121, 122, 153, 154, 293, 294, 295, 296, 297, 298, 124, 125, 126, 127, 299, 300, 301, 302, 303, 304, 305, 306, 307, 308, 309, 310, 311, 312, 313, 119, 659, 660, 661, 662, 663, 664, 696, 697, 680, 681, 682, 683, 684, 685, 686] (by decide +kernel) (by decide +kernel)
set_option maxRecDepth 20000 in
theorem gL_law_X7_comesTo : GoodIn wsL_law (wsV RL 64 RX7 yX7_comesTo wsX7_comesTo) := goodIn_app (goodIn_of _ (by decide +kernel)) ggL_law_X7_comesTo
set_option maxRecDepth 20000 in
theorem ggL_law_X8_comesTo : GoodIn wsL_law wsX8_comesTo := goodIn_r _ [461, 462, 204, 205, 5, 206, 135, 136, 137, 132, 133, 134, 326, 327, 328, 329, 85, 242, 243, 244, 245, 79, 250, 251, 252, 253, 330, 331, 332, 333, 166, 167, 168, 169, 416, 417, 418, 419, 342, 343, 344, 345, 665, 666, 667, 668, 669, 670, 671, 672, 673, 674, 675, 676, 677, 678, 679] (by decide +kernel) (by decide +kernel)
set_option maxRecDepth 20000 in
theorem gL_law_X8_comesTo : GoodIn wsL_law (wsV RL 67 RX8 yX8_comesTo wsX8_comesTo) := goodIn_app (goodIn_of _ (by decide +kernel)) ggL_law_X8_comesTo
set_option maxRecDepth 20000 in
theorem ggL_law_X7_count : GoodIn wsL_law wsX7_count := goodIn_r _ [466, 16, 278, 279, 280, 25, 177, 20, 467, 315, 316, 295, 317, 297, 318, 319, 320, 309, 120, 121, 122, 321, 156, 157, 158, 159, 160, 161, 468, 469, 470, 15, 471, 292, 149, 150, 151, 44, 39, 95, 2, 96, 152, 153, 154, 472, 473, 474, 475, 46, 285, 659, 660, 661, 662, 663, 664, 680, 681, 682, 683, 684, 685, 686, 689, 690, 687, 688, 696, 697] (by decide +kernel) (by decide +kernel)
set_option maxRecDepth 20000 in
theorem gL_law_X7_count : GoodIn wsL_law (wsV RL 68 RX7 yX7_count wsX7_count) := goodIn_app (goodIn_of _ (by decide +kernel)) ggL_law_X7_count
set_option maxRecDepth 20000 in
theorem ggL_law_X8_count : GoodIn wsL_law wsX8_count := goodIn_r _ [479, 79, 203, 142, 346, 347, 348, 5, 349, 480, 481, 482, 483, 375, 376, 377, 378, 166, 167, 168, 169, 484, 485, 486, 487, 242, 243, 244, 245, 665, 666, 667, 668, 669, 670, 671, 672, 673, 674, 675, 676, 677, 678, 679] (by decide +kernel) (by decide +kernel)
set_option maxRecDepth 20000 in
theorem gL_law_X8_count : GoodIn wsL_law (wsV RL 71 RX8 yX8_count wsX8_count) := goodIn_app (goodIn_of _ (by decide +kernel)) ggL_law_X8_count
set_option maxRecDepth 20000 in
theorem ggL_law_X7_kernel : GoodIn wsL_law wsX7_kernel := goodIn_r _ [491, 16, 391, 94, 95, 2, 96, 492, 153, 154, 281, 282, 283, 15, 284, 40, 285, 286, 180, 181, 182, 46, 287, 234, 235, 32, 236, 52, 288, 289, 290, 291, 292, 149, 150, 151, 44, 39, 152, 120, 121, 122, 293, 294, 295, 296, 297, 298, 124, 125, 126, 127, 299, 300, 301, 302, 303, 304, 305, 306, 307, 308, 309, 395, 319, 320, 659, 660, 661, 662, 663, 664, 696, 697, 680, 681, 682, 683, 684, 685, 686] (by decide +kernel) (by decide +kernel)
set_option maxRecDepth 20000 in
theorem gL_law_X7_kernel : GoodIn wsL_law (wsV RL 72 RX7 yX7_kernel wsX7_kernel) := goodIn_app (goodIn_of _ (by decide +kernel)) ggL_law_X7_kernel
set_option maxRecDepth 20000 in
theorem ggL_law_X8_kernel : GoodIn wsL_law wsX8_kernel := goodIn_r _ [496, 497, 498, 5, 499, 135, 136, 137, 500, 501, 502, 503, 326, 327, 328, 329, 85, 242, 243, 244, 245, 79, 250, 251, 252, 253, 330, 331, 332, 333, 166, 167, 168, 169, 420, 421, 422, 423, 342, 343, 344, 345, 665, 666, 667, 668, 669, 670, 671, 672, 673, 674, 675, 676, 677, 678, 679] (by decide +kernel) (by decide +kernel)
set_option maxRecDepth 20000 in
theorem gL_law_X8_kernel : GoodIn wsL_law (wsV RL 75 RX8 yX8_kernel wsX8_kernel) := goodIn_app (goodIn_of _ (by decide +kernel)) ggL_law_X8_kernel
set_option maxRecDepth 20000 in
theorem ggL_law_X7_orbit : GoodIn wsL_law wsX7_orbit := goodIn_r _ [507, 29, 94, 95, 2, 96, 508, 509, 510, 511, 512, 16, 492, 153, 154, 281, 282, 283, 15, 284, 40, 285, 286, 180, 181, 182, 46, 287, 234, 235, 32, 236, 52, 288, 289, 290, 291, 292, 149, 150, 151, 44, 39, 152, 120, 121, 122, 293, 294, 295, 296, 297, 298, 124, 125, 126, 127, 299, 300, 301, 302, 303, 304, 305, 306, 307, 308, 309, 513, 514, 515, 28, 516, 71, 70, 517, 518, 519, 520, 521, 522, 523, 524, 659, 660, 661, 662, 663, 664, 691, 692, 693, 694, 695, 696, 697, 680, 681, 682, 683, 684, 685, 686] (by decide +kernel) (by decide +kernel)
set_option maxRecDepth 20000 in
theorem gL_law_X7_orbit : GoodIn wsL_law (wsV RL 76 RX7 yX7_orbit wsX7_orbit) := goodIn_app (goodIn_of _ (by decide +kernel)) ggL_law_X7_orbit
set_option maxRecDepth 20000 in
theorem ggL_law_X8_orbit : GoodIn wsL_law wsX8_orbit := goodIn_r _ [528, 85, 132, 133, 5, 134, 135, 136, 137, 497, 498, 499, 500, 501, 502, 503, 326, 327, 328, 329, 242, 243, 244, 245, 79, 250, 251, 252, 253, 330, 331, 332, 333, 166, 167, 168, 169, 665, 666, 667, 668, 669, 670, 671, 672, 673, 674, 675, 676, 677, 678, 679] (by decide +kernel) (by decide +kernel)
set_option maxRecDepth 20000 in
theorem gL_law_X8_orbit : GoodIn wsL_law (wsV RL 79 RX8 yX8_orbit wsX8_orbit) := goodIn_app (goodIn_of _ (by decide +kernel)) ggL_law_X8_orbit
set_option maxRecDepth 20000 in
theorem ggL_law_X7_pair : GoodIn wsL_law wsX7_pair := goodIn_r _ [532, 16, 391, 94, 95, 2, 96, 281, 282, 283, 15, 284, 40, 285, 286, 180, 181, 182, 46, 287, 234, 235, 32, 236, 52, 288, 289, 290, 291, 292, 149, 150, 151, 44, 39, 152, 120, 121, 122, 153, 154, 293, 294, 295, 296, 297, 298, 124, 125, 126, 127, 299, 300, 301, 302, 303, 304, 305, 306, 307, 308, 309, 533, 534, 535, 536, 395, 319, 320, 659, 660, 661, 662, 663, 664, 696, 697, 680, 681, 682, 683, 684, 685, 686] (by decide +kernel) (by decide +kernel)
set_option maxRecDepth 20000 in
theorem gL_law_X7_pair : GoodIn wsL_law (wsV RL 80 RX7 yX7_pair wsX7_pair) := goodIn_app (goodIn_of _ (by decide +kernel)) ggL_law_X7_pair
set_option maxRecDepth 20000 in
theorem ggL_law_X8_pair : GoodIn wsL_law wsX8_pair := goodIn_r _ [540, 204, 205, 5, 206, 135, 136, 137, 326, 327, 328, 329, 85, 242, 243, 244, 245, 79, 250, 251, 252, 253, 330, 331, 332, 333, 166, 167, 168, 169, 541, 542, 543, 544, 342, 343, 344, 345, 665, 666, 667, 668, 669, 670, 671, 672, 673, 674, 675, 676, 677, 678, 679] (by decide +kernel) (by decide +kernel)
set_option maxRecDepth 20000 in
theorem gL_law_X8_pair : GoodIn wsL_law (wsV RL 83 RX8 yX8_pair wsX8_pair) := goodIn_app (goodIn_of _ (by decide +kernel)) ggL_law_X8_pair
set_option maxRecDepth 20000 in
theorem ggL_law_X7_ways : GoodIn wsL_law wsX7_ways := goodIn_r _ [548, 29, 94, 95, 2, 96, 508, 509, 510, 511, 512, 16, 492, 153, 154, 281, 282, 283, 15, 284, 40, 285, 286, 180, 181, 182, 46, 287, 234, 235, 32, 236, 52, 288, 289, 290, 291, 292, 149, 150, 151, 44, 39, 152, 120, 121, 122, 293, 294, 295, 296, 297, 298, 124, 125, 126, 127, 299, 300, 301, 302, 303, 304, 305, 306, 307, 308, 309, 513, 514, 515, 28, 516, 71, 70, 549, 550, 551, 552, 74, 73, 553, 72, 554, 555, 556, 557, 558, 559, 659, 660, 661, 662, 663, 664, 691, 692, 693, 694, 695, 696, 697, 680, 681, 682, 683, 684, 685, 686] (by decide +kernel) (by decide +kernel)
set_option maxRecDepth 20000 in
theorem gL_law_X7_ways : GoodIn wsL_law (wsV RL 84 RX7 yX7_ways wsX7_ways) := goodIn_app (goodIn_of _ (by decide +kernel)) ggL_law_X7_ways
set_option maxRecDepth 20000 in
theorem ggL_law_X8_ways : GoodIn wsL_law wsX8_ways := goodIn_r _ [563, 564, 86, 88, 497, 498, 5, 499, 135, 136, 137, 500, 501, 502, 503, 326, 327, 328, 329, 85, 242, 243, 244, 245, 79, 250, 251, 252, 253, 330, 331, 332, 333, 166, 167, 168, 169, 565, 566, 567, 568, 342, 343, 344, 345, 665, 666, 667, 668, 669, 670, 671, 672, 673, 674, 675, 676, 677, 678, 679] (by decide +kernel) (by decide +kernel)
set_option maxRecDepth 20000 in
theorem gL_law_X8_ways : GoodIn wsL_law (wsV RL 87 RX8 yX8_ways wsX8_ways) := goodIn_app (goodIn_of _ (by decide +kernel)) ggL_law_X8_ways
set_option maxRecDepth 20000 in
theorem ggL_law_X7_untilHome : GoodIn wsL_law wsX7_untilHome := goodIn_r _ [572, 16, 278, 391, 94, 95, 2, 96, 281, 282, 283, 15, 284, 40, 285, 286, 180, 181, 182, 46, 287, 234, 235, 32, 236, 52, 288, 289, 290, 291, 292, 149, 150, 151, 44, 39, 152, 120, 121, 122, 153, 154, 293, 294, 295, 296, 297, 298, 124, 125, 126, 127, 299, 300, 301, 302, 303, 304, 305, 306, 307, 308, 309, 314, 659, 660, 661, 662, 663, 664, 680, 681, 682, 683, 684, 685, 686, 696, 697] (by decide +kernel) (by decide +kernel)
set_option maxRecDepth 20000 in
theorem gL_law_X7_untilHome : GoodIn wsL_law (wsV RL 88 RX7 yX7_untilHome wsX7_untilHome) := goodIn_app (goodIn_of _ (by decide +kernel)) ggL_law_X7_untilHome
set_option maxRecDepth 20000 in
theorem ggL_law_X8_untilHome : GoodIn wsL_law wsX8_untilHome := goodIn_r _ [576, 204, 205, 5, 206, 135, 136, 137, 326, 327, 328, 329, 85, 242, 243, 244, 245, 79, 250, 251, 252, 253, 330, 331, 332, 333, 166, 167, 168, 169, 412, 413, 414, 415, 416, 417, 418, 419, 342, 343, 344, 345, 334, 335, 336, 337, 86, 577, 578, 579, 580, 338, 339, 340, 341, 87, 665, 666, 667, 668, 669, 670, 671, 672, 673, 674, 675, 676, 677, 678, 679] (by decide +kernel) (by decide +kernel)
set_option maxRecDepth 20000 in
theorem gL_law_X8_untilHome : GoodIn wsL_law (wsV RL 91 RX8 yX8_untilHome wsX8_untilHome) := goodIn_app (goodIn_of _ (by decide +kernel)) ggL_law_X8_untilHome
set_option maxRecDepth 20000 in
theorem ggL_law_X7_bestDraft : GoodIn wsL_law wsX7_bestDraft := goodIn_r _ [584, 16, 278, 281, 282, 283, 15, 284, 40, 285, 286, 180, 181, 182, 46, 95, 2, 96, 287, 234, 235, 32, 236, 52, 288, 289, 290, 291, 292, 149, 150, 151, 44, 39, 152, 120, 121, 122, 153, 154, 293, 294, 295, 296, 297, 298, 124, 125, 126, 127, 299, 300, 301, 302, 303, 304, 305, 306, 307, 308, 309, 314, 315, 316, 317, 318, 319, 320, 321, 156, 157, 158, 159, 160, 161, 659, 660, 661, 662, 663, 664, 680, 681, 682, 683, 684, 685, 686, 696, 697] (by decide +kernel) (by decide +kernel)
set_option maxRecDepth 20000 in
theorem gL_law_X7_bestDraft : GoodIn wsL_law (wsV RL 92 RX7 yX7_bestDraft wsX7_bestDraft) := goodIn_app (goodIn_of _ (by decide +kernel)) ggL_law_X7_bestDraft
set_option maxRecDepth 20000 in
theorem ggL_law_X8_bestDraft : GoodIn wsL_law wsX8_bestDraft := goodIn_r _ [588, 135, 136, 5, 137, 326, 327, 328, 329, 85, 242, 243, 244, 245, 79, 250, 251, 252, 253, 330, 331, 332, 333, 166, 167, 168, 169, 334, 335, 336, 337, 86, 338, 339, 340, 341, 87, 342, 343, 344, 345, 577, 578, 579, 580, 665, 666, 667, 668, 669, 670, 671, 672, 673, 674, 675, 676, 677, 678, 679] (by decide +kernel) (by decide +kernel)
set_option maxRecDepth 20000 in
theorem gL_law_X8_bestDraft : GoodIn wsL_law (wsV RL 95 RX8 yX8_bestDraft wsX8_bestDraft) := goodIn_app (goodIn_of _ (by decide +kernel)) ggL_law_X8_bestDraft
set_option maxRecDepth 20000 in
theorem ggL_law_X7_write : GoodIn wsL_law wsX7_write := goodIn_r _ [592, 25, 177, 593, 594, 24, 595, 596, 597, 598, 599, 600, 601, 602, 65, 64, 95, 2, 96, 659, 660, 661, 662, 663, 664, 689, 690] (by decide +kernel) (by decide +kernel)
set_option maxRecDepth 20000 in
theorem gL_law_X7_write : GoodIn wsL_law (wsV RL 98 RX7 yX7_write wsX7_write) := goodIn_app (goodIn_of _ (by decide +kernel)) ggL_law_X7_write
set_option maxRecDepth 20000 in
theorem ggL_law_X8_write : GoodIn wsL_law wsX8_write := goodIn_r _ [606, 203, 83, 607, 608, 5, 609, 610, 611, 612, 613, 135, 136, 137, 665, 666, 667, 668, 669, 670, 671, 672, 673, 674, 675, 676, 677, 678, 679] (by decide +kernel) (by decide +kernel)
set_option maxRecDepth 20000 in
theorem gL_law_X8_write : GoodIn wsL_law (wsV RL 102 RX8 yX8_write wsX8_write) := goodIn_app (goodIn_of _ (by decide +kernel)) ggL_law_X8_write
set_option maxRecDepth 20000 in
theorem ggL_law_X7_wipe : GoodIn wsL_law wsX7_wipe := goodIn_r _ [617, 25, 177, 659, 660, 661, 662, 663, 664, 689, 690] (by decide +kernel) (by decide +kernel)
set_option maxRecDepth 20000 in
theorem gL_law_X7_wipe : GoodIn wsL_law (wsV RL 103 RX7 yX7_wipe wsX7_wipe) := goodIn_app (goodIn_of _ (by decide +kernel)) ggL_law_X7_wipe
set_option maxRecDepth 20000 in
theorem ggL_law_X8_wipe : GoodIn wsL_law wsX8_wipe := goodIn_r _ [621, 203, 665, 666, 667, 668, 669, 670, 671, 672, 673, 674, 675, 676, 677, 678, 679] (by decide +kernel) (by decide +kernel)
set_option maxRecDepth 20000 in
theorem gL_law_X8_wipe : GoodIn wsL_law (wsV RL 107 RX8 yX8_wipe wsX8_wipe) := goodIn_app (goodIn_of _ (by decide +kernel)) ggL_law_X8_wipe
set_option maxRecDepth 20000 in
theorem ggL_law_X7_fault : GoodIn wsL_law wsX7_fault := goodIn_r _ [625, 25, 33, 183, 184, 185, 24, 186, 187, 65, 64, 188, 189, 190, 191, 192, 193, 194, 195, 196, 32, 197, 53, 52, 95, 2, 96, 659, 660, 661, 662, 663, 664, 696, 697, 689, 690] (by decide +kernel) (by decide +kernel)
set_option maxRecDepth 20000 in
theorem gL_law_X7_fault : GoodIn wsL_law (wsV RL 108 RX7 yX7_fault wsX7_fault) := goodIn_app (goodIn_of _ (by decide +kernel)) ggL_law_X7_fault
set_option maxRecDepth 20000 in
theorem ggL_law_X8_fault : GoodIn wsL_law wsX8_fault := goodIn_r _ [629, 207, 208, 209, 5, 210, 211, 212, 203, 213, 214, 215, 216, 84, 217, 218, 219, 220, 83, 135, 136, 137, 665, 666, 667, 668, 669, 670, 671, 672, 673, 674, 675, 676, 677, 678, 679] (by decide +kernel) (by decide +kernel)
set_option maxRecDepth 20000 in
theorem gL_law_X8_fault : GoodIn wsL_law (wsV RL 111 RX8 yX8_fault wsX8_fault) := goodIn_app (goodIn_of _ (by decide +kernel)) ggL_law_X8_fault
set_option maxRecDepth 20000 in
theorem ggL_law_X7_undo : GoodIn wsL_law wsX7_undo := goodIn_r _ [633, 20, 467, 16, 634, 635, 636, 19, 637, 59, 58, 95, 2, 96, 106, 107, 108, 15, 109, 39, 41, 42, 44, 110, 111, 112, 113, 46, 47, 48, 114, 115, 116, 32, 117, 52, 118, 53, 659, 660, 661, 662, 663, 664, 687, 688, 680, 681, 682, 683, 684, 685, 686, 696, 697] (by decide +kernel) (by decide +kernel)
set_option maxRecDepth 20000 in
theorem gL_law_X7_undo : GoodIn wsL_law (wsV RL 112 RX7 yX7_undo wsX7_undo) := goodIn_app (goodIn_of _ (by decide +kernel)) ggL_law_X7_undo
set_option maxRecDepth 20000 in
theorem ggL_law_X8_undo : GoodIn wsL_law wsX8_undo := goodIn_r _ [641, 142, 79, 80, 665, 666, 667, 668, 669, 670, 671, 672, 673, 674, 675, 676, 677, 678, 679] (by decide +kernel) (by decide +kernel)
set_option maxRecDepth 20000 in
theorem gL_law_X8_undo : GoodIn wsL_law (wsV RL 115 RX8 yX8_undo wsX8_undo) := goodIn_app (goodIn_of _ (by decide +kernel)) ggL_law_X8_undo
set_option maxRecDepth 20000 in
theorem ggL_law_X7_save : GoodIn wsL_law wsX7_save := goodIn_r _ [645, 21, 13, 14, 15, 16, 278, 94, 95, 2, 96, 34, 35, 36, 37, 11, 12, 38, 39, 40, 41, 42, 43, 44, 45, 46, 47, 48, 31, 32, 49, 50, 51, 52, 53, 646, 107, 108, 109, 110, 111, 112, 113, 114, 115, 116, 117, 118, 315, 316, 295, 317, 297, 318, 319, 320, 309, 120, 121, 122, 321, 156, 157, 158, 159, 160, 161, 659, 660, 661, 662, 663, 664, 680, 681, 682, 683, 684, 685, 686, 696, 697] (by decide +kernel) (by decide +kernel)
set_option maxRecDepth 20000 in
theorem gL_law_X7_save : GoodIn wsL_law (wsV RL 116 RX7 yX7_save wsX7_save) := goodIn_app (goodIn_of _ (by decide +kernel)) ggL_law_X7_save
set_option maxRecDepth 20000 in
theorem ggL_law_X8_save : GoodIn wsL_law wsX8_save := goodIn_r _ [650, 81, 79, 82, 135, 136, 5, 137, 346, 347, 348, 349, 665, 666, 667, 668, 669, 670, 671, 672, 673, 674, 675, 676, 677, 678, 679] (by decide +kernel) (by decide +kernel)
set_option maxRecDepth 20000 in
theorem gL_law_X8_save : GoodIn wsL_law (wsV RL 119 RX8 yX8_save wsX8_save) := goodIn_app (goodIn_of _ (by decide +kernel)) ggL_law_X8_save
set_option maxRecDepth 20000 in
theorem ggL_law_X7_restore : GoodIn wsL_law wsX7_restore := goodIn_r _ [654, 21, 20, 16, 278, 94, 95, 2, 96, 97, 98, 99, 19, 100, 59, 58, 57, 14, 15, 101, 102, 103, 104, 105, 35, 36, 37, 11, 12, 38, 39, 40, 41, 42, 43, 44, 45, 46, 47, 48, 31, 32, 49, 50, 51, 52, 53, 106, 107, 108, 109, 110, 111, 112, 113, 114, 115, 116, 117, 118, 646, 315, 316, 295, 317, 297, 318, 319, 320, 309, 120, 121, 122, 321, 156, 157, 158, 159, 160, 161, 659, 660, 661, 662, 663, 664, 680, 681, 682, 683, 684, 685, 686, 687, 688, 696, 697] (by decide +kernel) (by decide +kernel)
set_option maxRecDepth 20000 in
theorem gL_law_X7_restore : GoodIn wsL_law (wsV RL 120 RX7 yX7_restore wsX7_restore) := goodIn_app (goodIn_of _ (by decide +kernel)) ggL_law_X7_restore
set_option maxRecDepth 20000 in
theorem ggL_law_X8_restore : GoodIn wsL_law wsX8_restore := goodIn_r _ [658, 82, 79, 81, 135, 136, 5, 137, 138, 139, 140, 141, 142, 80, 346, 347, 348, 349, 665, 666, 667, 668, 669, 670, 671, 672, 673, 674, 675, 676, 677, 678, 679] (by decide +kernel) (by decide +kernel)
set_option maxRecDepth 20000 in
theorem gL_law_X8_restore : GoodIn wsL_law (wsV RL 123 RX8 yX8_restore wsX8_restore) := goodIn_app (goodIn_of _ (by decide +kernel)) ggL_law_X8_restore
theorem dL_law_0 : decode cL_law 0 = .ok (.new 7, 3) := by decide +kernel
theorem dL_law_3 : decode cL_law 3 = .ok (.dup, 1) := by decide +kernel
theorem dL_law_4 : decode cL_law 4 = .ok (.invokespecial 9, 3) := by decide +kernel
theorem dL_law_7 : decode cL_law 7 = .ok (.astore_n 1, 1) := by decide +kernel
theorem dL_law_8 : decode cL_law 8 = .ok (.new 10, 3) := by decide +kernel
theorem dL_law_11 : decode cL_law 11 = .ok (.dup, 1) := by decide +kernel
theorem dL_law_12 : decode cL_law 12 = .ok (.invokespecial 12, 3) := by decide +kernel
theorem dL_law_15 : decode cL_law 15 = .ok (.astore_n 2, 1) := by decide +kernel
theorem dL_law_16 : decode cL_law 16 = .ok (.iconst 0, 1) := by decide +kernel
theorem dL_law_17 : decode cL_law 17 = .ok (.istore_n 3, 1) := by decide +kernel
theorem dL_law_18 : decode cL_law 18 = .ok (.iload_n 3, 1) := by decide +kernel
theorem dL_law_19 : decode cL_law 19 = .ok (.aload_n 0, 1) := by decide +kernel
theorem dL_law_20 : decode cL_law 20 = .ok (.arraylength, 1) := by decide +kernel
theorem dL_law_21 : decode cL_law 21 = .ok (.iconst 4, 1) := by decide +kernel
theorem dL_law_22 : decode cL_law 22 = .ok (.isub, 1) := by decide +kernel
theorem dL_law_23 : decode cL_law 23 = .ok (.if_icmp .gt 913, 3) := by decide +kernel
theorem dL_law_26 : decode cL_law 26 = .ok (.aload_n 0, 1) := by decide +kernel
theorem dL_law_27 : decode cL_law 27 = .ok (.iload_n 3, 1) := by decide +kernel
theorem dL_law_28 : decode cL_law 28 = .ok (.iaload, 1) := by decide +kernel
theorem dL_law_29 : decode cL_law 29 = .ok (.bipush 31, 2) := by decide +kernel
theorem dL_law_31 : decode cL_law 31 = .ok (.iand, 1) := by decide +kernel
theorem dL_law_32 : decode cL_law 32 = .ok (.tableswitch 898 0 25 #[120, 153, 186, 209, 252, 285, 328, 361, 394, 427, 460, 493, 526, 569, 592, 615, 648, 691, 714, 737, 760, 813, 826, 839, 852, 875], 120) := by decide +kernel
theorem dL_law_152 : decode cL_law 152 = .ok (.aload_n 1, 1) := by decide +kernel
theorem dL_law_153 : decode cL_law 153 = .ok (.aload_n 0, 1) := by decide +kernel
theorem dL_law_154 : decode cL_law 154 = .ok (.iload_n 3, 1) := by decide +kernel
theorem dL_law_155 : decode cL_law 155 = .ok (.iconst 1, 1) := by decide +kernel
theorem dL_law_156 : decode cL_law 156 = .ok (.iadd, 1) := by decide +kernel
theorem dL_law_157 : decode cL_law 157 = .ok (.iaload, 1) := by decide +kernel
theorem dL_law_158 : decode cL_law 158 = .ok (.aload_n 0, 1) := by decide +kernel
theorem dL_law_159 : decode cL_law 159 = .ok (.iload_n 3, 1) := by decide +kernel
theorem dL_law_160 : decode cL_law 160 = .ok (.iconst 2, 1) := by decide +kernel
theorem dL_law_161 : decode cL_law 161 = .ok (.iadd, 1) := by decide +kernel
theorem dL_law_162 : decode cL_law 162 = .ok (.iaload, 1) := by decide +kernel
theorem dL_law_163 : decode cL_law 163 = .ok (.invokevirtual 13, 3) := by decide +kernel
theorem dL_law_166 : decode cL_law 166 = .ok (.aload_n 2, 1) := by decide +kernel
theorem dL_law_167 : decode cL_law 167 = .ok (.aload_n 0, 1) := by decide +kernel
theorem dL_law_168 : decode cL_law 168 = .ok (.iload_n 3, 1) := by decide +kernel
theorem dL_law_169 : decode cL_law 169 = .ok (.iconst 1, 1) := by decide +kernel
theorem dL_law_170 : decode cL_law 170 = .ok (.iadd, 1) := by decide +kernel
theorem dL_law_171 : decode cL_law 171 = .ok (.iaload, 1) := by decide +kernel
theorem dL_law_172 : decode cL_law 172 = .ok (.aload_n 0, 1) := by decide +kernel
theorem dL_law_173 : decode cL_law 173 = .ok (.iload_n 3, 1) := by decide +kernel
theorem dL_law_174 : decode cL_law 174 = .ok (.iconst 2, 1) := by decide +kernel
theorem dL_law_175 : decode cL_law 175 = .ok (.iadd, 1) := by decide +kernel
theorem dL_law_176 : decode cL_law 176 = .ok (.iaload, 1) := by decide +kernel
theorem dL_law_177 : decode cL_law 177 = .ok (.invokevirtual 17, 3) := by decide +kernel
theorem dL_law_180 : decode cL_law 180 = .ok (.if_icmp .eq 750, 3) := by decide +kernel
theorem dL_law_183 : decode cL_law 183 = .ok (.iconst 0, 1) := by decide +kernel
theorem dL_law_184 : decode cL_law 184 = .ok (.ireturn, 1) := by decide +kernel
theorem dL_law_185 : decode cL_law 185 = .ok (.aload_n 1, 1) := by decide +kernel
theorem dL_law_186 : decode cL_law 186 = .ok (.aload_n 0, 1) := by decide +kernel
theorem dL_law_187 : decode cL_law 187 = .ok (.iload_n 3, 1) := by decide +kernel
theorem dL_law_188 : decode cL_law 188 = .ok (.iconst 1, 1) := by decide +kernel
theorem dL_law_189 : decode cL_law 189 = .ok (.iadd, 1) := by decide +kernel
theorem dL_law_190 : decode cL_law 190 = .ok (.iaload, 1) := by decide +kernel
theorem dL_law_191 : decode cL_law 191 = .ok (.aload_n 0, 1) := by decide +kernel
theorem dL_law_192 : decode cL_law 192 = .ok (.iload_n 3, 1) := by decide +kernel
theorem dL_law_193 : decode cL_law 193 = .ok (.iconst 2, 1) := by decide +kernel
theorem dL_law_194 : decode cL_law 194 = .ok (.iadd, 1) := by decide +kernel
theorem dL_law_195 : decode cL_law 195 = .ok (.iaload, 1) := by decide +kernel
theorem dL_law_196 : decode cL_law 196 = .ok (.invokevirtual 18, 3) := by decide +kernel
theorem dL_law_199 : decode cL_law 199 = .ok (.aload_n 2, 1) := by decide +kernel
theorem dL_law_200 : decode cL_law 200 = .ok (.aload_n 0, 1) := by decide +kernel
theorem dL_law_201 : decode cL_law 201 = .ok (.iload_n 3, 1) := by decide +kernel
theorem dL_law_202 : decode cL_law 202 = .ok (.iconst 1, 1) := by decide +kernel
theorem dL_law_203 : decode cL_law 203 = .ok (.iadd, 1) := by decide +kernel
theorem dL_law_204 : decode cL_law 204 = .ok (.iaload, 1) := by decide +kernel
theorem dL_law_205 : decode cL_law 205 = .ok (.aload_n 0, 1) := by decide +kernel
theorem dL_law_206 : decode cL_law 206 = .ok (.iload_n 3, 1) := by decide +kernel
theorem dL_law_207 : decode cL_law 207 = .ok (.iconst 2, 1) := by decide +kernel
theorem dL_law_208 : decode cL_law 208 = .ok (.iadd, 1) := by decide +kernel
theorem dL_law_209 : decode cL_law 209 = .ok (.iaload, 1) := by decide +kernel
theorem dL_law_210 : decode cL_law 210 = .ok (.invokevirtual 21, 3) := by decide +kernel
theorem dL_law_213 : decode cL_law 213 = .ok (.if_icmp .eq 717, 3) := by decide +kernel
theorem dL_law_216 : decode cL_law 216 = .ok (.iconst 0, 1) := by decide +kernel
theorem dL_law_217 : decode cL_law 217 = .ok (.ireturn, 1) := by decide +kernel
theorem dL_law_218 : decode cL_law 218 = .ok (.aload_n 1, 1) := by decide +kernel
theorem dL_law_219 : decode cL_law 219 = .ok (.aload_n 0, 1) := by decide +kernel
theorem dL_law_220 : decode cL_law 220 = .ok (.iload_n 3, 1) := by decide +kernel
theorem dL_law_221 : decode cL_law 221 = .ok (.iconst 1, 1) := by decide +kernel
theorem dL_law_222 : decode cL_law 222 = .ok (.iadd, 1) := by decide +kernel
theorem dL_law_223 : decode cL_law 223 = .ok (.iaload, 1) := by decide +kernel
theorem dL_law_224 : decode cL_law 224 = .ok (.invokevirtual 22, 3) := by decide +kernel
theorem dL_law_227 : decode cL_law 227 = .ok (.aload_n 2, 1) := by decide +kernel
theorem dL_law_228 : decode cL_law 228 = .ok (.aload_n 0, 1) := by decide +kernel
theorem dL_law_229 : decode cL_law 229 = .ok (.iload_n 3, 1) := by decide +kernel
theorem dL_law_230 : decode cL_law 230 = .ok (.iconst 1, 1) := by decide +kernel
theorem dL_law_231 : decode cL_law 231 = .ok (.iadd, 1) := by decide +kernel
theorem dL_law_232 : decode cL_law 232 = .ok (.iaload, 1) := by decide +kernel
theorem dL_law_233 : decode cL_law 233 = .ok (.invokevirtual 26, 3) := by decide +kernel
theorem dL_law_236 : decode cL_law 236 = .ok (.if_icmp .eq 694, 3) := by decide +kernel
theorem dL_law_239 : decode cL_law 239 = .ok (.iconst 0, 1) := by decide +kernel
theorem dL_law_240 : decode cL_law 240 = .ok (.ireturn, 1) := by decide +kernel
theorem dL_law_241 : decode cL_law 241 = .ok (.aload_n 1, 1) := by decide +kernel
theorem dL_law_242 : decode cL_law 242 = .ok (.aload_n 0, 1) := by decide +kernel
theorem dL_law_243 : decode cL_law 243 = .ok (.iload_n 3, 1) := by decide +kernel
theorem dL_law_244 : decode cL_law 244 = .ok (.iconst 1, 1) := by decide +kernel
theorem dL_law_245 : decode cL_law 245 = .ok (.iadd, 1) := by decide +kernel
theorem dL_law_246 : decode cL_law 246 = .ok (.iaload, 1) := by decide +kernel
theorem dL_law_247 : decode cL_law 247 = .ok (.aload_n 0, 1) := by decide +kernel
theorem dL_law_248 : decode cL_law 248 = .ok (.iload_n 3, 1) := by decide +kernel
theorem dL_law_249 : decode cL_law 249 = .ok (.iconst 2, 1) := by decide +kernel
theorem dL_law_250 : decode cL_law 250 = .ok (.iadd, 1) := by decide +kernel
theorem dL_law_251 : decode cL_law 251 = .ok (.iaload, 1) := by decide +kernel
theorem dL_law_252 : decode cL_law 252 = .ok (.aload_n 0, 1) := by decide +kernel
theorem dL_law_253 : decode cL_law 253 = .ok (.iload_n 3, 1) := by decide +kernel
theorem dL_law_254 : decode cL_law 254 = .ok (.iconst 3, 1) := by decide +kernel
theorem dL_law_255 : decode cL_law 255 = .ok (.iadd, 1) := by decide +kernel
theorem dL_law_256 : decode cL_law 256 = .ok (.iaload, 1) := by decide +kernel
theorem dL_law_257 : decode cL_law 257 = .ok (.invokevirtual 27, 3) := by decide +kernel
theorem dL_law_260 : decode cL_law 260 = .ok (.aload_n 2, 1) := by decide +kernel
theorem dL_law_261 : decode cL_law 261 = .ok (.aload_n 0, 1) := by decide +kernel
theorem dL_law_262 : decode cL_law 262 = .ok (.iload_n 3, 1) := by decide +kernel
theorem dL_law_263 : decode cL_law 263 = .ok (.iconst 1, 1) := by decide +kernel
theorem dL_law_264 : decode cL_law 264 = .ok (.iadd, 1) := by decide +kernel
theorem dL_law_265 : decode cL_law 265 = .ok (.iaload, 1) := by decide +kernel
theorem dL_law_266 : decode cL_law 266 = .ok (.aload_n 0, 1) := by decide +kernel
theorem dL_law_267 : decode cL_law 267 = .ok (.iload_n 3, 1) := by decide +kernel
theorem dL_law_268 : decode cL_law 268 = .ok (.iconst 2, 1) := by decide +kernel
theorem dL_law_269 : decode cL_law 269 = .ok (.iadd, 1) := by decide +kernel
theorem dL_law_270 : decode cL_law 270 = .ok (.iaload, 1) := by decide +kernel
theorem dL_law_271 : decode cL_law 271 = .ok (.aload_n 0, 1) := by decide +kernel
theorem dL_law_272 : decode cL_law 272 = .ok (.iload_n 3, 1) := by decide +kernel
theorem dL_law_273 : decode cL_law 273 = .ok (.iconst 3, 1) := by decide +kernel
theorem dL_law_274 : decode cL_law 274 = .ok (.iadd, 1) := by decide +kernel
theorem dL_law_275 : decode cL_law 275 = .ok (.iaload, 1) := by decide +kernel
theorem dL_law_276 : decode cL_law 276 = .ok (.invokevirtual 31, 3) := by decide +kernel
theorem dL_law_279 : decode cL_law 279 = .ok (.if_icmp .eq 651, 3) := by decide +kernel
theorem dL_law_282 : decode cL_law 282 = .ok (.iconst 0, 1) := by decide +kernel
theorem dL_law_283 : decode cL_law 283 = .ok (.ireturn, 1) := by decide +kernel
theorem dL_law_284 : decode cL_law 284 = .ok (.aload_n 1, 1) := by decide +kernel
theorem dL_law_285 : decode cL_law 285 = .ok (.aload_n 0, 1) := by decide +kernel
theorem dL_law_286 : decode cL_law 286 = .ok (.iload_n 3, 1) := by decide +kernel
theorem dL_law_287 : decode cL_law 287 = .ok (.iconst 1, 1) := by decide +kernel
theorem dL_law_288 : decode cL_law 288 = .ok (.iadd, 1) := by decide +kernel
theorem dL_law_289 : decode cL_law 289 = .ok (.iaload, 1) := by decide +kernel
theorem dL_law_290 : decode cL_law 290 = .ok (.aload_n 0, 1) := by decide +kernel
theorem dL_law_291 : decode cL_law 291 = .ok (.iload_n 3, 1) := by decide +kernel
theorem dL_law_292 : decode cL_law 292 = .ok (.iconst 2, 1) := by decide +kernel
theorem dL_law_293 : decode cL_law 293 = .ok (.iadd, 1) := by decide +kernel
theorem dL_law_294 : decode cL_law 294 = .ok (.iaload, 1) := by decide +kernel
theorem dL_law_295 : decode cL_law 295 = .ok (.invokevirtual 32, 3) := by decide +kernel
theorem dL_law_298 : decode cL_law 298 = .ok (.aload_n 2, 1) := by decide +kernel
theorem dL_law_299 : decode cL_law 299 = .ok (.aload_n 0, 1) := by decide +kernel
theorem dL_law_300 : decode cL_law 300 = .ok (.iload_n 3, 1) := by decide +kernel
theorem dL_law_301 : decode cL_law 301 = .ok (.iconst 1, 1) := by decide +kernel
theorem dL_law_302 : decode cL_law 302 = .ok (.iadd, 1) := by decide +kernel
theorem dL_law_303 : decode cL_law 303 = .ok (.iaload, 1) := by decide +kernel
theorem dL_law_304 : decode cL_law 304 = .ok (.aload_n 0, 1) := by decide +kernel
theorem dL_law_305 : decode cL_law 305 = .ok (.iload_n 3, 1) := by decide +kernel
theorem dL_law_306 : decode cL_law 306 = .ok (.iconst 2, 1) := by decide +kernel
theorem dL_law_307 : decode cL_law 307 = .ok (.iadd, 1) := by decide +kernel
theorem dL_law_308 : decode cL_law 308 = .ok (.iaload, 1) := by decide +kernel
theorem dL_law_309 : decode cL_law 309 = .ok (.invokevirtual 35, 3) := by decide +kernel
theorem dL_law_312 : decode cL_law 312 = .ok (.if_icmp .eq 618, 3) := by decide +kernel
theorem dL_law_315 : decode cL_law 315 = .ok (.iconst 0, 1) := by decide +kernel
theorem dL_law_316 : decode cL_law 316 = .ok (.ireturn, 1) := by decide +kernel
theorem dL_law_317 : decode cL_law 317 = .ok (.aload_n 1, 1) := by decide +kernel
theorem dL_law_318 : decode cL_law 318 = .ok (.aload_n 0, 1) := by decide +kernel
theorem dL_law_319 : decode cL_law 319 = .ok (.iload_n 3, 1) := by decide +kernel
theorem dL_law_320 : decode cL_law 320 = .ok (.iconst 1, 1) := by decide +kernel
theorem dL_law_321 : decode cL_law 321 = .ok (.iadd, 1) := by decide +kernel
theorem dL_law_322 : decode cL_law 322 = .ok (.iaload, 1) := by decide +kernel
theorem dL_law_323 : decode cL_law 323 = .ok (.aload_n 0, 1) := by decide +kernel
theorem dL_law_324 : decode cL_law 324 = .ok (.iload_n 3, 1) := by decide +kernel
theorem dL_law_325 : decode cL_law 325 = .ok (.iconst 2, 1) := by decide +kernel
theorem dL_law_326 : decode cL_law 326 = .ok (.iadd, 1) := by decide +kernel
theorem dL_law_327 : decode cL_law 327 = .ok (.iaload, 1) := by decide +kernel
theorem dL_law_328 : decode cL_law 328 = .ok (.aload_n 0, 1) := by decide +kernel
theorem dL_law_329 : decode cL_law 329 = .ok (.iload_n 3, 1) := by decide +kernel
theorem dL_law_330 : decode cL_law 330 = .ok (.iconst 3, 1) := by decide +kernel
theorem dL_law_331 : decode cL_law 331 = .ok (.iadd, 1) := by decide +kernel
theorem dL_law_332 : decode cL_law 332 = .ok (.iaload, 1) := by decide +kernel
theorem dL_law_333 : decode cL_law 333 = .ok (.invokevirtual 36, 3) := by decide +kernel
theorem dL_law_336 : decode cL_law 336 = .ok (.aload_n 2, 1) := by decide +kernel
theorem dL_law_337 : decode cL_law 337 = .ok (.aload_n 0, 1) := by decide +kernel
theorem dL_law_338 : decode cL_law 338 = .ok (.iload_n 3, 1) := by decide +kernel
theorem dL_law_339 : decode cL_law 339 = .ok (.iconst 1, 1) := by decide +kernel
theorem dL_law_340 : decode cL_law 340 = .ok (.iadd, 1) := by decide +kernel
theorem dL_law_341 : decode cL_law 341 = .ok (.iaload, 1) := by decide +kernel
theorem dL_law_342 : decode cL_law 342 = .ok (.aload_n 0, 1) := by decide +kernel
theorem dL_law_343 : decode cL_law 343 = .ok (.iload_n 3, 1) := by decide +kernel
theorem dL_law_344 : decode cL_law 344 = .ok (.iconst 2, 1) := by decide +kernel
theorem dL_law_345 : decode cL_law 345 = .ok (.iadd, 1) := by decide +kernel
theorem dL_law_346 : decode cL_law 346 = .ok (.iaload, 1) := by decide +kernel
theorem dL_law_347 : decode cL_law 347 = .ok (.aload_n 0, 1) := by decide +kernel
theorem dL_law_348 : decode cL_law 348 = .ok (.iload_n 3, 1) := by decide +kernel
theorem dL_law_349 : decode cL_law 349 = .ok (.iconst 3, 1) := by decide +kernel
theorem dL_law_350 : decode cL_law 350 = .ok (.iadd, 1) := by decide +kernel
theorem dL_law_351 : decode cL_law 351 = .ok (.iaload, 1) := by decide +kernel
theorem dL_law_352 : decode cL_law 352 = .ok (.invokevirtual 39, 3) := by decide +kernel
theorem dL_law_355 : decode cL_law 355 = .ok (.if_icmp .eq 575, 3) := by decide +kernel
theorem dL_law_358 : decode cL_law 358 = .ok (.iconst 0, 1) := by decide +kernel
theorem dL_law_359 : decode cL_law 359 = .ok (.ireturn, 1) := by decide +kernel
theorem dL_law_360 : decode cL_law 360 = .ok (.aload_n 1, 1) := by decide +kernel
theorem dL_law_361 : decode cL_law 361 = .ok (.aload_n 0, 1) := by decide +kernel
theorem dL_law_362 : decode cL_law 362 = .ok (.iload_n 3, 1) := by decide +kernel
theorem dL_law_363 : decode cL_law 363 = .ok (.iconst 1, 1) := by decide +kernel
theorem dL_law_364 : decode cL_law 364 = .ok (.iadd, 1) := by decide +kernel
theorem dL_law_365 : decode cL_law 365 = .ok (.iaload, 1) := by decide +kernel
theorem dL_law_366 : decode cL_law 366 = .ok (.aload_n 0, 1) := by decide +kernel
theorem dL_law_367 : decode cL_law 367 = .ok (.iload_n 3, 1) := by decide +kernel
theorem dL_law_368 : decode cL_law 368 = .ok (.iconst 2, 1) := by decide +kernel
theorem dL_law_369 : decode cL_law 369 = .ok (.iadd, 1) := by decide +kernel
theorem dL_law_370 : decode cL_law 370 = .ok (.iaload, 1) := by decide +kernel
theorem dL_law_371 : decode cL_law 371 = .ok (.invokevirtual 40, 3) := by decide +kernel
theorem dL_law_374 : decode cL_law 374 = .ok (.aload_n 2, 1) := by decide +kernel
theorem dL_law_375 : decode cL_law 375 = .ok (.aload_n 0, 1) := by decide +kernel
theorem dL_law_376 : decode cL_law 376 = .ok (.iload_n 3, 1) := by decide +kernel
theorem dL_law_377 : decode cL_law 377 = .ok (.iconst 1, 1) := by decide +kernel
theorem dL_law_378 : decode cL_law 378 = .ok (.iadd, 1) := by decide +kernel
theorem dL_law_379 : decode cL_law 379 = .ok (.iaload, 1) := by decide +kernel
theorem dL_law_380 : decode cL_law 380 = .ok (.aload_n 0, 1) := by decide +kernel
theorem dL_law_381 : decode cL_law 381 = .ok (.iload_n 3, 1) := by decide +kernel
theorem dL_law_382 : decode cL_law 382 = .ok (.iconst 2, 1) := by decide +kernel
theorem dL_law_383 : decode cL_law 383 = .ok (.iadd, 1) := by decide +kernel
theorem dL_law_384 : decode cL_law 384 = .ok (.iaload, 1) := by decide +kernel
theorem dL_law_385 : decode cL_law 385 = .ok (.invokevirtual 43, 3) := by decide +kernel
theorem dL_law_388 : decode cL_law 388 = .ok (.if_icmp .eq 542, 3) := by decide +kernel
theorem dL_law_391 : decode cL_law 391 = .ok (.iconst 0, 1) := by decide +kernel
theorem dL_law_392 : decode cL_law 392 = .ok (.ireturn, 1) := by decide +kernel
theorem dL_law_393 : decode cL_law 393 = .ok (.aload_n 1, 1) := by decide +kernel
theorem dL_law_394 : decode cL_law 394 = .ok (.aload_n 0, 1) := by decide +kernel
theorem dL_law_395 : decode cL_law 395 = .ok (.iload_n 3, 1) := by decide +kernel
theorem dL_law_396 : decode cL_law 396 = .ok (.iconst 1, 1) := by decide +kernel
theorem dL_law_397 : decode cL_law 397 = .ok (.iadd, 1) := by decide +kernel
theorem dL_law_398 : decode cL_law 398 = .ok (.iaload, 1) := by decide +kernel
theorem dL_law_399 : decode cL_law 399 = .ok (.aload_n 0, 1) := by decide +kernel
theorem dL_law_400 : decode cL_law 400 = .ok (.iload_n 3, 1) := by decide +kernel
theorem dL_law_401 : decode cL_law 401 = .ok (.iconst 2, 1) := by decide +kernel
theorem dL_law_402 : decode cL_law 402 = .ok (.iadd, 1) := by decide +kernel
theorem dL_law_403 : decode cL_law 403 = .ok (.iaload, 1) := by decide +kernel
theorem dL_law_404 : decode cL_law 404 = .ok (.invokevirtual 44, 3) := by decide +kernel
theorem dL_law_407 : decode cL_law 407 = .ok (.aload_n 2, 1) := by decide +kernel
theorem dL_law_408 : decode cL_law 408 = .ok (.aload_n 0, 1) := by decide +kernel
theorem dL_law_409 : decode cL_law 409 = .ok (.iload_n 3, 1) := by decide +kernel
theorem dL_law_410 : decode cL_law 410 = .ok (.iconst 1, 1) := by decide +kernel
theorem dL_law_411 : decode cL_law 411 = .ok (.iadd, 1) := by decide +kernel
theorem dL_law_412 : decode cL_law 412 = .ok (.iaload, 1) := by decide +kernel
theorem dL_law_413 : decode cL_law 413 = .ok (.aload_n 0, 1) := by decide +kernel
theorem dL_law_414 : decode cL_law 414 = .ok (.iload_n 3, 1) := by decide +kernel
theorem dL_law_415 : decode cL_law 415 = .ok (.iconst 2, 1) := by decide +kernel
theorem dL_law_416 : decode cL_law 416 = .ok (.iadd, 1) := by decide +kernel
theorem dL_law_417 : decode cL_law 417 = .ok (.iaload, 1) := by decide +kernel
theorem dL_law_418 : decode cL_law 418 = .ok (.invokevirtual 47, 3) := by decide +kernel
theorem dL_law_421 : decode cL_law 421 = .ok (.if_icmp .eq 509, 3) := by decide +kernel
theorem dL_law_424 : decode cL_law 424 = .ok (.iconst 0, 1) := by decide +kernel
theorem dL_law_425 : decode cL_law 425 = .ok (.ireturn, 1) := by decide +kernel
theorem dL_law_426 : decode cL_law 426 = .ok (.aload_n 1, 1) := by decide +kernel
theorem dL_law_427 : decode cL_law 427 = .ok (.aload_n 0, 1) := by decide +kernel
theorem dL_law_428 : decode cL_law 428 = .ok (.iload_n 3, 1) := by decide +kernel
theorem dL_law_429 : decode cL_law 429 = .ok (.iconst 1, 1) := by decide +kernel
theorem dL_law_430 : decode cL_law 430 = .ok (.iadd, 1) := by decide +kernel
theorem dL_law_431 : decode cL_law 431 = .ok (.iaload, 1) := by decide +kernel
theorem dL_law_432 : decode cL_law 432 = .ok (.aload_n 0, 1) := by decide +kernel
theorem dL_law_433 : decode cL_law 433 = .ok (.iload_n 3, 1) := by decide +kernel
theorem dL_law_434 : decode cL_law 434 = .ok (.iconst 2, 1) := by decide +kernel
theorem dL_law_435 : decode cL_law 435 = .ok (.iadd, 1) := by decide +kernel
theorem dL_law_436 : decode cL_law 436 = .ok (.iaload, 1) := by decide +kernel
theorem dL_law_437 : decode cL_law 437 = .ok (.invokevirtual 48, 3) := by decide +kernel
theorem dL_law_440 : decode cL_law 440 = .ok (.aload_n 2, 1) := by decide +kernel
theorem dL_law_441 : decode cL_law 441 = .ok (.aload_n 0, 1) := by decide +kernel
theorem dL_law_442 : decode cL_law 442 = .ok (.iload_n 3, 1) := by decide +kernel
theorem dL_law_443 : decode cL_law 443 = .ok (.iconst 1, 1) := by decide +kernel
theorem dL_law_444 : decode cL_law 444 = .ok (.iadd, 1) := by decide +kernel
theorem dL_law_445 : decode cL_law 445 = .ok (.iaload, 1) := by decide +kernel
theorem dL_law_446 : decode cL_law 446 = .ok (.aload_n 0, 1) := by decide +kernel
theorem dL_law_447 : decode cL_law 447 = .ok (.iload_n 3, 1) := by decide +kernel
theorem dL_law_448 : decode cL_law 448 = .ok (.iconst 2, 1) := by decide +kernel
theorem dL_law_449 : decode cL_law 449 = .ok (.iadd, 1) := by decide +kernel
theorem dL_law_450 : decode cL_law 450 = .ok (.iaload, 1) := by decide +kernel
theorem dL_law_451 : decode cL_law 451 = .ok (.invokevirtual 51, 3) := by decide +kernel
theorem dL_law_454 : decode cL_law 454 = .ok (.if_icmp .eq 476, 3) := by decide +kernel
theorem dL_law_457 : decode cL_law 457 = .ok (.iconst 0, 1) := by decide +kernel
theorem dL_law_458 : decode cL_law 458 = .ok (.ireturn, 1) := by decide +kernel
theorem dL_law_459 : decode cL_law 459 = .ok (.aload_n 1, 1) := by decide +kernel
theorem dL_law_460 : decode cL_law 460 = .ok (.aload_n 0, 1) := by decide +kernel
theorem dL_law_461 : decode cL_law 461 = .ok (.iload_n 3, 1) := by decide +kernel
theorem dL_law_462 : decode cL_law 462 = .ok (.iconst 1, 1) := by decide +kernel
theorem dL_law_463 : decode cL_law 463 = .ok (.iadd, 1) := by decide +kernel
theorem dL_law_464 : decode cL_law 464 = .ok (.iaload, 1) := by decide +kernel
theorem dL_law_465 : decode cL_law 465 = .ok (.aload_n 0, 1) := by decide +kernel
theorem dL_law_466 : decode cL_law 466 = .ok (.iload_n 3, 1) := by decide +kernel
theorem dL_law_467 : decode cL_law 467 = .ok (.iconst 2, 1) := by decide +kernel
theorem dL_law_468 : decode cL_law 468 = .ok (.iadd, 1) := by decide +kernel
theorem dL_law_469 : decode cL_law 469 = .ok (.iaload, 1) := by decide +kernel
theorem dL_law_470 : decode cL_law 470 = .ok (.invokevirtual 52, 3) := by decide +kernel
theorem dL_law_473 : decode cL_law 473 = .ok (.aload_n 2, 1) := by decide +kernel
theorem dL_law_474 : decode cL_law 474 = .ok (.aload_n 0, 1) := by decide +kernel
theorem dL_law_475 : decode cL_law 475 = .ok (.iload_n 3, 1) := by decide +kernel
theorem dL_law_476 : decode cL_law 476 = .ok (.iconst 1, 1) := by decide +kernel
theorem dL_law_477 : decode cL_law 477 = .ok (.iadd, 1) := by decide +kernel
theorem dL_law_478 : decode cL_law 478 = .ok (.iaload, 1) := by decide +kernel
theorem dL_law_479 : decode cL_law 479 = .ok (.aload_n 0, 1) := by decide +kernel
theorem dL_law_480 : decode cL_law 480 = .ok (.iload_n 3, 1) := by decide +kernel
theorem dL_law_481 : decode cL_law 481 = .ok (.iconst 2, 1) := by decide +kernel
theorem dL_law_482 : decode cL_law 482 = .ok (.iadd, 1) := by decide +kernel
theorem dL_law_483 : decode cL_law 483 = .ok (.iaload, 1) := by decide +kernel
theorem dL_law_484 : decode cL_law 484 = .ok (.invokevirtual 55, 3) := by decide +kernel
theorem dL_law_487 : decode cL_law 487 = .ok (.if_icmp .eq 443, 3) := by decide +kernel
theorem dL_law_490 : decode cL_law 490 = .ok (.iconst 0, 1) := by decide +kernel
theorem dL_law_491 : decode cL_law 491 = .ok (.ireturn, 1) := by decide +kernel
theorem dL_law_492 : decode cL_law 492 = .ok (.aload_n 1, 1) := by decide +kernel
theorem dL_law_493 : decode cL_law 493 = .ok (.aload_n 0, 1) := by decide +kernel
theorem dL_law_494 : decode cL_law 494 = .ok (.iload_n 3, 1) := by decide +kernel
theorem dL_law_495 : decode cL_law 495 = .ok (.iconst 1, 1) := by decide +kernel
theorem dL_law_496 : decode cL_law 496 = .ok (.iadd, 1) := by decide +kernel
theorem dL_law_497 : decode cL_law 497 = .ok (.iaload, 1) := by decide +kernel
theorem dL_law_498 : decode cL_law 498 = .ok (.aload_n 0, 1) := by decide +kernel
theorem dL_law_499 : decode cL_law 499 = .ok (.iload_n 3, 1) := by decide +kernel
theorem dL_law_500 : decode cL_law 500 = .ok (.iconst 2, 1) := by decide +kernel
theorem dL_law_501 : decode cL_law 501 = .ok (.iadd, 1) := by decide +kernel
theorem dL_law_502 : decode cL_law 502 = .ok (.iaload, 1) := by decide +kernel
theorem dL_law_503 : decode cL_law 503 = .ok (.invokevirtual 56, 3) := by decide +kernel
theorem dL_law_506 : decode cL_law 506 = .ok (.aload_n 2, 1) := by decide +kernel
theorem dL_law_507 : decode cL_law 507 = .ok (.aload_n 0, 1) := by decide +kernel
theorem dL_law_508 : decode cL_law 508 = .ok (.iload_n 3, 1) := by decide +kernel
theorem dL_law_509 : decode cL_law 509 = .ok (.iconst 1, 1) := by decide +kernel
theorem dL_law_510 : decode cL_law 510 = .ok (.iadd, 1) := by decide +kernel
theorem dL_law_511 : decode cL_law 511 = .ok (.iaload, 1) := by decide +kernel
theorem dL_law_512 : decode cL_law 512 = .ok (.aload_n 0, 1) := by decide +kernel
theorem dL_law_513 : decode cL_law 513 = .ok (.iload_n 3, 1) := by decide +kernel
theorem dL_law_514 : decode cL_law 514 = .ok (.iconst 2, 1) := by decide +kernel
theorem dL_law_515 : decode cL_law 515 = .ok (.iadd, 1) := by decide +kernel
theorem dL_law_516 : decode cL_law 516 = .ok (.iaload, 1) := by decide +kernel
theorem dL_law_517 : decode cL_law 517 = .ok (.invokevirtual 59, 3) := by decide +kernel
theorem dL_law_520 : decode cL_law 520 = .ok (.if_icmp .eq 410, 3) := by decide +kernel
theorem dL_law_523 : decode cL_law 523 = .ok (.iconst 0, 1) := by decide +kernel
theorem dL_law_524 : decode cL_law 524 = .ok (.ireturn, 1) := by decide +kernel
theorem dL_law_525 : decode cL_law 525 = .ok (.aload_n 1, 1) := by decide +kernel
theorem dL_law_526 : decode cL_law 526 = .ok (.aload_n 0, 1) := by decide +kernel
theorem dL_law_527 : decode cL_law 527 = .ok (.iload_n 3, 1) := by decide +kernel
theorem dL_law_528 : decode cL_law 528 = .ok (.iconst 1, 1) := by decide +kernel
theorem dL_law_529 : decode cL_law 529 = .ok (.iadd, 1) := by decide +kernel
theorem dL_law_530 : decode cL_law 530 = .ok (.iaload, 1) := by decide +kernel
theorem dL_law_531 : decode cL_law 531 = .ok (.aload_n 0, 1) := by decide +kernel
theorem dL_law_532 : decode cL_law 532 = .ok (.iload_n 3, 1) := by decide +kernel
theorem dL_law_533 : decode cL_law 533 = .ok (.iconst 2, 1) := by decide +kernel
theorem dL_law_534 : decode cL_law 534 = .ok (.iadd, 1) := by decide +kernel
theorem dL_law_535 : decode cL_law 535 = .ok (.iaload, 1) := by decide +kernel
theorem dL_law_536 : decode cL_law 536 = .ok (.invokevirtual 60, 3) := by decide +kernel
theorem dL_law_539 : decode cL_law 539 = .ok (.aload_n 2, 1) := by decide +kernel
theorem dL_law_540 : decode cL_law 540 = .ok (.aload_n 0, 1) := by decide +kernel
theorem dL_law_541 : decode cL_law 541 = .ok (.iload_n 3, 1) := by decide +kernel
theorem dL_law_542 : decode cL_law 542 = .ok (.iconst 1, 1) := by decide +kernel
theorem dL_law_543 : decode cL_law 543 = .ok (.iadd, 1) := by decide +kernel
theorem dL_law_544 : decode cL_law 544 = .ok (.iaload, 1) := by decide +kernel
theorem dL_law_545 : decode cL_law 545 = .ok (.aload_n 0, 1) := by decide +kernel
theorem dL_law_546 : decode cL_law 546 = .ok (.iload_n 3, 1) := by decide +kernel
theorem dL_law_547 : decode cL_law 547 = .ok (.iconst 2, 1) := by decide +kernel
theorem dL_law_548 : decode cL_law 548 = .ok (.iadd, 1) := by decide +kernel
theorem dL_law_549 : decode cL_law 549 = .ok (.iaload, 1) := by decide +kernel
theorem dL_law_550 : decode cL_law 550 = .ok (.invokevirtual 63, 3) := by decide +kernel
theorem dL_law_553 : decode cL_law 553 = .ok (.if_icmp .eq 377, 3) := by decide +kernel
theorem dL_law_556 : decode cL_law 556 = .ok (.iconst 0, 1) := by decide +kernel
theorem dL_law_557 : decode cL_law 557 = .ok (.ireturn, 1) := by decide +kernel
theorem dL_law_558 : decode cL_law 558 = .ok (.aload_n 1, 1) := by decide +kernel
theorem dL_law_559 : decode cL_law 559 = .ok (.aload_n 0, 1) := by decide +kernel
theorem dL_law_560 : decode cL_law 560 = .ok (.iload_n 3, 1) := by decide +kernel
theorem dL_law_561 : decode cL_law 561 = .ok (.iconst 1, 1) := by decide +kernel
theorem dL_law_562 : decode cL_law 562 = .ok (.iadd, 1) := by decide +kernel
theorem dL_law_563 : decode cL_law 563 = .ok (.iaload, 1) := by decide +kernel
theorem dL_law_564 : decode cL_law 564 = .ok (.aload_n 0, 1) := by decide +kernel
theorem dL_law_565 : decode cL_law 565 = .ok (.iload_n 3, 1) := by decide +kernel
theorem dL_law_566 : decode cL_law 566 = .ok (.iconst 2, 1) := by decide +kernel
theorem dL_law_567 : decode cL_law 567 = .ok (.iadd, 1) := by decide +kernel
theorem dL_law_568 : decode cL_law 568 = .ok (.iaload, 1) := by decide +kernel
theorem dL_law_569 : decode cL_law 569 = .ok (.aload_n 0, 1) := by decide +kernel
theorem dL_law_570 : decode cL_law 570 = .ok (.iload_n 3, 1) := by decide +kernel
theorem dL_law_571 : decode cL_law 571 = .ok (.iconst 3, 1) := by decide +kernel
theorem dL_law_572 : decode cL_law 572 = .ok (.iadd, 1) := by decide +kernel
theorem dL_law_573 : decode cL_law 573 = .ok (.iaload, 1) := by decide +kernel
theorem dL_law_574 : decode cL_law 574 = .ok (.invokevirtual 64, 3) := by decide +kernel
theorem dL_law_577 : decode cL_law 577 = .ok (.aload_n 2, 1) := by decide +kernel
theorem dL_law_578 : decode cL_law 578 = .ok (.aload_n 0, 1) := by decide +kernel
theorem dL_law_579 : decode cL_law 579 = .ok (.iload_n 3, 1) := by decide +kernel
theorem dL_law_580 : decode cL_law 580 = .ok (.iconst 1, 1) := by decide +kernel
theorem dL_law_581 : decode cL_law 581 = .ok (.iadd, 1) := by decide +kernel
theorem dL_law_582 : decode cL_law 582 = .ok (.iaload, 1) := by decide +kernel
theorem dL_law_583 : decode cL_law 583 = .ok (.aload_n 0, 1) := by decide +kernel
theorem dL_law_584 : decode cL_law 584 = .ok (.iload_n 3, 1) := by decide +kernel
theorem dL_law_585 : decode cL_law 585 = .ok (.iconst 2, 1) := by decide +kernel
theorem dL_law_586 : decode cL_law 586 = .ok (.iadd, 1) := by decide +kernel
theorem dL_law_587 : decode cL_law 587 = .ok (.iaload, 1) := by decide +kernel
theorem dL_law_588 : decode cL_law 588 = .ok (.aload_n 0, 1) := by decide +kernel
theorem dL_law_589 : decode cL_law 589 = .ok (.iload_n 3, 1) := by decide +kernel
theorem dL_law_590 : decode cL_law 590 = .ok (.iconst 3, 1) := by decide +kernel
theorem dL_law_591 : decode cL_law 591 = .ok (.iadd, 1) := by decide +kernel
theorem dL_law_592 : decode cL_law 592 = .ok (.iaload, 1) := by decide +kernel
theorem dL_law_593 : decode cL_law 593 = .ok (.invokevirtual 67, 3) := by decide +kernel
theorem dL_law_596 : decode cL_law 596 = .ok (.if_icmp .eq 334, 3) := by decide +kernel
theorem dL_law_599 : decode cL_law 599 = .ok (.iconst 0, 1) := by decide +kernel
theorem dL_law_600 : decode cL_law 600 = .ok (.ireturn, 1) := by decide +kernel
theorem dL_law_601 : decode cL_law 601 = .ok (.aload_n 1, 1) := by decide +kernel
theorem dL_law_602 : decode cL_law 602 = .ok (.aload_n 0, 1) := by decide +kernel
theorem dL_law_603 : decode cL_law 603 = .ok (.iload_n 3, 1) := by decide +kernel
theorem dL_law_604 : decode cL_law 604 = .ok (.iconst 1, 1) := by decide +kernel
theorem dL_law_605 : decode cL_law 605 = .ok (.iadd, 1) := by decide +kernel
theorem dL_law_606 : decode cL_law 606 = .ok (.iaload, 1) := by decide +kernel
theorem dL_law_607 : decode cL_law 607 = .ok (.invokevirtual 68, 3) := by decide +kernel
theorem dL_law_610 : decode cL_law 610 = .ok (.aload_n 2, 1) := by decide +kernel
theorem dL_law_611 : decode cL_law 611 = .ok (.aload_n 0, 1) := by decide +kernel
theorem dL_law_612 : decode cL_law 612 = .ok (.iload_n 3, 1) := by decide +kernel
theorem dL_law_613 : decode cL_law 613 = .ok (.iconst 1, 1) := by decide +kernel
theorem dL_law_614 : decode cL_law 614 = .ok (.iadd, 1) := by decide +kernel
theorem dL_law_615 : decode cL_law 615 = .ok (.iaload, 1) := by decide +kernel
theorem dL_law_616 : decode cL_law 616 = .ok (.invokevirtual 71, 3) := by decide +kernel
theorem dL_law_619 : decode cL_law 619 = .ok (.if_icmp .eq 311, 3) := by decide +kernel
theorem dL_law_622 : decode cL_law 622 = .ok (.iconst 0, 1) := by decide +kernel
theorem dL_law_623 : decode cL_law 623 = .ok (.ireturn, 1) := by decide +kernel
theorem dL_law_624 : decode cL_law 624 = .ok (.aload_n 1, 1) := by decide +kernel
theorem dL_law_625 : decode cL_law 625 = .ok (.aload_n 0, 1) := by decide +kernel
theorem dL_law_626 : decode cL_law 626 = .ok (.iload_n 3, 1) := by decide +kernel
theorem dL_law_627 : decode cL_law 627 = .ok (.iconst 1, 1) := by decide +kernel
theorem dL_law_628 : decode cL_law 628 = .ok (.iadd, 1) := by decide +kernel
theorem dL_law_629 : decode cL_law 629 = .ok (.iaload, 1) := by decide +kernel
theorem dL_law_630 : decode cL_law 630 = .ok (.invokevirtual 72, 3) := by decide +kernel
theorem dL_law_633 : decode cL_law 633 = .ok (.aload_n 2, 1) := by decide +kernel
theorem dL_law_634 : decode cL_law 634 = .ok (.aload_n 0, 1) := by decide +kernel
theorem dL_law_635 : decode cL_law 635 = .ok (.iload_n 3, 1) := by decide +kernel
theorem dL_law_636 : decode cL_law 636 = .ok (.iconst 1, 1) := by decide +kernel
theorem dL_law_637 : decode cL_law 637 = .ok (.iadd, 1) := by decide +kernel
theorem dL_law_638 : decode cL_law 638 = .ok (.iaload, 1) := by decide +kernel
theorem dL_law_639 : decode cL_law 639 = .ok (.invokevirtual 75, 3) := by decide +kernel
theorem dL_law_642 : decode cL_law 642 = .ok (.if_icmp .eq 288, 3) := by decide +kernel
theorem dL_law_645 : decode cL_law 645 = .ok (.iconst 0, 1) := by decide +kernel
theorem dL_law_646 : decode cL_law 646 = .ok (.ireturn, 1) := by decide +kernel
theorem dL_law_647 : decode cL_law 647 = .ok (.aload_n 1, 1) := by decide +kernel
theorem dL_law_648 : decode cL_law 648 = .ok (.aload_n 0, 1) := by decide +kernel
theorem dL_law_649 : decode cL_law 649 = .ok (.iload_n 3, 1) := by decide +kernel
theorem dL_law_650 : decode cL_law 650 = .ok (.iconst 1, 1) := by decide +kernel
theorem dL_law_651 : decode cL_law 651 = .ok (.iadd, 1) := by decide +kernel
theorem dL_law_652 : decode cL_law 652 = .ok (.iaload, 1) := by decide +kernel
theorem dL_law_653 : decode cL_law 653 = .ok (.aload_n 0, 1) := by decide +kernel
theorem dL_law_654 : decode cL_law 654 = .ok (.iload_n 3, 1) := by decide +kernel
theorem dL_law_655 : decode cL_law 655 = .ok (.iconst 2, 1) := by decide +kernel
theorem dL_law_656 : decode cL_law 656 = .ok (.iadd, 1) := by decide +kernel
theorem dL_law_657 : decode cL_law 657 = .ok (.iaload, 1) := by decide +kernel
theorem dL_law_658 : decode cL_law 658 = .ok (.invokevirtual 76, 3) := by decide +kernel
theorem dL_law_661 : decode cL_law 661 = .ok (.aload_n 2, 1) := by decide +kernel
theorem dL_law_662 : decode cL_law 662 = .ok (.aload_n 0, 1) := by decide +kernel
theorem dL_law_663 : decode cL_law 663 = .ok (.iload_n 3, 1) := by decide +kernel
theorem dL_law_664 : decode cL_law 664 = .ok (.iconst 1, 1) := by decide +kernel
theorem dL_law_665 : decode cL_law 665 = .ok (.iadd, 1) := by decide +kernel
theorem dL_law_666 : decode cL_law 666 = .ok (.iaload, 1) := by decide +kernel
theorem dL_law_667 : decode cL_law 667 = .ok (.aload_n 0, 1) := by decide +kernel
theorem dL_law_668 : decode cL_law 668 = .ok (.iload_n 3, 1) := by decide +kernel
theorem dL_law_669 : decode cL_law 669 = .ok (.iconst 2, 1) := by decide +kernel
theorem dL_law_670 : decode cL_law 670 = .ok (.iadd, 1) := by decide +kernel
theorem dL_law_671 : decode cL_law 671 = .ok (.iaload, 1) := by decide +kernel
theorem dL_law_672 : decode cL_law 672 = .ok (.invokevirtual 79, 3) := by decide +kernel
theorem dL_law_675 : decode cL_law 675 = .ok (.if_icmp .eq 255, 3) := by decide +kernel
theorem dL_law_678 : decode cL_law 678 = .ok (.iconst 0, 1) := by decide +kernel
theorem dL_law_679 : decode cL_law 679 = .ok (.ireturn, 1) := by decide +kernel
theorem dL_law_680 : decode cL_law 680 = .ok (.aload_n 1, 1) := by decide +kernel
theorem dL_law_681 : decode cL_law 681 = .ok (.aload_n 0, 1) := by decide +kernel
theorem dL_law_682 : decode cL_law 682 = .ok (.iload_n 3, 1) := by decide +kernel
theorem dL_law_683 : decode cL_law 683 = .ok (.iconst 1, 1) := by decide +kernel
theorem dL_law_684 : decode cL_law 684 = .ok (.iadd, 1) := by decide +kernel
theorem dL_law_685 : decode cL_law 685 = .ok (.iaload, 1) := by decide +kernel
theorem dL_law_686 : decode cL_law 686 = .ok (.aload_n 0, 1) := by decide +kernel
theorem dL_law_687 : decode cL_law 687 = .ok (.iload_n 3, 1) := by decide +kernel
theorem dL_law_688 : decode cL_law 688 = .ok (.iconst 2, 1) := by decide +kernel
theorem dL_law_689 : decode cL_law 689 = .ok (.iadd, 1) := by decide +kernel
theorem dL_law_690 : decode cL_law 690 = .ok (.iaload, 1) := by decide +kernel
theorem dL_law_691 : decode cL_law 691 = .ok (.aload_n 0, 1) := by decide +kernel
theorem dL_law_692 : decode cL_law 692 = .ok (.iload_n 3, 1) := by decide +kernel
theorem dL_law_693 : decode cL_law 693 = .ok (.iconst 3, 1) := by decide +kernel
theorem dL_law_694 : decode cL_law 694 = .ok (.iadd, 1) := by decide +kernel
theorem dL_law_695 : decode cL_law 695 = .ok (.iaload, 1) := by decide +kernel
theorem dL_law_696 : decode cL_law 696 = .ok (.invokevirtual 80, 3) := by decide +kernel
theorem dL_law_699 : decode cL_law 699 = .ok (.aload_n 2, 1) := by decide +kernel
theorem dL_law_700 : decode cL_law 700 = .ok (.aload_n 0, 1) := by decide +kernel
theorem dL_law_701 : decode cL_law 701 = .ok (.iload_n 3, 1) := by decide +kernel
theorem dL_law_702 : decode cL_law 702 = .ok (.iconst 1, 1) := by decide +kernel
theorem dL_law_703 : decode cL_law 703 = .ok (.iadd, 1) := by decide +kernel
theorem dL_law_704 : decode cL_law 704 = .ok (.iaload, 1) := by decide +kernel
theorem dL_law_705 : decode cL_law 705 = .ok (.aload_n 0, 1) := by decide +kernel
theorem dL_law_706 : decode cL_law 706 = .ok (.iload_n 3, 1) := by decide +kernel
theorem dL_law_707 : decode cL_law 707 = .ok (.iconst 2, 1) := by decide +kernel
theorem dL_law_708 : decode cL_law 708 = .ok (.iadd, 1) := by decide +kernel
theorem dL_law_709 : decode cL_law 709 = .ok (.iaload, 1) := by decide +kernel
theorem dL_law_710 : decode cL_law 710 = .ok (.aload_n 0, 1) := by decide +kernel
theorem dL_law_711 : decode cL_law 711 = .ok (.iload_n 3, 1) := by decide +kernel
theorem dL_law_712 : decode cL_law 712 = .ok (.iconst 3, 1) := by decide +kernel
theorem dL_law_713 : decode cL_law 713 = .ok (.iadd, 1) := by decide +kernel
theorem dL_law_714 : decode cL_law 714 = .ok (.iaload, 1) := by decide +kernel
theorem dL_law_715 : decode cL_law 715 = .ok (.invokevirtual 83, 3) := by decide +kernel
theorem dL_law_718 : decode cL_law 718 = .ok (.if_icmp .eq 212, 3) := by decide +kernel
theorem dL_law_721 : decode cL_law 721 = .ok (.iconst 0, 1) := by decide +kernel
theorem dL_law_722 : decode cL_law 722 = .ok (.ireturn, 1) := by decide +kernel
theorem dL_law_723 : decode cL_law 723 = .ok (.aload_n 1, 1) := by decide +kernel
theorem dL_law_724 : decode cL_law 724 = .ok (.aload_n 0, 1) := by decide +kernel
theorem dL_law_725 : decode cL_law 725 = .ok (.iload_n 3, 1) := by decide +kernel
theorem dL_law_726 : decode cL_law 726 = .ok (.iconst 1, 1) := by decide +kernel
theorem dL_law_727 : decode cL_law 727 = .ok (.iadd, 1) := by decide +kernel
theorem dL_law_728 : decode cL_law 728 = .ok (.iaload, 1) := by decide +kernel
theorem dL_law_729 : decode cL_law 729 = .ok (.invokevirtual 84, 3) := by decide +kernel
theorem dL_law_732 : decode cL_law 732 = .ok (.aload_n 2, 1) := by decide +kernel
theorem dL_law_733 : decode cL_law 733 = .ok (.aload_n 0, 1) := by decide +kernel
theorem dL_law_734 : decode cL_law 734 = .ok (.iload_n 3, 1) := by decide +kernel
theorem dL_law_735 : decode cL_law 735 = .ok (.iconst 1, 1) := by decide +kernel
theorem dL_law_736 : decode cL_law 736 = .ok (.iadd, 1) := by decide +kernel
theorem dL_law_737 : decode cL_law 737 = .ok (.iaload, 1) := by decide +kernel
theorem dL_law_738 : decode cL_law 738 = .ok (.invokevirtual 87, 3) := by decide +kernel
theorem dL_law_741 : decode cL_law 741 = .ok (.if_icmp .eq 189, 3) := by decide +kernel
theorem dL_law_744 : decode cL_law 744 = .ok (.iconst 0, 1) := by decide +kernel
theorem dL_law_745 : decode cL_law 745 = .ok (.ireturn, 1) := by decide +kernel
theorem dL_law_746 : decode cL_law 746 = .ok (.aload_n 1, 1) := by decide +kernel
theorem dL_law_747 : decode cL_law 747 = .ok (.aload_n 0, 1) := by decide +kernel
theorem dL_law_748 : decode cL_law 748 = .ok (.iload_n 3, 1) := by decide +kernel
theorem dL_law_749 : decode cL_law 749 = .ok (.iconst 1, 1) := by decide +kernel
theorem dL_law_750 : decode cL_law 750 = .ok (.iadd, 1) := by decide +kernel
theorem dL_law_751 : decode cL_law 751 = .ok (.iaload, 1) := by decide +kernel
theorem dL_law_752 : decode cL_law 752 = .ok (.invokevirtual 88, 3) := by decide +kernel
theorem dL_law_755 : decode cL_law 755 = .ok (.aload_n 2, 1) := by decide +kernel
theorem dL_law_756 : decode cL_law 756 = .ok (.aload_n 0, 1) := by decide +kernel
theorem dL_law_757 : decode cL_law 757 = .ok (.iload_n 3, 1) := by decide +kernel
theorem dL_law_758 : decode cL_law 758 = .ok (.iconst 1, 1) := by decide +kernel
theorem dL_law_759 : decode cL_law 759 = .ok (.iadd, 1) := by decide +kernel
theorem dL_law_760 : decode cL_law 760 = .ok (.iaload, 1) := by decide +kernel
theorem dL_law_761 : decode cL_law 761 = .ok (.invokevirtual 91, 3) := by decide +kernel
theorem dL_law_764 : decode cL_law 764 = .ok (.if_icmp .eq 166, 3) := by decide +kernel
theorem dL_law_767 : decode cL_law 767 = .ok (.iconst 0, 1) := by decide +kernel
theorem dL_law_768 : decode cL_law 768 = .ok (.ireturn, 1) := by decide +kernel
theorem dL_law_769 : decode cL_law 769 = .ok (.aload_n 1, 1) := by decide +kernel
theorem dL_law_770 : decode cL_law 770 = .ok (.aload_n 0, 1) := by decide +kernel
theorem dL_law_771 : decode cL_law 771 = .ok (.iload_n 3, 1) := by decide +kernel
theorem dL_law_772 : decode cL_law 772 = .ok (.iconst 1, 1) := by decide +kernel
theorem dL_law_773 : decode cL_law 773 = .ok (.iadd, 1) := by decide +kernel
theorem dL_law_774 : decode cL_law 774 = .ok (.iaload, 1) := by decide +kernel
theorem dL_law_775 : decode cL_law 775 = .ok (.invokevirtual 92, 3) := by decide +kernel
theorem dL_law_778 : decode cL_law 778 = .ok (.aload_n 2, 1) := by decide +kernel
theorem dL_law_779 : decode cL_law 779 = .ok (.aload_n 0, 1) := by decide +kernel
theorem dL_law_780 : decode cL_law 780 = .ok (.iload_n 3, 1) := by decide +kernel
theorem dL_law_781 : decode cL_law 781 = .ok (.iconst 1, 1) := by decide +kernel
theorem dL_law_782 : decode cL_law 782 = .ok (.iadd, 1) := by decide +kernel
theorem dL_law_783 : decode cL_law 783 = .ok (.iaload, 1) := by decide +kernel
theorem dL_law_784 : decode cL_law 784 = .ok (.invokevirtual 95, 3) := by decide +kernel
theorem dL_law_787 : decode cL_law 787 = .ok (.if_icmp .eq 143, 3) := by decide +kernel
theorem dL_law_790 : decode cL_law 790 = .ok (.iconst 0, 1) := by decide +kernel
theorem dL_law_791 : decode cL_law 791 = .ok (.ireturn, 1) := by decide +kernel
theorem dL_law_792 : decode cL_law 792 = .ok (.aload_n 1, 1) := by decide +kernel
theorem dL_law_793 : decode cL_law 793 = .ok (.aload_n 0, 1) := by decide +kernel
theorem dL_law_794 : decode cL_law 794 = .ok (.iload_n 3, 1) := by decide +kernel
theorem dL_law_795 : decode cL_law 795 = .ok (.iconst 1, 1) := by decide +kernel
theorem dL_law_796 : decode cL_law 796 = .ok (.iadd, 1) := by decide +kernel
theorem dL_law_797 : decode cL_law 797 = .ok (.iaload, 1) := by decide +kernel
theorem dL_law_798 : decode cL_law 798 = .ok (.i2l, 1) := by decide +kernel
theorem dL_law_799 : decode cL_law 799 = .ok (.bipush 32, 2) := by decide +kernel
theorem dL_law_801 : decode cL_law 801 = .ok (.lshl, 1) := by decide +kernel
theorem dL_law_802 : decode cL_law 802 = .ok (.aload_n 0, 1) := by decide +kernel
theorem dL_law_803 : decode cL_law 803 = .ok (.iload_n 3, 1) := by decide +kernel
theorem dL_law_804 : decode cL_law 804 = .ok (.iconst 2, 1) := by decide +kernel
theorem dL_law_805 : decode cL_law 805 = .ok (.iadd, 1) := by decide +kernel
theorem dL_law_806 : decode cL_law 806 = .ok (.iaload, 1) := by decide +kernel
theorem dL_law_807 : decode cL_law 807 = .ok (.i2l, 1) := by decide +kernel
theorem dL_law_808 : decode cL_law 808 = .ok (.ldc2_w 96, 3) := by decide +kernel
theorem dL_law_811 : decode cL_law 811 = .ok (.land, 1) := by decide +kernel
theorem dL_law_812 : decode cL_law 812 = .ok (.lor, 1) := by decide +kernel
theorem dL_law_813 : decode cL_law 813 = .ok (.invokevirtual 98, 3) := by decide +kernel
theorem dL_law_816 : decode cL_law 816 = .ok (.aload_n 2, 1) := by decide +kernel
theorem dL_law_817 : decode cL_law 817 = .ok (.aload_n 0, 1) := by decide +kernel
theorem dL_law_818 : decode cL_law 818 = .ok (.iload_n 3, 1) := by decide +kernel
theorem dL_law_819 : decode cL_law 819 = .ok (.iconst 1, 1) := by decide +kernel
theorem dL_law_820 : decode cL_law 820 = .ok (.iadd, 1) := by decide +kernel
theorem dL_law_821 : decode cL_law 821 = .ok (.iaload, 1) := by decide +kernel
theorem dL_law_822 : decode cL_law 822 = .ok (.i2l, 1) := by decide +kernel
theorem dL_law_823 : decode cL_law 823 = .ok (.bipush 32, 2) := by decide +kernel
theorem dL_law_825 : decode cL_law 825 = .ok (.lshl, 1) := by decide +kernel
theorem dL_law_826 : decode cL_law 826 = .ok (.aload_n 0, 1) := by decide +kernel
theorem dL_law_827 : decode cL_law 827 = .ok (.iload_n 3, 1) := by decide +kernel
theorem dL_law_828 : decode cL_law 828 = .ok (.iconst 2, 1) := by decide +kernel
theorem dL_law_829 : decode cL_law 829 = .ok (.iadd, 1) := by decide +kernel
theorem dL_law_830 : decode cL_law 830 = .ok (.iaload, 1) := by decide +kernel
theorem dL_law_831 : decode cL_law 831 = .ok (.i2l, 1) := by decide +kernel
theorem dL_law_832 : decode cL_law 832 = .ok (.ldc2_w 96, 3) := by decide +kernel
theorem dL_law_835 : decode cL_law 835 = .ok (.land, 1) := by decide +kernel
theorem dL_law_836 : decode cL_law 836 = .ok (.lor, 1) := by decide +kernel
theorem dL_law_837 : decode cL_law 837 = .ok (.invokevirtual 102, 3) := by decide +kernel
theorem dL_law_840 : decode cL_law 840 = .ok (.if_icmp .eq 90, 3) := by decide +kernel
theorem dL_law_843 : decode cL_law 843 = .ok (.iconst 0, 1) := by decide +kernel
theorem dL_law_844 : decode cL_law 844 = .ok (.ireturn, 1) := by decide +kernel
theorem dL_law_845 : decode cL_law 845 = .ok (.aload_n 1, 1) := by decide +kernel
theorem dL_law_846 : decode cL_law 846 = .ok (.invokevirtual 103, 3) := by decide +kernel
theorem dL_law_849 : decode cL_law 849 = .ok (.aload_n 2, 1) := by decide +kernel
theorem dL_law_850 : decode cL_law 850 = .ok (.invokevirtual 107, 3) := by decide +kernel
theorem dL_law_853 : decode cL_law 853 = .ok (.if_icmp .eq 77, 3) := by decide +kernel
theorem dL_law_856 : decode cL_law 856 = .ok (.iconst 0, 1) := by decide +kernel
theorem dL_law_857 : decode cL_law 857 = .ok (.ireturn, 1) := by decide +kernel
theorem dL_law_858 : decode cL_law 858 = .ok (.aload_n 1, 1) := by decide +kernel
theorem dL_law_859 : decode cL_law 859 = .ok (.invokevirtual 108, 3) := by decide +kernel
theorem dL_law_862 : decode cL_law 862 = .ok (.aload_n 2, 1) := by decide +kernel
theorem dL_law_863 : decode cL_law 863 = .ok (.invokevirtual 111, 3) := by decide +kernel
theorem dL_law_866 : decode cL_law 866 = .ok (.if_icmp .eq 64, 3) := by decide +kernel
theorem dL_law_869 : decode cL_law 869 = .ok (.iconst 0, 1) := by decide +kernel
theorem dL_law_870 : decode cL_law 870 = .ok (.ireturn, 1) := by decide +kernel
theorem dL_law_871 : decode cL_law 871 = .ok (.aload_n 1, 1) := by decide +kernel
theorem dL_law_872 : decode cL_law 872 = .ok (.invokevirtual 112, 3) := by decide +kernel
theorem dL_law_875 : decode cL_law 875 = .ok (.aload_n 2, 1) := by decide +kernel
theorem dL_law_876 : decode cL_law 876 = .ok (.invokevirtual 115, 3) := by decide +kernel
theorem dL_law_879 : decode cL_law 879 = .ok (.if_icmp .eq 51, 3) := by decide +kernel
theorem dL_law_882 : decode cL_law 882 = .ok (.iconst 0, 1) := by decide +kernel
theorem dL_law_883 : decode cL_law 883 = .ok (.ireturn, 1) := by decide +kernel
theorem dL_law_884 : decode cL_law 884 = .ok (.aload_n 1, 1) := by decide +kernel
theorem dL_law_885 : decode cL_law 885 = .ok (.aload_n 0, 1) := by decide +kernel
theorem dL_law_886 : decode cL_law 886 = .ok (.iload_n 3, 1) := by decide +kernel
theorem dL_law_887 : decode cL_law 887 = .ok (.iconst 1, 1) := by decide +kernel
theorem dL_law_888 : decode cL_law 888 = .ok (.iadd, 1) := by decide +kernel
theorem dL_law_889 : decode cL_law 889 = .ok (.iaload, 1) := by decide +kernel
theorem dL_law_890 : decode cL_law 890 = .ok (.invokevirtual 116, 3) := by decide +kernel
theorem dL_law_893 : decode cL_law 893 = .ok (.aload_n 2, 1) := by decide +kernel
theorem dL_law_894 : decode cL_law 894 = .ok (.aload_n 0, 1) := by decide +kernel
theorem dL_law_895 : decode cL_law 895 = .ok (.iload_n 3, 1) := by decide +kernel
theorem dL_law_896 : decode cL_law 896 = .ok (.iconst 1, 1) := by decide +kernel
theorem dL_law_897 : decode cL_law 897 = .ok (.iadd, 1) := by decide +kernel
theorem dL_law_898 : decode cL_law 898 = .ok (.iaload, 1) := by decide +kernel
theorem dL_law_899 : decode cL_law 899 = .ok (.invokevirtual 119, 3) := by decide +kernel
theorem dL_law_902 : decode cL_law 902 = .ok (.if_icmp .eq 28, 3) := by decide +kernel
theorem dL_law_905 : decode cL_law 905 = .ok (.iconst 0, 1) := by decide +kernel
theorem dL_law_906 : decode cL_law 906 = .ok (.ireturn, 1) := by decide +kernel
theorem dL_law_907 : decode cL_law 907 = .ok (.aload_n 1, 1) := by decide +kernel
theorem dL_law_908 : decode cL_law 908 = .ok (.aload_n 0, 1) := by decide +kernel
theorem dL_law_909 : decode cL_law 909 = .ok (.iload_n 3, 1) := by decide +kernel
theorem dL_law_910 : decode cL_law 910 = .ok (.iconst 1, 1) := by decide +kernel
theorem dL_law_911 : decode cL_law 911 = .ok (.iadd, 1) := by decide +kernel
theorem dL_law_912 : decode cL_law 912 = .ok (.iaload, 1) := by decide +kernel
theorem dL_law_913 : decode cL_law 913 = .ok (.invokevirtual 120, 3) := by decide +kernel
theorem dL_law_916 : decode cL_law 916 = .ok (.aload_n 2, 1) := by decide +kernel
theorem dL_law_917 : decode cL_law 917 = .ok (.aload_n 0, 1) := by decide +kernel
theorem dL_law_918 : decode cL_law 918 = .ok (.iload_n 3, 1) := by decide +kernel
theorem dL_law_919 : decode cL_law 919 = .ok (.iconst 1, 1) := by decide +kernel
theorem dL_law_920 : decode cL_law 920 = .ok (.iadd, 1) := by decide +kernel
theorem dL_law_921 : decode cL_law 921 = .ok (.iaload, 1) := by decide +kernel
theorem dL_law_922 : decode cL_law 922 = .ok (.invokevirtual 123, 3) := by decide +kernel
theorem dL_law_925 : decode cL_law 925 = .ok (.if_icmp .eq 5, 3) := by decide +kernel
theorem dL_law_928 : decode cL_law 928 = .ok (.iconst 0, 1) := by decide +kernel
theorem dL_law_929 : decode cL_law 929 = .ok (.ireturn, 1) := by decide +kernel
theorem dL_law_930 : decode cL_law 930 = .ok (.iinc 3 4, 3) := by decide +kernel
theorem dL_law_933 : decode cL_law 933 = .ok (.goto (-915), 3) := by decide +kernel
theorem dL_law_936 : decode cL_law 936 = .ok (.iconst 1, 1) := by decide +kernel
theorem dL_law_937 : decode cL_law 937 = .ok (.ireturn, 1) := by decide +kernel
abbrev vwCl : List vw_C := [(RX0, TX0, 2), (RX1, TX1, 7), (RX2, TX2, 2), (RX3, TX3, 2), (RX5, TX5, 5), (RX7, TX7, 6), (RX8, TX8, 15)]
end
section
/-! ===== the heap as the proofs see it: an object of a class (its number in vwCl, its fields) or an array (its kind, length, contents) by address ===== -/
abbrev Ob : Type := (Nat × List Value) ⊕ (Nat × vp_A)
abbrev PS : Type := Nat → Ob
def oJ : Ob := .inl (99, [])
def cv (Y : Nat → ClassId) : Ob → va_E := fun o => match o with
  | .inl x => .inr x
  | .inr x => .inl (Y x.1, x.2)
def pW (Y : Nat → ClassId) (L : List Nat) (S : PS) : va_W := [] ++ va_pl L (fun a => cv Y (S a))
def pTys (Y : Nat → ClassId) : List (ClassId × FieldType) := [(Y 0, .char), (Y 1, .int), (Y 2, .long), (Y 3, .object RX0), (Y 4, .object RX1)]
abbrev aC (n : Nat) (f : Nat → Int32) : Ob := .inr (0, n, .inl f)
abbrev aI (n : Nat) (f : Nat → Int32) : Ob := .inr (1, n, .inl f)
abbrev aJ (n : Nat) (f : Nat → Int64) : Ob := .inr (2, n, .inr (.inl f))
abbrev aD (n : Nat) (f : Nat → Option Nat) : Ob := .inr (3, n, .inr (.inr (.inr (.inr f))))
abbrev aL (n : Nat) (f : Nat → Option Nat) : Ob := .inr (4, n, .inr (.inr (.inr (.inr f))))
/-- the private members of nest mates, the arrays of references: what the tables say of them -/
def nzL : List (String × Nat × MethodName × String) := [(RX1, 44, yX0_init, RX7), (RX7, 18, yX3_init, RX7), (RX7, 29, yX2_init, RX7), (RX7, 36, yX5_init, RX7), (RX7, 43, yX0_init, RX7), (RX3, 24, yX7_isBelow, RX7), (RX1, 55, yX7_isBelow, RX7), (RX1, 63, yX7_hasBit, RX7), (RX0, 19, yX7_isBelow, RX7), (RX6, 17, yX7_hasBit, RX7), (RX5, 28, yX7_isBelow, RX7), (RX5, 50, yX7_hasBit, RX7), (RX2, 25, yX7_isBelow, RX7)]
def NZ (U : State) : Prop := (∀ q ∈ nzL, va_Nw (.methodLinkNest q.1 q.2.1 q.2.2.1 q.2.2.2) U) ∧ va_AO RX0 U ∧ va_AO RX1 U
theorem NZ.warm {s U : State} (hW : s.WarmedH U.vm) (h : NZ s) : NZ U := ⟨fun q hq => va_Nw.warmM hW (h.1 q hq), va_AO.moved hW.alike h.2.1, va_AO.moved hW.alike h.2.2⟩
theorem NZ.same {u U : State} (e : u.vm = U.vm) (h : NZ u) : NZ U := ⟨fun q hq => va_Nw.same rfl e (h.1 q hq), va_AO.moved (by rw [e]; exact Vm.Alike.refl _) h.2.1, va_AO.moved (by rw [e]; exact Vm.Alike.refl _) h.2.2⟩
theorem NZ.nest {U : State} (h : NZ U) (k : Nat) {q : String × Nat × MethodName × String} (hk : nzL[k]? = some q) : va_Nw (.methodLinkNest q.1 q.2.1 q.2.2.1 q.2.2.2) U := h.1 q (List.mem_of_getElem? hk)
def fR (L : List Nat) (sz : Nat) : Nat → Prop := fun q => q ∈ L ∨ sz ≤ q
def HO (D : va_G) (Y : Nat → ClassId) (A : Nat → Prop) (H0 : Heap) (S : PS) (H : Heap) (locs : List Loc) : Prop := ∃ L : List Nat, (∀ a, S a ≠ oJ → a ∈ L) ∧ va_P D vwCl (pW Y L S) H ∧ va_D A (pW Y L S) ∧ va_S A H0 H locs ∧ ∀ q, H0.size ≤ q → A q
def PrO (D : va_G) (Y : Nat → ClassId) (L : List Nat) (S : PS) (sz : Nat) : State → Prop := fun U => U.heap.size = sz ∧ (∀ a, S a ≠ oJ → a ∈ L) ∧ va_P D vwCl (pW Y L S) U.heap ∧ va_K D vwCl (pTys Y) U ∧ va_D (fun _ => True) (pW Y L S) ∧ NZ U
def QtO (D : va_G) (Y : Nat → ClassId) (A : Nat → Prop) : PS → State → Prop := fun S t => ∃ L : List Nat, (∀ a, S a ≠ oJ → a ∈ L) ∧ va_P D vwCl (pW Y L S) t.heap ∧ va_D A (pW Y L S)
def CX (p : Program) (m : MethodId) (c : Code) (cc : ByteArray) (nL : Nat) (s : State) (args : Array Value) (Ts : List Cond) (own : String) (D : va_G) (Y : Nat → ClassId) : Prop := CallFix p m c cc nL s args Ts own ∧ va_K D vwCl (pTys Y) s ∧ NZ s
/-- loops: as often as wanted -/
def wpL {σ : Type} (body : (σ → Prop) → σ → Prop) : Nat → σ → Prop
  | 0, _ => False
  | n + 1, s => body (wpL body n) s
theorem wpL_inv {σ : Type} {body : (σ → Prop) → σ → Prop} (I : σ → Prop) (μ : σ → Nat) (hs : ∀ s, I s → ∀ K : σ → Prop, (∀ s', I s' → μ s' < μ s → K s') → body K s) {s : σ} (h : I s) : ∃ n, wpL body n s := by
  have key : ∀ n s, I s → μ s < n → wpL body n s := by
    intro n
    induction n with
    | zero => intro s _ h; exact absurd h (Nat.not_lt_zero _)
    | succ n ih =>
      intro s hI hn
      exact hs s hI _ (fun s' h1 h2 => ih s' h1 (by omega))
  exact ⟨_, key _ s h (Nat.lt_succ_self _)⟩
/-! the pool -/
theorem pW_at {Y : Nat → ClassId} {L : List Nat} {S : PS} {a : Nat} {o : Ob} (hL : a ∈ L) (h : S a = o) : ∃ k : Nat, (pW Y L S)[k]? = some (a, cv Y o) := by
  obtain ⟨k, hk⟩ := va_pl_get (X := []) (f := fun a => cv Y (S a)) hL
  exact ⟨k, by rw [← h]; exact hk⟩
theorem pW_set {Y : Nat → ClassId} {A : Nat → Prop} {L : List Nat} {S : PS} {a k : Nat} {o o' : Ob} (hD : va_D A (pW Y L S)) (hL : a ∈ L) (h : S a = o) (hk : (pW Y L S)[k]? = some (a, cv Y o)) : (pW Y L S).set k (a, cv Y o') = pW Y L (va_up S a o') := by
  subst h
  show ([] ++ va_pl L (fun a => cv Y (S a))).set k (a, cv Y o') = [] ++ va_pl L (fun b => cv Y (va_up S a o' b))
  rw [va_pl_set hD hL hk]
  refine congrArg (fun l => [] ++ l) (va_pl_congr fun b => ?_)
  by_cases hb : b = a
  · subst hb; rw [va_up_self, va_up_self]
  · rw [va_up_ne _ _ hb, va_up_ne _ _ hb]
theorem pW_push {Y : Nat → ClassId} {L : List Nat} {S : PS} {a : Nat} {o : Ob} (hL : a ∉ L) : pW Y L S ++ [(a, cv Y o)] = pW Y (L ++ [a]) (va_up S a o) := by
  show ([] ++ va_pl L (fun a => cv Y (S a))) ++ [(a, cv Y o)] = [] ++ va_pl (L ++ [a]) (fun b => cv Y (va_up S a o b))
  rw [List.append_assoc, va_pl_push hL]
  refine congrArg (fun l => [] ++ l) (va_pl_congr fun b => ?_)
  by_cases hb : b = a
  · subst hb; rw [va_up_self, va_up_self]
  · rw [va_up_ne _ _ hb, va_up_ne _ _ hb]
theorem pW_fresh {Y : Nat → ClassId} {A : Nat → Prop} {L : List Nat} {S : PS} {q : Nat} {e : va_E} (hD : va_D A (pW Y L S ++ [(q, e)])) : q ∉ L := va_pl_fresh2 hD
theorem pW_in {Y : Nat → ClassId} {L : List Nat} {S : PS} {k : Nat} {q : Nat × va_E} (h : (pW Y L S)[k]? = some q) : q.1 ∈ L := by
  have h1 : q ∈ va_pl L (fun a => cv Y (S a)) := List.mem_of_getElem? (i := k) h
  obtain ⟨a, ha, e⟩ := List.mem_map.mp h1
  rw [← e]
  exact ha
theorem up_ne_oJ {S : PS} {L : List Nat} {a : Nat} {o : Ob} (h : ∀ a, S a ≠ oJ → a ∈ L) (ha : a ∈ L) : ∀ b, va_up S a o b ≠ oJ → b ∈ L := fun b hb => by
  by_cases e : b = a
  · rw [e]; exact ha
  · rw [va_up_ne _ _ e] at hb; exact h b hb
theorem up_ne_oJ2 {S : PS} {L : List Nat} {a : Nat} {o : Ob} (h : ∀ a, S a ≠ oJ → a ∈ L) : ∀ b, va_up S a o b ≠ oJ → b ∈ L ++ [a] := fun b hb => by
  by_cases e : b = a
  · rw [e]; simp
  · rw [va_up_ne _ _ e] at hb; exact List.mem_append_left _ (h b hb)
theorem fR_of {A : Nat → Prop} {Y : Nat → ClassId} {L : List Nat} {S : PS} {sz : Nat} (hD : va_D A (pW Y L S)) (hA : ∀ q, sz ≤ q → A q) : ∀ q, fR L sz q → A q := by
  intro q h
  rcases h with h | h
  · obtain ⟨k, hk⟩ := pW_at (Y := Y) (S := S) h rfl
    exact hD.2 k _ hk
  · exact hA q h
section BASE
variable {p : Program} {l : Launch} {e : Env} {R : Room} {s : State} {m : MethodId} {args : Array Value} {below : List Frame} {meth : Method} {c : Code} {H H0 : Heap} {locs : List Loc} {cells slots : Nat} {Q : State → Prop}
variable {cc : ByteArray} {nL pc : Nat} {Ts : List Cond} {own : String} {D : va_G} {Y : Nat → ClassId} {A : Nat → Prop} {S : PS} {ls : Array Slot} {rest : List Value} {a : Nat}
theorem CX.calls (C : CX p m c cc nL s args Ts own D Y) : CallFix p m c cc nL s args Ts own := C.1
theorem CX.ts (C : CX p m c cc nL s args Ts own D Y) {w : Cond} (h : w ∈ Ts) : w.before args s = true := C.1.2.2.2.2 w h
theorem vwCl_lt {ci : Nat} {q : vw_C} (h : vwCl[ci]? = some q) : ci < 7 := (List.getElem?_eq_some_iff.mp h).1
theorem ne_oJ {ci : Nat} {q : vw_C} {fs : List Value} {o : Ob} (h : vwCl[ci]? = some q) (e : o = .inl (ci, fs)) : o ≠ oJ := by
  rw [e]; intro h2
  have h3 : (ci, fs) = (99, ([] : List Value)) := Sum.inl.inj h2
  have := vwCl_lt h
  have h4 : ci = 99 := congrArg Prod.fst h3
  omega
theorem ne_oJr {x : Nat × vp_A} {o : Ob} (e : o = .inr x) : o ≠ oJ := by rw [e]; intro h2; cases h2
theorem r_get (C : CX p m c cc nL s args Ts own D Y) (hO : HO D Y A H0 S H locs) (ci : Nat) {q : vw_C} {fs : List Value} {v : Value} (k : Nat) (hc : vwCl[ci]? = some q) (hin : ∀ w ∈ u_ws q.1 q.2.1 q.2.2, w ∈ Ts) (hk : k < q.2.2) (he : S a = .inl (ci, fs)) (hv : fs[k]? = some v) {index : Nat} (hl : Cond.fieldLink own index (q.2.1 k).1 (q.2.1 k).2.1 (q.2.1 k).2.2.1 ∈ Ts) (hdg : decode cc pc = .ok (.getfield index, 3))
    (kk : W p l e R s m args below meth c H locs cells slots Q (F0 m (pc + 3) ls (v :: rest))) : W p l e R s m args below meth c H locs cells slots Q (F0 m pc ls (.ref a :: rest)) := by
  obtain ⟨L, hL, hP, hD, hS, hA⟩ := hO
  obtain ⟨k0, hk0⟩ := pW_at (Y := Y) (hL a (ne_oJ hc he)) he
  obtain ⟨⟨hx, hb, hml, hown, hts⟩, hK, hZ⟩ := C
  exact va_get (C := q.1) (T := q.2.1) (N := q.2.2) hx hb hts hin hown hK hP k0 hk0 hc k hk (hts _ hl) (fun x h => h) hv hdg kk
theorem r_put (C : CX p m c cc nL s args Ts own D Y) (hO : HO D Y A H0 S H locs) (ci : Nat) {q : vw_C} {fs : List Value} {v : Value} (k : Nat) (hc : vwCl[ci]? = some q) (hin : ∀ w ∈ u_ws q.1 q.2.1 q.2.2, w ∈ Ts) {ty0 : Nat → FieldType} (hty : ∀ k, k < q.2.2 → parseFieldDescriptor (q.2.1 k).2.2.1 = some (ty0 k)) (hnm : ∀ a, a < q.2.2 → ∀ b, b < q.2.2 → a ≠ b → (q.2.1 a).2.1 ≠ (q.2.1 b).2.1) (hk : k < q.2.2) (hfin : (q.2.1 k).2.2.2 = false) (hn : narrow (ty0 k) v = v) (hfit : fits (ty0 k) v = true) (he : S a = .inl (ci, fs)) (hlt : k < fs.length) {index : Nat} (hl : Cond.fieldLink own index (q.2.1 k).1 (q.2.1 k).2.1 (q.2.1 k).2.2.1 ∈ Ts) (hdg : decode cc pc = .ok (.putfield index, 3))
    (kk : ∀ (H1 : Heap) (locs1 : List Loc), HO D Y A H0 (va_up S a (.inl (ci, fs.set k v))) H1 locs1 → W p l e R s m args below meth c H1 locs1 cells slots Q (F0 m (pc + 3) ls rest)) : W p l e R s m args below meth c H locs cells slots Q (F0 m pc ls (v :: .ref a :: rest)) := by
  obtain ⟨L, hL, hP, hD, hS, hA⟩ := hO
  have ha := hL a (ne_oJ hc he)
  obtain ⟨k0, hk0⟩ := pW_at (Y := Y) ha he
  obtain ⟨⟨hx, hb, hml, hown, hts⟩, hK, hZ⟩ := C
  refine va_put (C := q.1) (T := q.2.1) (N := q.2.2) hx hb hts hin ty0 hty hnm hown hK hP hD hS k0 hk0 hc k hk (hts _ hl) (fun x h => h) hfin (hty k hk) hn hfit hlt hdg (fun H1 locs1 hP hD hS => ?_)
  have e : (pW Y L S).set k0 (a, .inr (ci, fs.set k v)) = pW Y L (va_up S a (.inl (ci, fs.set k v))) := pW_set (o' := .inl (ci, fs.set k v)) (by assumption) ha he hk0
  rw [e] at hP hD
  exact kk H1 locs1 ⟨L, up_ne_oJ hL ha, hP, hD, hS, hA⟩
theorem r_putF (C : CX p m c cc nL s args Ts own D Y) (hO : HO D Y A H0 S H locs) (ci : Nat) {q : vw_C} {fs : List Value} {v : Value} (k : Nat) (hin2 : meth.name = "<init>") (hc : vwCl[ci]? = some q) (hin : ∀ w ∈ u_ws q.1 q.2.1 q.2.2, w ∈ Ts) {ty0 : Nat → FieldType} (hty : ∀ k, k < q.2.2 → parseFieldDescriptor (q.2.1 k).2.2.1 = some (ty0 k)) (hnm : ∀ a, a < q.2.2 → ∀ b, b < q.2.2 → a ≠ b → (q.2.1 a).2.1 ≠ (q.2.1 b).2.1) (hk : k < q.2.2) (hfin : (q.2.1 k).2.2.2 = true) (hdecl : (q.2.1 k).1 = own) (hn : narrow (ty0 k) v = v) (hfit : fits (ty0 k) v = true) (he : S a = .inl (ci, fs)) (hlt : k < fs.length) {index : Nat} (hl : Cond.fieldLink own index (q.2.1 k).1 (q.2.1 k).2.1 (q.2.1 k).2.2.1 ∈ Ts) (hdg : decode cc pc = .ok (.putfield index, 3))
    (kk : ∀ (H1 : Heap) (locs1 : List Loc), HO D Y A H0 (va_up S a (.inl (ci, fs.set k v))) H1 locs1 → W p l e R s m args below meth c H1 locs1 cells slots Q (F0 m (pc + 3) ls rest)) : W p l e R s m args below meth c H locs cells slots Q (F0 m pc ls (v :: .ref a :: rest)) := by
  obtain ⟨L, hL, hP, hD, hS, hA⟩ := hO
  have ha := hL a (ne_oJ hc he)
  obtain ⟨k0, hk0⟩ := pW_at (Y := Y) ha he
  obtain ⟨⟨hx, hb, hml, hown, hts⟩, hK, hZ⟩ := C
  refine va_putF (C := q.1) (T := q.2.1) (N := q.2.2) hx hb hts hin ty0 hty hnm hown hK hP hD hS k0 hk0 hc k hk (hts _ hl) (fun x h => h) hfin hin2 hdecl (hty k hk) hn hfit hlt hdg (fun H1 locs1 hP hD hS => ?_)
  have e : (pW Y L S).set k0 (a, .inr (ci, fs.set k v)) = pW Y L (va_up S a (.inl (ci, fs.set k v))) := pW_set (o' := .inl (ci, fs.set k v)) (by assumption) ha he hk0
  rw [e] at hP hD
  exact kk H1 locs1 ⟨L, up_ne_oJ hL ha, hP, hD, hS, hA⟩
theorem r_iald (C : CX p m c cc nL s args Ts own D Y) (hO : HO D Y A H0 S H locs) {n : Nat} {f : Nat → Int32} {i : Int32} (he : S a = aI n f) (hi : vp_in i n) (hdg : decode cc pc = .ok (.iaload, 1))
    (kk : W p l e R s m args below meth c H locs cells slots Q (F0 m (pc + 1) ls (.int (f i.toNatClampNeg) :: rest))) : W p l e R s m args below meth c H locs cells slots Q (F0 m pc ls (.int i :: .ref a :: rest)) := by
  obtain ⟨L, hL, hP, hD, hS, hA⟩ := hO
  obtain ⟨k0, hk0⟩ := pW_at (Y := Y) (hL a (ne_oJr he)) he
  exact va_iald C.1.1 C.1.2.1 C.2.1 hP k0 1 hk0 rfl hi hdg kk
theorem r_cald (C : CX p m c cc nL s args Ts own D Y) (hO : HO D Y A H0 S H locs) {n : Nat} {f : Nat → Int32} {i : Int32} (he : S a = aC n f) (hi : vp_in i n) (hdg : decode cc pc = .ok (.caload, 1))
    (kk : W p l e R s m args below meth c H locs cells slots Q (F0 m (pc + 1) ls (.int (f i.toNatClampNeg) :: rest))) : W p l e R s m args below meth c H locs cells slots Q (F0 m pc ls (.int i :: .ref a :: rest)) := by
  obtain ⟨L, hL, hP, hD, hS, hA⟩ := hO
  obtain ⟨k0, hk0⟩ := pW_at (Y := Y) (hL a (ne_oJr he)) he
  exact va_cald C.1.1 C.1.2.1 C.2.1 hP k0 0 hk0 rfl hi hdg kk
theorem r_lald (C : CX p m c cc nL s args Ts own D Y) (hO : HO D Y A H0 S H locs) {n : Nat} {f : Nat → Int64} {i : Int32} (he : S a = aJ n f) (hi : vp_in i n) (hdg : decode cc pc = .ok (.laload, 1))
    (kk : W p l e R s m args below meth c H locs cells slots Q (F0 m (pc + 1) ls (.long (f i.toNatClampNeg) :: rest))) : W p l e R s m args below meth c H locs cells slots Q (F0 m pc ls (.int i :: .ref a :: rest)) := by
  obtain ⟨L, hL, hP, hD, hS, hA⟩ := hO
  obtain ⟨k0, hk0⟩ := pW_at (Y := Y) (hL a (ne_oJr he)) he
  exact va_lald C.1.1 C.1.2.1 C.2.1 hP k0 2 hk0 rfl hi hdg kk
theorem r_aaldD (C : CX p m c cc nL s args Ts own D Y) (hO : HO D Y A H0 S H locs) {n : Nat} {f : Nat → Option Nat} {i : Int32} {r : Value} (he : S a = aD n f) (hi : vp_in i n) (hr : va_rf (f i.toNatClampNeg) = r) (hdg : decode cc pc = .ok (.aaload, 1))
    (kk : W p l e R s m args below meth c H locs cells slots Q (F0 m (pc + 1) ls (r :: rest))) : W p l e R s m args below meth c H locs cells slots Q (F0 m pc ls (.int i :: .ref a :: rest)) := by
  obtain ⟨L, hL, hP, hD, hS, hA⟩ := hO
  obtain ⟨k0, hk0⟩ := pW_at (Y := Y) (hL a (ne_oJr he)) he
  subst hr
  exact va_aldq C.1.1 C.1.2.1 C.2.1 hP k0 3 hk0 rfl hi hdg kk
theorem r_aaldL (C : CX p m c cc nL s args Ts own D Y) (hO : HO D Y A H0 S H locs) {n : Nat} {f : Nat → Option Nat} {i : Int32} {r : Value} (he : S a = aL n f) (hi : vp_in i n) (hr : va_rf (f i.toNatClampNeg) = r) (hdg : decode cc pc = .ok (.aaload, 1))
    (kk : W p l e R s m args below meth c H locs cells slots Q (F0 m (pc + 1) ls (r :: rest))) : W p l e R s m args below meth c H locs cells slots Q (F0 m pc ls (.int i :: .ref a :: rest)) := by
  obtain ⟨L, hL, hP, hD, hS, hA⟩ := hO
  obtain ⟨k0, hk0⟩ := pW_at (Y := Y) (hL a (ne_oJr he)) he
  subst hr
  exact va_aldq C.1.1 C.1.2.1 C.2.1 hP k0 4 hk0 rfl hi hdg kk
theorem r_iast (C : CX p m c cc nL s args Ts own D Y) (hO : HO D Y A H0 S H locs) {n : Nat} {f : Nat → Int32} {i x : Int32} (he : S a = aI n f) (hi : vp_in i n) (hdg : decode cc pc = .ok (.iastore, 1))
    (kk : ∀ (H1 : Heap) (locs1 : List Loc), HO D Y A H0 (va_up S a (aI n (upd f i.toNatClampNeg x))) H1 locs1 → W p l e R s m args below meth c H1 locs1 cells slots Q (F0 m (pc + 1) ls rest)) : W p l e R s m args below meth c H locs cells slots Q (F0 m pc ls (.int x :: .int i :: .ref a :: rest)) := by
  obtain ⟨L, hL, hP, hD, hS, hA⟩ := hO
  have ha := hL a (ne_oJr he)
  obtain ⟨k0, hk0⟩ := pW_at (Y := Y) ha he
  refine va_iast C.1.1 C.1.2.1 C.2.1 hP hD hS k0 1 hk0 rfl hi hdg (fun H1 locs1 hP hD hS => ?_)
  have e := pW_set (o' := aI n (upd f i.toNatClampNeg x)) (by assumption) ha he hk0
  exact kk H1 locs1 ⟨L, up_ne_oJ hL ha, by rw [← e]; exact hP, by rw [← e]; exact hD, hS, hA⟩
theorem r_cast (C : CX p m c cc nL s args Ts own D Y) (hO : HO D Y A H0 S H locs) {n : Nat} {f : Nat → Int32} {i x : Int32} (he : S a = aC n f) (hi : vp_in i n) (hdg : decode cc pc = .ok (.castore, 1))
    (kk : ∀ (H1 : Heap) (locs1 : List Loc), HO D Y A H0 (va_up S a (aC n (upd f i.toNatClampNeg (vp_nar .char x)))) H1 locs1 → W p l e R s m args below meth c H1 locs1 cells slots Q (F0 m (pc + 1) ls rest)) : W p l e R s m args below meth c H locs cells slots Q (F0 m pc ls (.int x :: .int i :: .ref a :: rest)) := by
  obtain ⟨L, hL, hP, hD, hS, hA⟩ := hO
  have ha := hL a (ne_oJr he)
  obtain ⟨k0, hk0⟩ := pW_at (Y := Y) ha he
  refine va_cast C.1.1 C.1.2.1 C.2.1 hP hD hS k0 0 hk0 rfl hi hdg (fun H1 locs1 hP hD hS => ?_)
  have e := pW_set (o' := aC n (upd f i.toNatClampNeg (vp_nar .char x))) (by assumption) ha he hk0
  exact kk H1 locs1 ⟨L, up_ne_oJ hL ha, by rw [← e]; exact hP, by rw [← e]; exact hD, hS, hA⟩
theorem r_last (C : CX p m c cc nL s args Ts own D Y) (hO : HO D Y A H0 S H locs) {n : Nat} {f : Nat → Int64} {i : Int32} {x : Int64} (he : S a = aJ n f) (hi : vp_in i n) (hdg : decode cc pc = .ok (.lastore, 1))
    (kk : ∀ (H1 : Heap) (locs1 : List Loc), HO D Y A H0 (va_up S a (aJ n (vp_updL f i.toNatClampNeg x))) H1 locs1 → W p l e R s m args below meth c H1 locs1 cells slots Q (F0 m (pc + 1) ls rest)) : W p l e R s m args below meth c H locs cells slots Q (F0 m pc ls (.long x :: .int i :: .ref a :: rest)) := by
  obtain ⟨L, hL, hP, hD, hS, hA⟩ := hO
  have ha := hL a (ne_oJr he)
  obtain ⟨k0, hk0⟩ := pW_at (Y := Y) ha he
  refine va_last C.1.1 C.1.2.1 C.2.1 hP hD hS k0 2 hk0 rfl hi hdg (fun H1 locs1 hP hD hS => ?_)
  have e := pW_set (o' := aJ n (vp_updL f i.toNatClampNeg x)) (by assumption) ha he hk0
  exact kk H1 locs1 ⟨L, up_ne_oJ hL ha, by rw [← e]; exact hP, by rw [← e]; exact hD, hS, hA⟩
theorem r_aastD (C : CX p m c cc nL s args Ts own D Y) (hO : HO D Y A H0 S H locs) {n v : Nat} {vs : List Value} {f : Nat → Option Nat} {i : Int32} (he : S a = aD n f) (hi : vp_in i n) (hv : S v = .inl (0, vs)) (hdg : decode cc pc = .ok (.aastore, 1))
    (kk : ∀ (H1 : Heap) (locs1 : List Loc), HO D Y A H0 (va_up S a (aD n (va_up f i.toNatClampNeg (some v)))) H1 locs1 → W p l e R s m args below meth c H1 locs1 cells slots Q (F0 m (pc + 1) ls rest)) : W p l e R s m args below meth c H locs cells slots Q (F0 m pc ls (.ref v :: .int i :: .ref a :: rest)) := by
  obtain ⟨L, hL, hP, hD, hS, hA⟩ := hO
  have ha := hL a (ne_oJr he)
  obtain ⟨k0, hk0⟩ := pW_at (Y := Y) ha he
  obtain ⟨k1, hk1⟩ := pW_at (Y := Y) (hL v (ne_oJ (ci := 0) rfl hv)) hv
  refine va_astq (r := (RX0, TX0, 2)) C.1.1 C.1.2.1 C.2.1 hP hD hS k0 3 k1 0 hk0 rfl hk1 rfl hi hdg (fun H1 locs1 hP hD hS => ?_)
  have e := pW_set (o' := aD n (va_up f i.toNatClampNeg (some v))) (by assumption) ha he hk0
  exact kk H1 locs1 ⟨L, up_ne_oJ hL ha, by rw [← e]; exact hP, by rw [← e]; exact hD, hS, hA⟩
theorem r_aastL (C : CX p m c cc nL s args Ts own D Y) (hO : HO D Y A H0 S H locs) {n v : Nat} {vs : List Value} {f : Nat → Option Nat} {i : Int32} (he : S a = aL n f) (hi : vp_in i n) (hv : S v = .inl (1, vs)) (hdg : decode cc pc = .ok (.aastore, 1))
    (kk : ∀ (H1 : Heap) (locs1 : List Loc), HO D Y A H0 (va_up S a (aL n (va_up f i.toNatClampNeg (some v)))) H1 locs1 → W p l e R s m args below meth c H1 locs1 cells slots Q (F0 m (pc + 1) ls rest)) : W p l e R s m args below meth c H locs cells slots Q (F0 m pc ls (.ref v :: .int i :: .ref a :: rest)) := by
  obtain ⟨L, hL, hP, hD, hS, hA⟩ := hO
  have ha := hL a (ne_oJr he)
  obtain ⟨k0, hk0⟩ := pW_at (Y := Y) ha he
  obtain ⟨k1, hk1⟩ := pW_at (Y := Y) (hL v (ne_oJ (ci := 1) rfl hv)) hv
  refine va_astq (r := (RX1, TX1, 7)) C.1.1 C.1.2.1 C.2.1 hP hD hS k0 4 k1 1 hk0 rfl hk1 rfl hi hdg (fun H1 locs1 hP hD hS => ?_)
  have e := pW_set (o' := aL n (va_up f i.toNatClampNeg (some v))) (by assumption) ha he hk0
  exact kk H1 locs1 ⟨L, up_ne_oJ hL ha, by rw [← e]; exact hP, by rw [← e]; exact hD, hS, hA⟩
theorem HO.push {q : Nat} {o : Ob} {L : List Nat} {H1 : Heap} (hL : ∀ a, S a ≠ oJ → a ∈ L) (hA : ∀ q, H0.size ≤ q → A q) (hP : va_P D vwCl (pW Y L S ++ [(q, cv Y o)]) H1) (hD : va_D A (pW Y L S ++ [(q, cv Y o)])) (hS : va_S A H0 H1 locs) : S q = oJ ∧ HO D Y A H0 (va_up S q o) H1 locs := by
  have hf := pW_fresh hD
  rw [pW_push hf] at hP hD
  refine ⟨Classical.byContradiction (fun h => hf (hL q h)), L ++ [q], up_ne_oJ2 hL, hP, hD, hS, hA⟩
theorem r_new (C : CX p m c cc nL s args Ts own D Y) (hO : HO D Y A H0 S H locs) (ci : Nat) {q : vw_C} (fs : List Value) (hc : vwCl[ci]? = some q) (hin : ∀ w ∈ u_ws q.1 q.2.1 q.2.2, w ∈ Ts) {ty0 : Nat → FieldType} (hty : ∀ k, k < q.2.2 → parseFieldDescriptor (q.2.1 k).2.2.1 = some (ty0 k)) (hfs : ∀ j, j < q.2.2 → defaultValue (ty0 j) = vp_V fs j) {index N : Nat} (hN : q.2.2 = N) (h1 : Cond.classLink own index q.1 ∈ Ts) (h2 : Cond.instantiable q.1 q.2.2 ∈ Ts) (h3 : Cond.initialized q.1 ∈ Ts) (hcells : cells + 1 ≤ R.cells) (hslots : slots + N ≤ R.slots) (hdg : decode cc pc = .ok (.new index, 3))
    (kk : ∀ (q : Nat) (H1 : Heap), S q = oJ → HO D Y A H0 (va_up S q (.inl (ci, fs))) H1 locs → W p l e R s m args below meth c H1 locs (cells + 1) (slots + N) Q (F0 m (pc + 3) ls (.ref q :: rest))) : W p l e R s m args below meth c H locs cells slots Q (F0 m pc ls rest) := by
  obtain ⟨L, hL, hP, hD, hS, hA⟩ := hO
  obtain ⟨⟨hx, hb, hml, hown, hts⟩, hK, hZ⟩ := C
  subst hN
  refine va_new (C := q.1) (T := q.2.1) (N := q.2.2) hx hb hts hin ty0 hty hown (hts _ h1) (hts _ h2) (hts _ h3) hK hP hD hS hA hc hfs hcells hslots hdg (fun q H1 hP hD hS => ?_)
  obtain ⟨g1, g2⟩ := HO.push (o := .inl (ci, fs)) hL hA hP hD hS
  exact kk q H1 g1 g2
theorem va_K_one {x : ClassId × FieldType} (h : va_K D vwCl (pTys Y ++ [x]) s) : va_RA s x.1 x.2 := (h.2 5 x rfl).2
theorem r_newa {k : Nat} {ty : FieldType} (C : CX p m c cc nL s args Ts own D Y) (hO : HO D Y A H0 S H locs) {atype : ArrayType} (hprim : ∀ C, ty ≠ .object C) (ht : (pTys Y)[k]? = some (Y k, ty)) (hty : newarray.typeOf atype = ty) (hcl : Cond.arrayClass (newarray.typeOf atype) ∈ Ts) {n : Int32} {N' : Nat} (a0 : vp_A) (ha : ∀ cA : ClassId, vp_cell cA a0 = arrV cA N' (fun _ => defaultValue ty)) (hn : ¬ n < 0) (hN : n.toNatClampNeg = N') (hbytes : N' * componentBytes ty ≤ 536870912) (hcells : cells + 1 ≤ R.cells) (hslots : slots + N' ≤ R.slots) (hdg : decode cc pc = .ok (.newarray atype, 2))
    (kk : ∀ (q : Nat) (H1 : Heap), S q = oJ → HO D Y A H0 (va_up S q (.inr (k, a0))) H1 locs → W p l e R s m args below meth c H1 locs (cells + 1) (slots + N') Q (F0 m (pc + 2) ls (.ref q :: rest))) : W p l e R s m args below meth c H locs cells slots Q (F0 m pc ls (.int n :: rest)) := by
  obtain ⟨L, hL, hP, hD, hS, hA⟩ := hO
  obtain ⟨⟨hx, hb, hml, hown, hts⟩, hK, hZ⟩ := C
  refine va_newa hx hb (hts _ hcl) hty hK hP hD hS hA ha hn hN hbytes hcells hslots hdg (fun q cA H1 hK1 hP hD hS => ?_)
  have e1 := va_K_one hK1
  have e2 := (hK.2 k _ ht).2
  have e3 : cA = Y k := by
    cases ty with
    | object C => exact absurd rfl (hprim C)
    | _ => exact Option.some.inj (e1.symm.trans e2)
  subst e3
  obtain ⟨g1, g2⟩ := HO.push (o := .inr (k, a0)) hL hA hP hD hS
  exact kk q H1 g1 g2
theorem r_anew {k : Nat} {Cn : String} (C : CX p m c cc nL s args Ts own D Y) (hO : HO D Y A H0 S H locs) (ht : (pTys Y)[k]? = some (Y k, .object Cn)) (hover : va_AO Cn s) {index : Nat} (hcl : Cond.classLink own index Cn ∈ Ts) {n : Int32} {N' : Nat} (hn : ¬ n < 0) (hN : n.toNatClampNeg = N') (hbytes : N' * 4 ≤ 536870912) (hcells : cells + 1 ≤ R.cells) (hslots : slots + N' ≤ R.slots) (hdg : decode cc pc = .ok (.anewarray index, 3))
    (kk : ∀ (q : Nat) (H1 : Heap), S q = oJ → HO D Y A H0 (va_up S q (.inr (k, N', .inr (.inr (.inr (.inr (fun _ => none))))))) H1 locs → W p l e R s m args below meth c H1 locs (cells + 1) (slots + N') Q (F0 m (pc + 3) ls (.ref q :: rest))) : W p l e R s m args below meth c H locs cells slots Q (F0 m pc ls (.int n :: rest)) := by
  obtain ⟨L, hL, hP, hD, hS, hA⟩ := hO
  obtain ⟨⟨hx, hb, hml, hown, hts⟩, hK, hZ⟩ := C
  refine va_newq hx hb hown (hts _ hcl) hover hK hP hD hS hA hn hN hbytes hcells hslots hdg (fun q cA H1 hK1 hP hD hS => ?_)
  obtain ⟨kA, comp, f1, f2, f3, f4⟩ := va_K_one hK1
  obtain ⟨kB, comp2, g1, g2, g3, g4⟩ := (hK.2 k _ ht).2
  have e3 : cA = Y k := Option.some.inj (f4.symm.trans g4)
  subst e3
  obtain ⟨g1, g2⟩ := HO.push (o := .inr (k, N', .inr (.inr (.inr (.inr (fun _ => none)))))) hL hA hP hD hS
  exact kk q H1 g1 g2
theorem r_copy (C : CX p m c cc nL s args Ts own D Y) (hO : HO D Y A H0 S H locs) (hsz : ls.size = nL) {index : Nat} (hl : Cond.methodLink own index arraycopyName ∈ Ts) (hnat : Cond.native arraycopyName ∈ Ts) (hstat : Cond.static arraycopyName ∈ Ts) (hini : Cond.initialized "java/lang/System" ∈ Ts) {a0 n0 n1 : Nat} {f g : Nat → Int32} {sp dp n : Int32} (he0 : S a0 = aI n0 f) (he1 : S a = aI n1 g) (h1 : ¬ sp < 0) (h2 : ¬ dp < 0) (h3 : ¬ n < 0) (h4 : sp.toNatClampNeg + n.toNatClampNeg ≤ n0) (h5 : dp.toNatClampNeg + n.toNatClampNeg ≤ n1) (hframes : 1 ≤ R.frames) (hlocals : (rest.map fun v => v.category).sum + (nativeFrameWords "java/lang/System" "arraycopy" 5 + 11) ≤ R.locals) (hdg : decode cc pc = .ok (.invokestatic index, 3))
    (kk : ∀ (H1 : Heap) (locs1 : List Loc), HO D Y A H0 (va_up S a (aI n1 (va_cpy f g sp.toNatClampNeg dp.toNatClampNeg n.toNatClampNeg))) H1 locs1 → W p l e R s m args below meth c H1 locs1 cells slots Q (F0 m (pc + 3) ls rest)) : W p l e R s m args below meth c H locs cells slots Q (F0 m pc ls (.int n :: .int dp :: .ref a :: .int sp :: .ref a0 :: rest)) := by
  obtain ⟨L, hL, hP, hD, hS, hA⟩ := hO
  obtain ⟨⟨hx, hb, hml, hown, hts⟩, hK, hZ⟩ := C
  have ha := hL a (ne_oJr he1)
  obtain ⟨k0, hk0⟩ := pW_at (Y := Y) (hL a0 (ne_oJr he0)) he0
  obtain ⟨k1, hk1⟩ := pW_at (Y := Y) ha he1
  refine va_copyi (ty := .int) hx hb (hml.trans hsz.symm) hown (hts _ hl) (hts _ hnat) (hts _ hstat) (hts _ hini) hK hP hD hS k0 k1 1 1 hk0 hk1 rfl rfl rfl h1 h2 h3 h4 h5 (fun _ _ => rfl) hframes hlocals hdg (fun H1 locs1 hP hD hS => ?_)
  have e := pW_set (o' := aI n1 (va_cpy f g sp.toNatClampNeg dp.toNatClampNeg n.toNatClampNeg)) (by assumption) ha he1 hk1
  exact kk H1 locs1 ⟨L, up_ne_oJ hL ha, by rw [← e]; exact hP, by rw [← e]; exact hD, hS, hA⟩
end BASE
end
section
theorem NZ.blind {As : List Value} : FrameBlind (va_Pc As NZ) := fun _ U g mk q => ⟨q.1, NZ.same (u := U) (U := U.calling g mk _) rfl q.2⟩
theorem PrO.blind {D : va_G} {Y : Nat → ClassId} {L : List Nat} {S : PS} {sz : Nat} {As : List Value} : FrameBlind (va_Pc As (PrO D Y L S sz)) := fun a U g mk q => by
  obtain ⟨q0, q1, q2, q3, q4, q5, q6⟩ := q
  exact ⟨q0, q1, q2, q3, va_K.moved (u := U) (U := U.calling g mk a) (Vm.Alike.refl U.vm) q4, q5, NZ.same (u := U) (U := U.calling g mk a) rfl q6⟩
theorem pw_lift {D : va_G} {Y : Nat → ClassId} {A : Nat → Prop} {s : State} {L : List Nat} {S : PS} {H : Heap} (hL : ∀ a, S a ≠ oJ → a ∈ L) (hP : va_P D vwCl (pW Y L S) H) (hD : va_D A (pW Y L S)) (hK : va_K D vwCl (pTys Y) s) (hZ : NZ s) : ∀ U : State, U.heap = H → s.WarmedH U.vm → PrO D Y L S H.size U := fun U hU hW => ⟨by rw [hU], hL, by rw [hU]; exact hP, va_K.moved hW.alike hK, hD.weaken (fun _ _ _ _ => trivial), hZ.warm hW⟩
section CALLS
variable {p : Program} {l : Launch} {e : Env} {R : Room} {s : State} {m : MethodId} {args : Array Value} {below : List Frame} {meth : Method} {c : Code} {H H0 : Heap} {locs : List Loc} {cells slots : Nat} {Q : State → Prop}
variable {cc : ByteArray} {nL pc index n mc ms maxL : Nat} {Ts ws : List Cond} {own host : String} {D : va_G} {Y : Nat → ClassId} {A : Nat → Prop} {S : PS} {ls : Array Slot} {rest st0 As : List Value} {b : Nat} {y : MethodName} {bytes : ByteArray} {ret : Option FieldType} {rm : Room}
theorem HO.entry {sz : Nat} {L : List Nat} (hsz : s.heap.size = sz) (hJ : ∀ a, S a ≠ oJ → a ∈ L) (hP : va_P D vwCl (pW Y L S) s.heap) (hD : va_D (fun _ => True) (pW Y L S)) : HO D Y (fR L sz) s.heap S s.heap [] := ⟨L, hJ, hP, hD.weaken (fun k q hk _ => Or.inl (pW_in hk)), va_S.rf, fun q h => Or.inr (by rw [← hsz]; exact h)⟩
theorem HO.q {t : State} (hO : HO D Y A H0 S H locs) (ht : t.heap = H) : QtO D Y A S t := by
  obtain ⟨L, hL, hP, hD, -⟩ := hO
  exact ⟨L, hL, by rw [ht]; exact hP, hD⟩
theorem HO.f {t : State} (hO : HO D Y A s.heap S H locs) (ht : t.heap = H) : va_F A s t := by
  obtain ⟨L, hL, hP, hD, hS, hA⟩ := hO
  exact hS.F ht
theorem HO.lc (hO : HO D Y A H0 S H locs) : ∀ q ∈ locs, A q.base := by
  obtain ⟨L, hL, hP, hD, hS, hA⟩ := hO
  exact hS.2.2
theorem no_locs {A : Nat → Prop} : ∀ q ∈ ([] : List Loc), A q.base := fun q h => by cases h
theorem cS_si (CF : CallFix p m c cc nL s args Ts own) (hZ : NZ s) {Post : Int32 → Prop} (cM : Met l y ws rm (va_Pc As NZ) (vp_Si Post) 0 0 (fun _ => False)) (cw : CallB R s args own index y bytes maxL ret ws rm 0 0 n ∧ (Cond.static y).before args s = true) (hn : As.length = n) (hsize : ls.size = nL) (hst : st0 = As.reverse ++ rest) (hW : (rest.map fun v => v.category).sum ≤ 8) (hdg : decode cc pc = .ok (.invokestatic index, 3)) (hf : cells + 0 ≤ R.cells ∧ slots + 0 ≤ R.slots)
    (kk : ∀ r : Int32, Post r → W p l e R s m args below meth c H locs cells slots Q (F0 m (pc + 3) ls (.int r :: rest))) : W p l e R s m args below meth c H locs cells slots Q (F0 m pc ls st0) :=
  vp_callSi (va_Run.run (va_runS (g := F0 m pc ls st0) CF cM cw ⟨NZ.blind, fun U _ hW => ⟨rfl, hZ.warm hW⟩⟩ rfl hn hsize hst (lv_room hW) hdg hf)) kk
theorem cN_si (CF : CallFix p m c cc nL s args Ts own) (hZ : NZ s) {Post : Int32 → Prop} (cM : Met l y ws rm (va_Pc As NZ) (vp_Si Post) 0 0 (fun _ => False)) (cw : va_CN R s args own index y host bytes maxL ret ws rm 0 0 n ∧ (Cond.static y).before args s = true ∧ True) (hn : As.length = n) (hsize : ls.size = nL) (hst : st0 = As.reverse ++ rest) (hW : (rest.map fun v => v.category).sum ≤ 8) (hdg : decode cc pc = .ok (.invokestatic index, 3)) (hf : cells + 0 ≤ R.cells ∧ slots + 0 ≤ R.slots)
    (kk : ∀ r : Int32, Post r → W p l e R s m args below meth c H locs cells slots Q (F0 m (pc + 3) ls (.int r :: rest))) : W p l e R s m args below meth c H locs cells slots Q (F0 m pc ls st0) :=
  vp_callSi (va_Run.run (va_runSN (g := F0 m pc ls st0) CF cM cw ⟨NZ.blind, fun U _ hW => ⟨rfl, hZ.warm hW⟩⟩ rfl hn hsize hst (lv_room hW) hdg hf)) kk
theorem cV_ri (C : CX p m c cc nL s args Ts own D Y) (hO : HO D Y A H0 S H locs) {Post : Int32 → Prop} (cM : ∀ L, Met l y ws rm (va_Pc (.ref b :: As) (PrO D Y L S H.size)) (vp_Si Post) 0 0 (fun _ => False)) (ci : Nat) {q : vw_C} {fs : List Value} (hc : vwCl[ci]? = some q) (hb : S b = .inl (ci, fs)) (cw : CallW R s args own q.1 index y bytes maxL ret ws rm 0 0 n) (hn : As.length = n) (hsize : ls.size = nL) (hst : st0 = As.reverse ++ .ref b :: rest) (hW : (rest.map fun v => v.category).sum ≤ 8) (hdg : decode cc pc = .ok (.invokevirtual index, 3)) (hf : cells + 0 ≤ R.cells ∧ slots + 0 ≤ R.slots)
    (kk : ∀ r : Int32, Post r → W p l e R s m args below meth c H locs cells slots Q (F0 m (pc + 3) ls (.int r :: rest))) : W p l e R s m args below meth c H locs cells slots Q (F0 m pc ls st0) := by
  obtain ⟨L, hL, hP, hD, hS, hA⟩ := hO
  obtain ⟨k0, hk0⟩ := pW_at (Y := Y) (hL b (ne_oJ hc hb)) hb
  exact vp_callSi (va_Run.run (va_runV (g := F0 m pc ls st0) C.1 (cM L) cw ⟨PrO.blind, va_recv C.2.1 hP hc hk0, fun U hU hW => ⟨rfl, pw_lift hL hP hD C.2.1 C.2.2 U hU hW⟩⟩ rfl hn hsize hst (lv_room hW) hdg hf)) kk
theorem cS_sl (CF : CallFix p m c cc nL s args Ts own) (hZ : NZ s) {Post : Int64 → Prop} (cM : Met l y ws rm (va_Pc As NZ) (vp_Sl Post) 0 0 (fun _ => False)) (cw : CallB R s args own index y bytes maxL ret ws rm 0 0 n ∧ (Cond.static y).before args s = true) (hn : As.length = n) (hsize : ls.size = nL) (hst : st0 = As.reverse ++ rest) (hW : (rest.map fun v => v.category).sum ≤ 8) (hdg : decode cc pc = .ok (.invokestatic index, 3)) (hf : cells + 0 ≤ R.cells ∧ slots + 0 ≤ R.slots)
    (kk : ∀ r : Int64, Post r → W p l e R s m args below meth c H locs cells slots Q (F0 m (pc + 3) ls (.long r :: rest))) : W p l e R s m args below meth c H locs cells slots Q (F0 m pc ls st0) :=
  vp_callSl (va_Run.run (va_runS (g := F0 m pc ls st0) CF cM cw ⟨NZ.blind, fun U _ hW => ⟨rfl, hZ.warm hW⟩⟩ rfl hn hsize hst (lv_room hW) hdg hf)) kk
theorem cN_sl (CF : CallFix p m c cc nL s args Ts own) (hZ : NZ s) {Post : Int64 → Prop} (cM : Met l y ws rm (va_Pc As NZ) (vp_Sl Post) 0 0 (fun _ => False)) (cw : va_CN R s args own index y host bytes maxL ret ws rm 0 0 n ∧ (Cond.static y).before args s = true ∧ True) (hn : As.length = n) (hsize : ls.size = nL) (hst : st0 = As.reverse ++ rest) (hW : (rest.map fun v => v.category).sum ≤ 8) (hdg : decode cc pc = .ok (.invokestatic index, 3)) (hf : cells + 0 ≤ R.cells ∧ slots + 0 ≤ R.slots)
    (kk : ∀ r : Int64, Post r → W p l e R s m args below meth c H locs cells slots Q (F0 m (pc + 3) ls (.long r :: rest))) : W p l e R s m args below meth c H locs cells slots Q (F0 m pc ls st0) :=
  vp_callSl (va_Run.run (va_runSN (g := F0 m pc ls st0) CF cM cw ⟨NZ.blind, fun U _ hW => ⟨rfl, hZ.warm hW⟩⟩ rfl hn hsize hst (lv_room hW) hdg hf)) kk
theorem cV_rl (C : CX p m c cc nL s args Ts own D Y) (hO : HO D Y A H0 S H locs) {Post : Int64 → Prop} (cM : ∀ L, Met l y ws rm (va_Pc (.ref b :: As) (PrO D Y L S H.size)) (vp_Sl Post) 0 0 (fun _ => False)) (ci : Nat) {q : vw_C} {fs : List Value} (hc : vwCl[ci]? = some q) (hb : S b = .inl (ci, fs)) (cw : CallW R s args own q.1 index y bytes maxL ret ws rm 0 0 n) (hn : As.length = n) (hsize : ls.size = nL) (hst : st0 = As.reverse ++ .ref b :: rest) (hW : (rest.map fun v => v.category).sum ≤ 8) (hdg : decode cc pc = .ok (.invokevirtual index, 3)) (hf : cells + 0 ≤ R.cells ∧ slots + 0 ≤ R.slots)
    (kk : ∀ r : Int64, Post r → W p l e R s m args below meth c H locs cells slots Q (F0 m (pc + 3) ls (.long r :: rest))) : W p l e R s m args below meth c H locs cells slots Q (F0 m pc ls st0) := by
  obtain ⟨L, hL, hP, hD, hS, hA⟩ := hO
  obtain ⟨k0, hk0⟩ := pW_at (Y := Y) (hL b (ne_oJ hc hb)) hb
  exact vp_callSl (va_Run.run (va_runV (g := F0 m pc ls st0) C.1 (cM L) cw ⟨PrO.blind, va_recv C.2.1 hP hc hk0, fun U hU hW => ⟨rfl, pw_lift hL hP hD C.2.1 C.2.2 U hU hW⟩⟩ rfl hn hsize hst (lv_room hW) hdg hf)) kk
theorem cV_rq (C : CX p m c cc nL s args Ts own D Y) (hO : HO D Y A H0 S H locs) {Post : Option Nat → Prop} (cM : ∀ L, Met l y ws rm (va_Pc (.ref b :: As) (PrO D Y L S H.size)) (va_Sq Post) 0 0 (fun _ => False)) (ci : Nat) {q : vw_C} {fs : List Value} (hc : vwCl[ci]? = some q) (hb : S b = .inl (ci, fs)) (cw : CallW R s args own q.1 index y bytes maxL ret ws rm 0 0 n) (hn : As.length = n) (hsize : ls.size = nL) (hst : st0 = As.reverse ++ .ref b :: rest) (hW : (rest.map fun v => v.category).sum ≤ 8) (hdg : decode cc pc = .ok (.invokevirtual index, 3)) (hf : cells + 0 ≤ R.cells ∧ slots + 0 ≤ R.slots)
    (kk : ∀ r : Option Nat, Post r → W p l e R s m args below meth c H locs cells slots Q (F0 m (pc + 3) ls (va_rf r :: rest))) : W p l e R s m args below meth c H locs cells slots Q (F0 m pc ls st0) := by
  obtain ⟨L, hL, hP, hD, hS, hA⟩ := hO
  obtain ⟨k0, hk0⟩ := pW_at (Y := Y) (hL b (ne_oJ hc hb)) hb
  exact va_csq (va_Run.run (va_runV (g := F0 m pc ls st0) C.1 (cM L) cw ⟨PrO.blind, va_recv C.2.1 hP hc hk0, fun U hU hW => ⟨rfl, pw_lift hL hP hD C.2.1 C.2.2 U hU hW⟩⟩ rfl hn hsize hst (lv_room hW) hdg hf)) kk
theorem cV_wi (C : CX p m c cc nL s args Ts own D Y) (hO : HO D Y A H0 S H locs) {Post : Int32 → PS → Prop} (cM : ∀ L, Met l y ws rm (va_Pc (.ref b :: As) (PrO D Y L S H.size)) (va_Qi Post (QtO D Y (fR L H.size)) (fR L H.size)) mc ms (fR L H.size)) (ci : Nat) {q : vw_C} {fs : List Value} (hc : vwCl[ci]? = some q) (hb : S b = .inl (ci, fs)) (cw : CallW R s args own q.1 index y bytes maxL ret ws rm mc ms n) (hn : As.length = n) (hsize : ls.size = nL) (hst : st0 = As.reverse ++ .ref b :: rest) (hW : (rest.map fun v => v.category).sum ≤ 8) (hdg : decode cc pc = .ok (.invokevirtual index, 3)) (hf : cells + mc ≤ R.cells ∧ slots + ms ≤ R.slots)
    (kk : ∀ (r : Int32) (S1 : PS) (H1 : Heap) (locs1 : List Loc), Post r S1 → HO D Y A H0 S1 H1 locs1 → W p l e R s m args below meth c H1 locs1 (cells + mc) (slots + ms) Q (F0 m (pc + 3) ls (.int r :: rest))) : W p l e R s m args below meth c H locs cells slots Q (F0 m pc ls st0) := by
  obtain ⟨L, hL, hP, hD, hS0, hA⟩ := hO
  obtain ⟨k0, hk0⟩ := pW_at (Y := Y) (hL b (ne_oJ hc hb)) hb
  have hF := fR_of hD (sz := H.size) (fun x hx => hA x (Nat.le_trans hS0.1 hx))
  exact va_calli (va_runV (g := F0 m pc ls st0) C.1 (cM L) cw ⟨PrO.blind, va_recv C.2.1 hP hc hk0, fun U hU hW => ⟨rfl, pw_lift hL hP hD C.2.1 C.2.2 U hU hW⟩⟩ rfl hn hsize hst (lv_room hW) hdg hf) hS0 (fun q _ h => hF q h) hF (fun r u t H1 locs1 ht hvm hp hq hz hk hS => by
    obtain ⟨L1, hL1, hP1, hD1⟩ := hq
    rw [ht] at hP1
    exact kk r u H1 locs1 hp ⟨L1, hL1, hP1, hD1.weaken (fun _ _ _ h => fR_of hD (fun x hx => hA x (Nat.le_trans hS0.1 hx)) _ h), hS, hA⟩)
theorem cV_wl (C : CX p m c cc nL s args Ts own D Y) (hO : HO D Y A H0 S H locs) {Post : Int64 → PS → Prop} (cM : ∀ L, Met l y ws rm (va_Pc (.ref b :: As) (PrO D Y L S H.size)) (va_Ql Post (QtO D Y (fR L H.size)) (fR L H.size)) mc ms (fR L H.size)) (ci : Nat) {q : vw_C} {fs : List Value} (hc : vwCl[ci]? = some q) (hb : S b = .inl (ci, fs)) (cw : CallW R s args own q.1 index y bytes maxL ret ws rm mc ms n) (hn : As.length = n) (hsize : ls.size = nL) (hst : st0 = As.reverse ++ .ref b :: rest) (hW : (rest.map fun v => v.category).sum ≤ 8) (hdg : decode cc pc = .ok (.invokevirtual index, 3)) (hf : cells + mc ≤ R.cells ∧ slots + ms ≤ R.slots)
    (kk : ∀ (r : Int64) (S1 : PS) (H1 : Heap) (locs1 : List Loc), Post r S1 → HO D Y A H0 S1 H1 locs1 → W p l e R s m args below meth c H1 locs1 (cells + mc) (slots + ms) Q (F0 m (pc + 3) ls (.long r :: rest))) : W p l e R s m args below meth c H locs cells slots Q (F0 m pc ls st0) := by
  obtain ⟨L, hL, hP, hD, hS0, hA⟩ := hO
  obtain ⟨k0, hk0⟩ := pW_at (Y := Y) (hL b (ne_oJ hc hb)) hb
  have hF := fR_of hD (sz := H.size) (fun x hx => hA x (Nat.le_trans hS0.1 hx))
  exact va_calll (va_runV (g := F0 m pc ls st0) C.1 (cM L) cw ⟨PrO.blind, va_recv C.2.1 hP hc hk0, fun U hU hW => ⟨rfl, pw_lift hL hP hD C.2.1 C.2.2 U hU hW⟩⟩ rfl hn hsize hst (lv_room hW) hdg hf) hS0 (fun q _ h => hF q h) hF (fun r u t H1 locs1 ht hvm hp hq hz hk hS => by
    obtain ⟨L1, hL1, hP1, hD1⟩ := hq
    rw [ht] at hP1
    exact kk r u H1 locs1 hp ⟨L1, hL1, hP1, hD1.weaken (fun _ _ _ h => fR_of hD (fun x hx => hA x (Nat.le_trans hS0.1 hx)) _ h), hS, hA⟩)
theorem cV_wv (C : CX p m c cc nL s args Ts own D Y) (hO : HO D Y A H0 S H locs) {Post : PS → Prop} (cM : ∀ L, Met l y ws rm (va_Pc (.ref b :: As) (PrO D Y L S H.size)) (va_Qv Post (QtO D Y (fR L H.size)) (fR L H.size)) mc ms (fR L H.size)) (ci : Nat) {q : vw_C} {fs : List Value} (hc : vwCl[ci]? = some q) (hb : S b = .inl (ci, fs)) (cw : CallW R s args own q.1 index y bytes maxL ret ws rm mc ms n) (hn : As.length = n) (hsize : ls.size = nL) (hst : st0 = As.reverse ++ .ref b :: rest) (hW : (rest.map fun v => v.category).sum ≤ 8) (hdg : decode cc pc = .ok (.invokevirtual index, 3)) (hf : cells + mc ≤ R.cells ∧ slots + ms ≤ R.slots)
    (kk : ∀ (S1 : PS) (H1 : Heap) (locs1 : List Loc), Post S1 → HO D Y A H0 S1 H1 locs1 → W p l e R s m args below meth c H1 locs1 (cells + mc) (slots + ms) Q (F0 m (pc + 3) ls (rest))) : W p l e R s m args below meth c H locs cells slots Q (F0 m pc ls st0) := by
  obtain ⟨L, hL, hP, hD, hS0, hA⟩ := hO
  obtain ⟨k0, hk0⟩ := pW_at (Y := Y) (hL b (ne_oJ hc hb)) hb
  have hF := fR_of hD (sz := H.size) (fun x hx => hA x (Nat.le_trans hS0.1 hx))
  exact va_callv (va_runV (g := F0 m pc ls st0) C.1 (cM L) cw ⟨PrO.blind, va_recv C.2.1 hP hc hk0, fun U hU hW => ⟨rfl, pw_lift hL hP hD C.2.1 C.2.2 U hU hW⟩⟩ rfl hn hsize hst (lv_room hW) hdg hf) hS0 (fun q _ h => hF q h) hF (fun u t H1 locs1 ht hvm hp hq hz hk hS => by
    obtain ⟨L1, hL1, hP1, hD1⟩ := hq
    rw [ht] at hP1
    exact kk u H1 locs1 hp ⟨L1, hL1, hP1, hD1.weaken (fun _ _ _ h => fR_of hD (fun x hx => hA x (Nat.le_trans hS0.1 hx)) _ h), hS, hA⟩)
theorem cI_wv (C : CX p m c cc nL s args Ts own D Y) (hO : HO D Y A H0 S H locs) {Post : PS → Prop} (cM : ∀ L, Met l y ws rm (va_Pc (.ref b :: As) (PrO D Y L S H.size)) (va_Qv Post (QtO D Y (fR L H.size)) (fR L H.size)) mc ms (fR L H.size)) (hb : S b ≠ oJ) (cw : CallB R s args own index y bytes maxL none ws rm mc ms n ∧ y.name = "<init>" ∧ (Cond.instanceMethod y).before args s = true) (hn : As.length = n) (hsize : ls.size = nL) (hst : st0 = As.reverse ++ .ref b :: rest) (hW : (rest.map fun v => v.category).sum ≤ 8) (hdg : decode cc pc = .ok (.invokespecial index, 3)) (hf : cells + mc ≤ R.cells ∧ slots + ms ≤ R.slots)
    (kk : ∀ (S1 : PS) (H1 : Heap) (locs1 : List Loc), Post S1 → HO D Y A H0 S1 H1 locs1 → W p l e R s m args below meth c H1 locs1 (cells + mc) (slots + ms) Q (F0 m (pc + 3) ls (rest))) : W p l e R s m args below meth c H locs cells slots Q (F0 m pc ls st0) := by
  obtain ⟨L, hL, hP, hD, hS0, hA⟩ := hO
  have hF := fR_of hD (sz := H.size) (fun x hx => hA x (Nat.le_trans hS0.1 hx))
  exact va_callv (va_runI (g := F0 m pc ls st0) C.1 (cM L) cw ⟨PrO.blind, fun U hU hW => ⟨rfl, pw_lift hL hP hD C.2.1 C.2.2 U hU hW⟩⟩ rfl hn hsize hst (lv_room hW) hdg hf) hS0 (fun q _ h => hF q h) hF (fun u t H1 locs1 ht hvm hp hq hz hk hS => by
    obtain ⟨L1, hL1, hP1, hD1⟩ := hq
    rw [ht] at hP1
    exact kk u H1 locs1 hp ⟨L1, hL1, hP1, hD1.weaken (fun _ _ _ h => fR_of hD (fun x hx => hA x (Nat.le_trans hS0.1 hx)) _ h), hS, hA⟩)
theorem cIN_wv (C : CX p m c cc nL s args Ts own D Y) (hO : HO D Y A H0 S H locs) {Post : PS → Prop} (cM : ∀ L, Met l y ws rm (va_Pc (.ref b :: As) (PrO D Y L S H.size)) (va_Qv Post (QtO D Y (fR L H.size)) (fR L H.size)) mc ms (fR L H.size)) (hb : S b ≠ oJ) (cw : va_CN R s args own index y host bytes maxL none ws rm mc ms n ∧ y.name = "<init>" ∧ (Cond.instanceMethod y).before args s = true) (hn : As.length = n) (hsize : ls.size = nL) (hst : st0 = As.reverse ++ .ref b :: rest) (hW : (rest.map fun v => v.category).sum ≤ 8) (hdg : decode cc pc = .ok (.invokespecial index, 3)) (hf : cells + mc ≤ R.cells ∧ slots + ms ≤ R.slots)
    (kk : ∀ (S1 : PS) (H1 : Heap) (locs1 : List Loc), Post S1 → HO D Y A H0 S1 H1 locs1 → W p l e R s m args below meth c H1 locs1 (cells + mc) (slots + ms) Q (F0 m (pc + 3) ls (rest))) : W p l e R s m args below meth c H locs cells slots Q (F0 m pc ls st0) := by
  obtain ⟨L, hL, hP, hD, hS0, hA⟩ := hO
  have hF := fR_of hD (sz := H.size) (fun x hx => hA x (Nat.le_trans hS0.1 hx))
  exact va_callv (va_runIN (g := F0 m pc ls st0) C.1 (cM L) cw ⟨PrO.blind, fun U hU hW => ⟨rfl, pw_lift hL hP hD C.2.1 C.2.2 U hU hW⟩⟩ rfl hn hsize hst (lv_room hW) hdg hf) hS0 (fun q _ h => hF q h) hF (fun u t H1 locs1 ht hvm hp hq hz hk hS => by
    obtain ⟨L1, hL1, hP1, hD1⟩ := hq
    rw [ht] at hP1
    exact kk u H1 locs1 hp ⟨L1, hL1, hP1, hD1.weaken (fun _ _ _ h => fR_of hD (fun x hx => hA x (Nat.le_trans hS0.1 hx)) _ h), hS, hA⟩)
theorem lp_P {σ : Type} {body : (σ → Prop) → σ → Prop} {n : Nat} {s0 : σ} (lvOf : σ → List (Nat × Value)) (h : wpL body n s0) (hl : lv_has ls nL (lvOf s0)) (step : ∀ K : σ → Prop, (∀ (q : σ) (ls : Array Slot), K q → lv_has ls nL (lvOf q) → W p l e R s m args below meth c H locs cells slots Q (F0 m pc ls [])) → ∀ (q : σ) (ls : Array Slot), body K q → lv_has ls nL (lvOf q) → W p l e R s m args below meth c H locs cells slots Q (F0 m pc ls [])) : W p l e R s m args below meth c H locs cells slots Q (F0 m pc ls []) := by
  have key : ∀ (n : Nat) (q : σ) (ls : Array Slot), wpL body n q → lv_has ls nL (lvOf q) → W p l e R s m args below meth c H locs cells slots Q (F0 m pc ls []) := by
    intro n
    induction n with
    | zero => intro q ls h; exact h.elim
    | succ n ih => intro q ls h hl; exact step (wpL body n) ih q ls h hl
  exact key n s0 ls h hl
theorem lp_W {σ : Type} {body : (σ → Prop) → σ → Prop} {n : Nat} {s0 : σ} (lvOf : σ → List (Nat × Value)) (Sof : σ → PS) (h : wpL body n s0) (hl : lv_has ls nL (lvOf s0)) (hO : HO D Y A H0 (Sof s0) H locs) (step : ∀ K : σ → Prop, (∀ (q : σ) (ls : Array Slot) (H : Heap) (locs : List Loc), K q → lv_has ls nL (lvOf q) → HO D Y A H0 (Sof q) H locs → W p l e R s m args below meth c H locs cells slots Q (F0 m pc ls [])) → ∀ (q : σ) (ls : Array Slot) (H : Heap) (locs : List Loc), body K q → lv_has ls nL (lvOf q) → HO D Y A H0 (Sof q) H locs → W p l e R s m args below meth c H locs cells slots Q (F0 m pc ls [])) : W p l e R s m args below meth c H locs cells slots Q (F0 m pc ls []) := by
  have key : ∀ (n : Nat) (q : σ) (ls : Array Slot) (H : Heap) (locs : List Loc), wpL body n q → lv_has ls nL (lvOf q) → HO D Y A H0 (Sof q) H locs → W p l e R s m args below meth c H locs cells slots Q (F0 m pc ls []) := by
    intro n
    induction n with
    | zero => intro q ls H locs h; exact h.elim
    | succ n ih => intro q ls H locs h hl hO; exact step (wpL body n) ih q ls H locs h hl hO
  exact key n s0 ls H locs h hl hO
theorem cut_P {σ : Type} (k : σ → Prop) (lvOf : σ → List (Nat × Value)) (pc1 : Nat) {g : JFrame} (h1 : ∀ (q : σ) (ls : Array Slot), k q → lv_has ls nL (lvOf q) → W p l e R s m args below meth c H locs cells slots Q (F0 m pc1 ls [])) (h2 : (∀ (q : σ) (ls : Array Slot), k q → lv_has ls nL (lvOf q) → W p l e R s m args below meth c H locs cells slots Q (F0 m pc1 ls [])) → W p l e R s m args below meth c H locs cells slots Q g) : W p l e R s m args below meth c H locs cells slots Q g := h2 h1
theorem cut_W {σ : Type} (D : va_G) (Y : Nat → ClassId) (A : Nat → Prop) (H0 : Heap) (k : σ → Prop) (lvOf : σ → List (Nat × Value)) (Sof : σ → PS) (pc1 : Nat) {g : JFrame} (h1 : ∀ (q : σ) (ls : Array Slot) (H : Heap) (locs : List Loc), k q → lv_has ls nL (lvOf q) → HO D Y A H0 (Sof q) H locs → W p l e R s m args below meth c H locs cells slots Q (F0 m pc1 ls [])) (h2 : (∀ (q : σ) (ls : Array Slot) (H : Heap) (locs : List Loc), k q → lv_has ls nL (lvOf q) → HO D Y A H0 (Sof q) H locs → W p l e R s m args below meth c H locs cells slots Q (F0 m pc1 ls [])) → W p l e R s m args below meth c H locs cells slots Q g) : W p l e R s m args below meth c H locs cells slots Q g := h2 h1
end CALLS
end
section
/-! ===== what the decompiled texts say of the heap ===== -/
def gI (S : PS) (a ci k : Nat) (P : Int32 → Prop) : Prop := ∃ (fs : List Value) (x : Int32), S a = .inl (ci, fs) ∧ fs[k]? = some (.int x) ∧ P x
def gJ (S : PS) (a ci k : Nat) (P : Int64 → Prop) : Prop := ∃ (fs : List Value) (x : Int64), S a = .inl (ci, fs) ∧ fs[k]? = some (.long x) ∧ P x
def gR (S : PS) (a ci k : Nat) (P : Nat → Prop) : Prop := ∃ (fs : List Value) (x : Nat), S a = .inl (ci, fs) ∧ fs[k]? = some (.ref x) ∧ P x
def pF (S : PS) (a ci k : Nat) (v : Value) (P : PS → Prop) : Prop := ∃ fs : List Value, S a = .inl (ci, fs) ∧ k < fs.length ∧ ∀ S1 : PS, S1 = va_up S a (.inl (ci, fs.set k v)) → P S1
def rc (S : PS) (b ci : Nat) (P : Prop) : Prop := ∃ fs : List Value, S b = .inl (ci, fs) ∧ P
def lI (S : PS) (a : Nat) (i : Int32) (P : Int32 → Prop) : Prop := ∃ (n : Nat) (f : Nat → Int32) (x : Int32), S a = aI n f ∧ vp_in i n ∧ f i.toNatClampNeg = x ∧ P x
def lC (S : PS) (a : Nat) (i : Int32) (P : Int32 → Prop) : Prop := ∃ (n : Nat) (f : Nat → Int32) (x : Int32), S a = aC n f ∧ vp_in i n ∧ f i.toNatClampNeg = x ∧ P x
def lJ (S : PS) (a : Nat) (i : Int32) (P : Int64 → Prop) : Prop := ∃ (n : Nat) (f : Nat → Int64) (x : Int64), S a = aJ n f ∧ vp_in i n ∧ f i.toNatClampNeg = x ∧ P x
def lD (S : PS) (a : Nat) (i : Int32) (P : Nat → Prop) : Prop := ∃ (n : Nat) (f : Nat → Option Nat) (x : Nat), S a = aD n f ∧ vp_in i n ∧ f i.toNatClampNeg = some x ∧ P x
def lL (S : PS) (a : Nat) (i : Int32) (P : Nat → Prop) : Prop := ∃ (n : Nat) (f : Nat → Option Nat) (x : Nat), S a = aL n f ∧ vp_in i n ∧ f i.toNatClampNeg = some x ∧ P x
def lLo (S : PS) (a : Nat) (i : Int32) (P0 : Prop) (P1 : Nat → Prop) : Prop := ∃ (n : Nat) (f : Nat → Option Nat), S a = aL n f ∧ vp_in i n ∧ (f i.toNatClampNeg = none → P0) ∧ ∀ x : Nat, f i.toNatClampNeg = some x → P1 x
def sI (S : PS) (a : Nat) (i x : Int32) (P : PS → Prop) : Prop := ∃ (n : Nat) (f : Nat → Int32), S a = aI n f ∧ vp_in i n ∧ ∀ S1 : PS, S1 = va_up S a (aI n (upd f i.toNatClampNeg x)) → P S1
def sC (S : PS) (a : Nat) (i x : Int32) (P : PS → Prop) : Prop := ∃ (n : Nat) (f : Nat → Int32), S a = aC n f ∧ vp_in i n ∧ ∀ S1 : PS, S1 = va_up S a (aC n (upd f i.toNatClampNeg (vp_nar .char x))) → P S1
def sJ (S : PS) (a : Nat) (i : Int32) (x : Int64) (P : PS → Prop) : Prop := ∃ (n : Nat) (f : Nat → Int64), S a = aJ n f ∧ vp_in i n ∧ ∀ S1 : PS, S1 = va_up S a (aJ n (vp_updL f i.toNatClampNeg x)) → P S1
def sD (S : PS) (a : Nat) (i : Int32) (v : Nat) (P : PS → Prop) : Prop := ∃ (n : Nat) (f : Nat → Option Nat) (vs : List Value), S a = aD n f ∧ vp_in i n ∧ S v = .inl (0, vs) ∧ ∀ S1 : PS, S1 = va_up S a (aD n (va_up f i.toNatClampNeg (some v))) → P S1
def sL (S : PS) (a : Nat) (i : Int32) (v : Nat) (P : PS → Prop) : Prop := ∃ (n : Nat) (f : Nat → Option Nat) (vs : List Value), S a = aL n f ∧ vp_in i n ∧ S v = .inl (1, vs) ∧ ∀ S1 : PS, S1 = va_up S a (aL n (va_up f i.toNatClampNeg (some v))) → P S1
def nw (S : PS) (o : Ob) (P : Nat → PS → Prop) : Prop := ∀ q : Nat, S q = oJ → ∀ S1 : PS, S1 = va_up S q o → P q S1
def cp (S : PS) (a0 : Nat) (sp : Int32) (a : Nat) (dp n : Int32) (P : PS → Prop) : Prop := ∃ (n0 : Nat) (f : Nat → Int32) (n1 : Nat) (g : Nat → Int32), S a0 = aI n0 f ∧ S a = aI n1 g ∧ ¬ sp < 0 ∧ ¬ dp < 0 ∧ ¬ n < 0 ∧ sp.toNatClampNeg + n.toNatClampNeg ≤ n0 ∧ dp.toNatClampNeg + n.toNatClampNeg ≤ n1 ∧ ∀ S1 : PS, S1 = va_up S a (aI n1 (va_cpy f g sp.toNatClampNeg dp.toNatClampNeg n.toNatClampNeg)) → P S1
def uShr (x y : Int32) : Int32 := (x.toUInt32 >>> (y.toUInt32 &&& Int32.toUInt32 31)).toInt32
def uShrL (x : Int64) (y : Int32) : Int64 := (x.toUInt64 >>> (y.toInt64.toUInt64 &&& Int64.toUInt64 63)).toInt64
def shlL (x : Int64) (y : Int32) : Int64 := x <<< (y.toInt64 &&& 63)
def i2c (x : Int32) : Int32 := (x.toUInt32 % 65536).toInt32
theorem sw_1 (x : Int32) : (x.toInt < 0 ∨ 1 < x.toInt) ∨ x.toInt = 0 ∨ x.toInt = 1 := by omega
theorem sw_3 (x : Int32) : (x.toInt < 0 ∨ 3 < x.toInt) ∨ x.toInt = 0 ∨ x.toInt = 1 ∨ x.toInt = 2 ∨ x.toInt = 3 := by omega
theorem sw_6 (x : Int32) : (x.toInt < 0 ∨ 6 < x.toInt) ∨ x.toInt = 0 ∨ x.toInt = 1 ∨ x.toInt = 2 ∨ x.toInt = 3 ∨ x.toInt = 4 ∨ x.toInt = 5 ∨ x.toInt = 6 := by omega
theorem lk_out {x : Int32} {a b d : Int} (h : x.toInt < 0 ∨ 1 < x.toInt) : Op.lookupswitch.offset (#[((0 : Int), a), (1, b)] : Array (Int × Int)).toList d x.toInt = d := by
  show Op.lookupswitch.offset [((0 : Int), a), (1, b)] d x.toInt = d
  rw [Op.lookupswitch.offset_cons, if_neg (by omega), Op.lookupswitch.offset_cons, if_neg (by omega)]
  rfl
end
section
/-! ===== the methods, decompiled (printed by wip/whole/gen/emit.py) ===== -/
def wp_X0_init (S : PS) (a0 : Nat) (Post : PS → Prop) : Prop :=
  nw S (aI 24 (fun _ => 0)) (fun a1 S2 => pF S2 a0 0 0 (.ref a1) (fun S5 => pF S5 a0 0 1 (.int (0 : Int32)) (fun S8 => Post S8)))
def wp_X7_isBelow (v0 : Int32) (v1 : Int32) (Post : Int32 → Prop) : Prop :=
  (v0 < 0 → Post (0 : Int32)) ∧ (¬ v0 < 0 → (v1 ≤ v0 → Post (0 : Int32)) ∧ (¬ v1 ≤ v0 → Post (1 : Int32)))
def wp_X0_pressAt (S : PS) (a0 : Nat) (v1 : Int32) (Post : Int32 → Prop) : Prop :=
  wp_X7_isBelow v1 (24 : Int32) (fun i1 => (i1 = 0 → Post (0 : Int32)) ∧ (¬ i1 = 0 → gR S a0 0 0 (fun a4 => lI S a4 v1 (fun i9 => Post i9))))
def wp_X0_add (S : PS) (a0 : Nat) (v1 : Int32) (Post : PS → Prop) : Prop :=
  gI S a0 0 1 (fun i2 => wp_X7_isBelow i2 (24 : Int32) (fun i4 => (i4 = 0 → Post S) ∧ (¬ i4 = 0 → gR S a0 0 0 (fun a7 => gI S a0 0 1 (fun i10 => sI S a7 i10 v1 (fun S15 => gI S15 a0 0 1 (fun i17 => pF S15 a0 0 1 (.int (i17 + (1 : Int32))) (fun S21 => Post S21))))))))
def wpb_X0_append_2 (a0 : Nat) (v1 : Nat) (Post : PS → Prop) (K2 : (Int32 × PS) → Prop) (i1 : Int32) (S2 : PS) : Prop :=
  gI S2 v1 0 1 (fun i4 => (i4 ≤ i1 → Post S2) ∧ (¬ i4 ≤ i1 → rc S2 v1 0 (wp_X0_pressAt S2 v1 i1 (fun i7 => rc S2 a0 0 (wp_X0_add S2 a0 i7 (fun S10 => ∀ i13 : Int32, i13 = i1 + (1 : Int32) → K2 (i13, S10)))))))
def wp_X0_append (S : PS) (a0 : Nat) (v1 : Nat) (Post : PS → Prop) : Prop :=
  ∃ n : Nat, wpL (fun (K2 : (Int32 × PS) → Prop) (q : Int32 × PS) => wpb_X0_append_2 a0 v1 Post K2 q.1 q.2) n ((0 : Int32), S)
def wpb_X0_appendTurned_7 (a0 : Nat) (v1 : Nat) (Post : PS → Prop) (K7 : (Int32 × PS) → Prop) (i5 : Int32) (S6 : PS) : Prop :=
  (i5 < 0 → Post S6) ∧ (¬ i5 < 0 → rc S6 v1 0 (wp_X0_pressAt S6 v1 i5 (fun i8 => rc S6 a0 0 (wp_X0_add S6 a0 (((i8 + (6 : Int32)) - (i8 + (6 : Int32)) / (12 : Int32) * (12 : Int32))) (fun S11 => ∀ i14 : Int32, i14 = i5 + (-1 : Int32) → K7 (i14, S11))))))
def wp_X0_appendTurned (S : PS) (a0 : Nat) (v1 : Nat) (Post : PS → Prop) : Prop :=
  gI S v1 0 1 (fun i2 => ∀ i4 : Int32, i4 = (i2 - (1 : Int32)) → ∃ n : Nat, wpL (fun (K7 : (Int32 × PS) → Prop) (q : Int32 × PS) => wpb_X0_appendTurned_7 a0 v1 Post K7 q.1 q.2) n (i4, S))
def wp_X0_copyFrom (S : PS) (a0 : Nat) (v1 : Nat) (Post : PS → Prop) : Prop :=
  gR S v1 0 0 (fun a2 => gR S a0 0 0 (fun a5 => cp S a2 (0 : Int32) a5 (0 : Int32) (24 : Int32) (fun S7 => gI S7 v1 0 1 (fun i14 => pF S7 a0 0 1 (.int i14) (fun S18 => Post S18)))))
def wp_X1_init (S : PS) (a0 : Nat) (Post : PS → Prop) : Prop :=
  pF S a0 1 0 (.long (92573999051280 : Int64)) (fun S3 => pF S3 a0 1 1 (.long (205163983024656 : Int64)) (fun S6 => pF S6 a0 1 2 (.long (0 : Int64)) (fun S9 => nw S9 (aI 6 (fun _ => 0)) (fun a10 S11 => pF S11 a0 1 3 (.ref a10) (fun S14 => nw S14 (aD 6 (fun _ => none)) (fun a15 S16 => pF S16 a0 1 4 (.ref a15) (fun S19 => pF S19 a0 1 5 (.int (0 : Int32)) (fun S22 => pF S22 a0 1 6 (.int (0 : Int32)) (fun S25 => gR S25 a0 1 3 (fun a27 => sI S25 a27 (0 : Int32) ((1 : Int32) <<< ((0 : Int32) &&& 31)) (fun S32 => gR S32 a0 1 3 (fun a34 => sI S32 a34 (1 : Int32) ((1 : Int32) <<< ((1 : Int32) &&& 31)) (fun S39 => gR S39 a0 1 3 (fun a41 => sI S39 a41 (2 : Int32) ((1 : Int32) <<< ((2 : Int32) &&& 31)) (fun S46 => gR S46 a0 1 3 (fun a48 => sI S46 a48 (3 : Int32) ((1 : Int32) <<< ((3 : Int32) &&& 31)) (fun S53 => gR S53 a0 1 3 (fun a55 => sI S53 a55 (4 : Int32) ((1 : Int32) <<< ((4 : Int32) &&& 31)) (fun S60 => gR S60 a0 1 3 (fun a62 => sI S60 a62 (5 : Int32) ((1 : Int32) <<< ((5 : Int32) &&& 31)) (fun S67 => gR S67 a0 1 4 (fun a69 => nw S67 (.inl (0, [.null, .int 0])) (fun a71 S72 => S72 a71 ≠ oJ ∧ (wp_X0_init S72 a71 (fun S73 => sD S73 a69 (0 : Int32) a71 (fun S79 => gR S79 a0 1 4 (fun a81 => nw S79 (.inl (0, [.null, .int 0])) (fun a83 S84 => S84 a83 ≠ oJ ∧ (wp_X0_init S84 a83 (fun S85 => sD S85 a81 (1 : Int32) a83 (fun S91 => gR S91 a0 1 4 (fun a93 => nw S91 (.inl (0, [.null, .int 0])) (fun a95 S96 => S96 a95 ≠ oJ ∧ (wp_X0_init S96 a95 (fun S97 => sD S97 a93 (2 : Int32) a95 (fun S103 => gR S103 a0 1 4 (fun a105 => nw S103 (.inl (0, [.null, .int 0])) (fun a107 S108 => S108 a107 ≠ oJ ∧ (wp_X0_init S108 a107 (fun S109 => sD S109 a105 (3 : Int32) a107 (fun S115 => gR S115 a0 1 4 (fun a117 => nw S115 (.inl (0, [.null, .int 0])) (fun a119 S120 => S120 a119 ≠ oJ ∧ (wp_X0_init S120 a119 (fun S121 => sD S121 a117 (4 : Int32) a119 (fun S127 => gR S127 a0 1 4 (fun a129 => nw S127 (.inl (0, [.null, .int 0])) (fun a131 S132 => S132 a131 ≠ oJ ∧ (wp_X0_init S132 a131 (fun S133 => sD S133 a129 (5 : Int32) a131 (fun S139 => Post S139)))))))))))))))))))))))))))))))))))))))))))))))))))
def wpb_X1_copyFrom_41 (a0 : Nat) (v1 : Nat) (Post : PS → Prop) (K41 : (Int32 × PS) → Prop) (i31 : Int32) (S32 : PS) : Prop :=
  ((6 : Int32) ≤ i31 → gI S32 v1 1 5 (fun i35 => pF S32 a0 1 5 (.int i35) (fun S39 => gI S39 v1 1 6 (fun i41 => pF S39 a0 1 6 (.int i41) (fun S45 => Post S45))))) ∧ (¬ (6 : Int32) ≤ i31 → gR S32 a0 1 4 (fun a47 => lD S32 a47 i31 (fun a52 => gR S32 v1 1 4 (fun a54 => lD S32 a54 i31 (fun a59 => rc S32 a52 0 (wp_X0_copyFrom S32 a52 a59 (fun S60 => ∀ i63 : Int32, i63 = i31 + (1 : Int32) → K41 (i63, S60))))))))
def wp_X1_copyFrom (S : PS) (a0 : Nat) (v1 : Nat) (Post : PS → Prop) : Prop :=
  gJ S v1 1 0 (fun j2 => pF S a0 1 0 (.long j2) (fun S6 => gJ S6 v1 1 1 (fun j8 => pF S6 a0 1 1 (.long j8) (fun S12 => gJ S12 v1 1 2 (fun j14 => pF S12 a0 1 2 (.long j14) (fun S18 => gR S18 v1 1 3 (fun a20 => gR S18 a0 1 3 (fun a23 => cp S18 a20 (0 : Int32) a23 (0 : Int32) (6 : Int32) (fun S25 => ∃ n : Nat, wpL (fun (K41 : (Int32 × PS) → Prop) (q : Int32 × PS) => wpb_X1_copyFrom_41 a0 v1 Post K41 q.1 q.2) n ((0 : Int32), S25))))))))))
def wp_X1_draftAt (S : PS) (a0 : Nat) (v1 : Int32) (Post : Option Nat → Prop) : Prop :=
  wp_X7_isBelow v1 (6 : Int32) (fun i1 => (i1 = 0 → Post none) ∧ (¬ i1 = 0 → gR S a0 1 4 (fun a4 => lD S a4 v1 (fun a9 => Post (some a9)))))
def wp_X4_at (v0 : Int64) (v2 : Int32) (Post : Int32 → Prop) : Prop :=
  Post (((uShrL v0 ((4 : Int32) * v2))).toInt32 &&& (15 : Int32))
def wp_X7_hasBit (v0 : Int32) (v1 : Int32) (Post : Int32 → Prop) : Prop :=
  (((v0 >>> (v1 &&& 31)) &&& (1 : Int32)) = (1 : Int32) → Post (1 : Int32)) ∧ (¬ ((v0 >>> (v1 &&& 31)) &&& (1 : Int32)) = (1 : Int32) → Post (0 : Int32))
def wpb_X1_raisedBy_15 (S : PS) (a0 : Nat) (v1 : Int32) (Post : Int32 → Prop) (K15 : (Int32 × Int32) → Prop) (i3 : Int32) (i4 : Int32) : Prop :=
  ((12 : Int32) ≤ i3 → Post i4) ∧ (¬ (12 : Int32) ≤ i3 → gR S a0 1 3 (fun a7 => lI S a7 v1 (fun i12 => gJ S a0 1 0 (fun j14 => wp_X4_at j14 i3 (fun i16 => wp_X7_hasBit i12 i16 (fun i17 => (i17 = 0 → ∀ i19 : Int32, i19 = i3 + (1 : Int32) → K15 (i19, i4)) ∧ (¬ i17 = 0 → ∀ i20 : Int32, i20 = (i4 ||| ((1 : Int32) <<< (i3 &&& 31))) → ∀ i21 : Int32, i21 = i3 + (1 : Int32) → K15 (i21, i20))))))))
def wp_X1_raisedBy (S : PS) (a0 : Nat) (v1 : Int32) (Post : Int32 → Prop) : Prop :=
  wp_X7_isBelow v1 (6 : Int32) (fun i1 => (i1 = 0 → Post (0 : Int32)) ∧ (¬ i1 = 0 → ∃ n : Nat, wpL (fun (K15 : (Int32 × Int32) → Prop) (q : Int32 × Int32) => wpb_X1_raisedBy_15 S a0 v1 Post K15 q.1 q.2) n ((0 : Int32), (0 : Int32))))
def wpb_X1_treadlesRaising_4 (S : PS) (a0 : Nat) (v1 : Int32) (Post : Int32 → Prop) (K4 : (Int32 × Int32) → Prop) (i1 : Int32) (i2 : Int32) : Prop :=
  ((6 : Int32) ≤ i1 → Post i2) ∧ (¬ (6 : Int32) ≤ i1 → gR S a0 1 3 (fun a5 => lI S a5 i1 (fun i10 => gJ S a0 1 0 (fun j12 => wp_X4_at j12 v1 (fun i14 => wp_X7_hasBit i10 i14 (fun i15 => (i15 = 0 → ∀ i17 : Int32, i17 = i1 + (1 : Int32) → K4 (i17, i2)) ∧ (¬ i15 = 0 → ∀ i18 : Int32, i18 = (i2 ||| ((1 : Int32) <<< (i1 &&& 31))) → ∀ i19 : Int32, i19 = i1 + (1 : Int32) → K4 (i19, i18))))))))
def wp_X1_treadlesRaising (S : PS) (a0 : Nat) (v1 : Int32) (Post : Int32 → Prop) : Prop :=
  ∃ n : Nat, wpL (fun (K4 : (Int32 × Int32) → Prop) (q : Int32 × Int32) => wpb_X1_treadlesRaising_4 S a0 v1 Post K4 q.1 q.2) n ((0 : Int32), (0 : Int32))
def wpb_X1_neverRaised_6 (S : PS) (a0 : Nat) (Post : Int32 → Prop) (K6 : (Int32 × Int32) → Prop) (i1 : Int32) (i2 : Int32) : Prop :=
  ((6 : Int32) ≤ i1 → Post i2) ∧ (¬ (6 : Int32) ≤ i1 → rc S a0 1 (wp_X1_raisedBy S a0 i1 (fun i4 => ∀ i7 : Int32, i7 = (i2 &&& (i4 ^^^ (-1 : Int32))) → ∀ i8 : Int32, i8 = i1 + (1 : Int32) → K6 (i8, i7))))
def wp_X1_neverRaised (S : PS) (a0 : Nat) (Post : Int32 → Prop) : Prop :=
  ∃ n : Nat, wpL (fun (K6 : (Int32 × Int32) → Prop) (q : Int32 × Int32) => wpb_X1_neverRaised_6 S a0 Post K6 q.1 q.2) n ((0 : Int32), (4095 : Int32))
def wpb_X1_draftsWithPresses_4 (S : PS) (a0 : Nat) (Post : Int32 → Prop) (K4 : (Int32 × Int32) → Prop) (i1 : Int32) (i2 : Int32) : Prop :=
  ((6 : Int32) ≤ i1 → Post i2) ∧ (¬ (6 : Int32) ≤ i1 → gR S a0 1 4 (fun a5 => lD S a5 i1 (fun a10 => gI S a10 0 1 (fun i12 => (i12 ≤ 0 → ∀ i15 : Int32, i15 = i1 + (1 : Int32) → K4 (i15, i2)) ∧ (¬ i12 ≤ 0 → ∀ i16 : Int32, i16 = (i2 ||| ((1 : Int32) <<< (i1 &&& 31))) → ∀ i17 : Int32, i17 = i1 + (1 : Int32) → K4 (i17, i16))))))
def wp_X1_draftsWithPresses (S : PS) (a0 : Nat) (Post : Int32 → Prop) : Prop :=
  ∃ n : Nat, wpL (fun (K4 : (Int32 × Int32) → Prop) (q : Int32 × Int32) => wpb_X1_draftsWithPresses_4 S a0 Post K4 q.1 q.2) n ((0 : Int32), (0 : Int32))
def wpb_X6_then_6 (v0 : Int64) (v2 : Int64) (Post : Int64 → Prop) (K6 : (Int32 × Int64) → Prop) (i1 : Int32) (j2 : Int64) : Prop :=
  ((12 : Int32) ≤ i1 → Post j2) ∧ (¬ (12 : Int32) ≤ i1 → wp_X4_at v0 i1 (fun i4 => wp_X4_at v2 i4 (fun i5 => ∀ j6 : Int64, j6 = (j2 ||| (shlL (i5).toInt64 ((4 : Int32) * i1))) → ∀ i7 : Int32, i7 = i1 + (1 : Int32) → K6 (i7, j6))))
def wp_X6_then (v0 : Int64) (v2 : Int64) (Post : Int64 → Prop) : Prop :=
  ∃ n : Nat, wpL (fun (K6 : (Int32 × Int64) → Prop) (q : Int32 × Int64) => wpb_X6_then_6 v0 v2 Post K6 q.1 q.2) n ((0 : Int32), (0 : Int64))
def wp_X1_coloursByPlace (S : PS) (a0 : Nat) (Post : Int64 → Prop) : Prop :=
  gJ S a0 1 1 (fun j2 => gJ S a0 1 2 (fun j5 => wp_X6_then j2 j5 (fun j7 => Post j7)))
def wp_X4_with (v0 : Int64) (v2 : Int32) (v3 : Int32) (Post : Int64 → Prop) : Prop :=
  Post ((v0 &&& ((shlL (15 : Int64) ((4 : Int32) * v2)) ^^^ (-1 : Int64))) ||| (shlL (v3).toInt64 ((4 : Int32) * v2)))
def wpb_X6_round_12 (v0 : Int32) (Post : Int64 → Prop) (K12 : (Int32 × Int32 × Int32 × Int64) → Prop) (i1 : Int32) (i2 : Int32) (i3 : Int32) (j4 : Int64) : Prop :=
  ((12 : Int32) ≤ i1 → (0 ≤ i3 → wp_X4_with j4 i2 i3 (fun j7 => Post j7)) ∧ (¬ 0 ≤ i3 → Post j4)) ∧ (¬ (12 : Int32) ≤ i1 → wp_X7_hasBit v0 i1 (fun i8 => (i8 = 0 → ∀ i14 : Int32, i14 = i1 + (1 : Int32) → K12 (i14, i2, i3, j4)) ∧ (¬ i8 = 0 → (0 ≤ i3 → wp_X4_with j4 i2 i1 (fun j11 => ∀ i12 : Int32, i12 = i1 + (1 : Int32) → K12 (i12, i1, i3, j11))) ∧ (¬ 0 ≤ i3 → ∀ i13 : Int32, i13 = i1 + (1 : Int32) → K12 (i13, i1, i1, j4)))))
def wp_X6_round (v0 : Int32) (Post : Int64 → Prop) : Prop :=
  ∃ n : Nat, wpL (fun (K12 : (Int32 × Int32 × Int32 × Int64) → Prop) (q : Int32 × Int32 × Int32 × Int64) => wpb_X6_round_12 v0 Post K12 q.1 q.2.1 q.2.2.1 q.2.2.2) n ((0 : Int32), (-1 : Int32), (-1 : Int32), (205163983024656 : Int64))
def wpb_X4_moved_6 (v0 : Int64) (v2 : Int64) (Post : Int64 → Prop) (K6 : (Int32 × Int64) → Prop) (i1 : Int32) (j2 : Int64) : Prop :=
  ((12 : Int32) ≤ i1 → Post j2) ∧ (¬ (12 : Int32) ≤ i1 → wp_X4_at v0 i1 (fun i4 => wp_X4_at v2 i1 (fun i5 => ∀ j6 : Int64, j6 = (j2 ||| (shlL (i4).toInt64 ((4 : Int32) * i5))) → ∀ i7 : Int32, i7 = i1 + (1 : Int32) → K6 (i7, j6))))
def wp_X4_moved (v0 : Int64) (v2 : Int64) (Post : Int64 → Prop) : Prop :=
  ∃ n : Nat, wpL (fun (K6 : (Int32 × Int64) → Prop) (q : Int32 × Int64) => wpb_X4_moved_6 v0 v2 Post K6 q.1 q.2) n ((0 : Int32), (0 : Int64))
def wp_X6_back (v0 : Int64) (Post : Int64 → Prop) : Prop :=
  wp_X4_moved (205163983024656 : Int64) v0 (fun j1 => Post j1)
def wp_X1_wayOfPress (S : PS) (a0 : Nat) (v1 : Int32) (Post : Int64 → Prop) : Prop :=
  rc S a0 1 (wp_X1_raisedBy S a0 ((v1 - v1 / (6 : Int32) * (6 : Int32))) (fun i1 => wp_X6_round i1 (fun j4 => ((6 : Int32) ≤ v1 → wp_X6_back j4 (fun j6 => Post j6)) ∧ (¬ (6 : Int32) ≤ v1 → Post j4))))
def wpb_X1_wayOf_21 (S : PS) (a0 : Nat) (a3 : Nat) (Post : Int64 → Prop) (K21 : (Int32 × Int64) → Prop) (i4 : Int32) (j5 : Int64) : Prop :=
  gI S a3 0 1 (fun i7 => (i7 ≤ i4 → Post j5) ∧ (¬ i7 ≤ i4 → rc S a3 0 (wp_X0_pressAt S a3 i4 (fun i10 => rc S a0 1 (wp_X1_wayOfPress S a0 i10 (fun j13 => wp_X6_then j5 j13 (fun j16 => ∀ i17 : Int32, i17 = i4 + (1 : Int32) → K21 (i17, j16))))))))
def wp_X1_wayOf (S : PS) (a0 : Nat) (v1 : Int32) (Post : Int64 → Prop) : Prop :=
  rc S a0 1 (wp_X1_draftAt S a0 v1 (fun rq => (rq = none → Post (205163983024656 : Int64)) ∧ (∀ a3, rq = some a3 → ∃ n : Nat, wpL (fun (K21 : (Int32 × Int64) → Prop) (q : Int32 × Int64) => wpb_X1_wayOf_21 S a0 a3 Post K21 q.1 q.2) n ((0 : Int32), (205163983024656 : Int64)))))
def wp_X2_init (S : PS) (a0 : Nat) (Post : PS → Prop) : Prop :=
  nw S (aC 40 (fun _ => 0)) (fun a1 S2 => pF S2 a0 2 0 (.ref a1) (fun S5 => pF S5 a0 2 1 (.int (0 : Int32)) (fun S8 => Post S8)))
def wpb_X2_signsIn_4 (Post : Int32 → Prop) (K4 : (Int64 × Int32) → Prop) (j1 : Int64) (i2 : Int32) : Prop :=
  ((8 : Int32) ≤ i2 → ((lg_cmp j1 (0 : Int64)) = 0 → Post i2) ∧ (¬ (lg_cmp j1 (0 : Int64)) = 0 → Post (0 : Int32))) ∧ (¬ (8 : Int32) ≤ i2 → ((lg_cmp (j1 &&& (255 : Int64)) (0 : Int64)) = 0 → ((lg_cmp j1 (0 : Int64)) = 0 → Post i2) ∧ (¬ (lg_cmp j1 (0 : Int64)) = 0 → Post (0 : Int32))) ∧ (¬ (lg_cmp (j1 &&& (255 : Int64)) (0 : Int64)) = 0 → ∀ j7 : Int64, j7 = (j1 &&& (255 : Int64)) → ((lg_cmp j7 (33 : Int64)) < 0 → Post (0 : Int32)) ∧ (¬ (lg_cmp j7 (33 : Int64)) < 0 → ((lg_cmp j7 (126 : Int64)) ≤ 0 → ∀ j10 : Int64, j10 = (uShrL j1 (8 : Int32)) → ∀ i11 : Int32, i11 = i2 + (1 : Int32) → K4 (j10, i11)) ∧ (¬ (lg_cmp j7 (126 : Int64)) ≤ 0 → Post (0 : Int32)))))
def wp_X2_signsIn (v0 : Int64) (Post : Int32 → Prop) : Prop :=
  ∃ n : Nat, wpL (fun (K4 : (Int64 × Int32) → Prop) (q : Int64 × Int32) => wpb_X2_signsIn_4 Post K4 q.1 q.2) n (v0, (0 : Int32))
def wpb_X2_append_5 (a0 : Nat) (v1 : Int64) (Post : PS → Prop) (K5 : (Int32 × PS) → Prop) (i2 : Int32) (S3 : PS) : Prop :=
  (i2 < 0 → Post S3) ∧ (¬ i2 < 0 → gI S3 a0 2 1 (fun i6 => wp_X7_isBelow i6 (40 : Int32) (fun i8 => (i8 = 0 → Post S3) ∧ (¬ i8 = 0 → gR S3 a0 2 0 (fun a11 => gI S3 a0 2 1 (fun i14 => sC S3 a11 i14 (i2c (((uShrL v1 ((8 : Int32) * i2)) &&& (255 : Int64))).toInt32) (fun S19 => gI S19 a0 2 1 (fun i21 => pF S19 a0 2 1 (.int (i21 + (1 : Int32))) (fun S25 => ∀ i26 : Int32, i26 = i2 + (-1 : Int32) → K5 (i26, S25))))))))))
def wp_X2_append (S : PS) (a0 : Nat) (v1 : Int64) (v3 : Int32) (Post : PS → Prop) : Prop :=
  ∀ i1 : Int32, i1 = (v3 - (1 : Int32)) → ∃ n : Nat, wpL (fun (K5 : (Int32 × PS) → Prop) (q : Int32 × PS) => wpb_X2_append_5 a0 v1 Post K5 q.1 q.2) n (i1, S)
def wp_X2_pressOf (v0 : Int32) (Post : Int32 → Prop) : Prop :=
  (v0 < (97 : Int32) → (v0 < (65 : Int32) → Post (-1 : Int32)) ∧ (¬ v0 < (65 : Int32) → ((70 : Int32) < v0 → Post (-1 : Int32)) ∧ (¬ (70 : Int32) < v0 → Post ((v0 - (65 : Int32)) + (6 : Int32))))) ∧ (¬ v0 < (97 : Int32) → ((102 : Int32) < v0 → (v0 < (65 : Int32) → Post (-1 : Int32)) ∧ (¬ v0 < (65 : Int32) → ((70 : Int32) < v0 → Post (-1 : Int32)) ∧ (¬ (70 : Int32) < v0 → Post ((v0 - (65 : Int32)) + (6 : Int32))))) ∧ (¬ (102 : Int32) < v0 → Post (v0 - (97 : Int32))))
def wp_X2_timesOf (v0 : Int32) (Post : Int32 → Prop) : Prop :=
  (v0 < (50 : Int32) → Post (0 : Int32)) ∧ (¬ v0 < (50 : Int32) → ((57 : Int32) < v0 → Post (0 : Int32)) ∧ (¬ (57 : Int32) < v0 → Post (v0 - (48 : Int32))))
def wpb_X2_layOut_109 (v1 : Nat) (i4 : Int32) (i27 : Int32) (i28 : Int32) (i29 : Int32) (K9 : (Int32 × Int32 × PS) → Prop) (K109 : (Int32 × PS) → Prop) (i36 : Int32) (S37 : PS) : Prop :=
  (i29 ≤ i36 → ∀ i39 : Int32, i39 = i4 + (1 : Int32) → K9 (i39, i27, S37)) ∧ (¬ i29 ≤ i36 → rc S37 v1 0 (wp_X0_add S37 v1 i28 (fun S40 => ∀ i43 : Int32, i43 = i36 + (1 : Int32) → K109 (i43, S40))))
def wpk_X2_layOut_81 (v1 : Nat) (i4 : Int32) (S6 : PS) (i27 : Int32) (Post : Int32 → PS → Prop) (K9 : (Int32 × Int32 × PS) → Prop) (i28 : Int32) (i29 : Int32) : Prop :=
  (i28 < 0 → Post i4 S6) ∧ (¬ i28 < 0 → (i29 < (1 : Int32) → Post i4 S6) ∧ (¬ i29 < (1 : Int32) → gI S6 v1 0 1 (fun i33 => ((i33 + i29) ≤ (24 : Int32) → ∃ n : Nat, wpL (fun (K109 : (Int32 × PS) → Prop) (q : Int32 × PS) => wpb_X2_layOut_109 v1 i4 i27 i28 i29 K9 K109 q.1 q.2) n ((0 : Int32), S6)) ∧ (¬ (i33 + i29) ≤ (24 : Int32) → Post i4 S6))))
def wpb_X2_layOut_9 (a0 : Nat) (v1 : Nat) (Post : Int32 → PS → Prop) (K9 : (Int32 × Int32 × PS) → Prop) (i4 : Int32) (i5 : Int32) (S6 : PS) : Prop :=
  gI S6 a0 2 1 (fun i8 => (i8 ≤ i4 → gI S6 a0 2 1 (fun i12 => (i12 = 0 → Post (0 : Int32) S6) ∧ (¬ i12 = 0 → Post (-6 : Int32) S6))) ∧ (¬ i8 ≤ i4 → ((40 : Int32) ≤ i4 → gI S6 a0 2 1 (fun i17 => (i17 = 0 → Post (0 : Int32) S6) ∧ (¬ i17 = 0 → Post (-6 : Int32) S6))) ∧ (¬ (40 : Int32) ≤ i4 → gR S6 a0 2 0 (fun a21 => lC S6 a21 i4 (fun i26 => wp_X2_pressOf i26 (fun i27 => (i27 < 0 → gR S6 a0 2 0 (fun a47 => lC S6 a47 i4 (fun i52 => wp_X2_timesOf i52 (fun i53 => ∀ i54 : Int32, i54 = (i53 - (1 : Int32)) → wpk_X2_layOut_81 v1 i4 S6 i27 Post K9 i5 i54)))) ∧ (¬ i27 < 0 → wpk_X2_layOut_81 v1 i4 S6 i27 Post K9 i27 (1 : Int32))))))))
def wp_X2_layOut (S : PS) (a0 : Nat) (v1 : Nat) (Post : Int32 → PS → Prop) : Prop :=
  pF S v1 0 1 (.int (0 : Int32)) (fun S3 => ∃ n : Nat, wpL (fun (K9 : (Int32 × Int32 × PS) → Prop) (q : Int32 × Int32 × PS) => wpb_X2_layOut_9 a0 v1 Post K9 q.1 q.2.1 q.2.2) n ((0 : Int32), (-1 : Int32), S3))
def wp_X3_init (S : PS) (a0 : Nat) (Post : PS → Prop) : Prop :=
  nw S (aL 6 (fun _ => none)) (fun a1 S2 => pF S2 a0 3 0 (.ref a1) (fun S5 => pF S5 a0 3 1 (.int (0 : Int32)) (fun S8 => Post S8)))
def wpb_X3_dropOldest_9 (a0 : Nat) (a7 : Nat) (Post : PS → Prop) (K9 : (Int32 × PS) → Prop) (i8 : Int32) (S9 : PS) : Prop :=
  ((6 : Int32) ≤ i8 → gR S9 a0 3 0 (fun a12 => sL S9 a12 (5 : Int32) a7 (fun S18 => pF S18 a0 3 1 (.int (5 : Int32)) (fun S21 => Post S21)))) ∧ (¬ (6 : Int32) ≤ i8 → gR S9 a0 3 0 (fun a23 => gR S9 a0 3 0 (fun a26 => lL S9 a26 i8 (fun a31 => sL S9 a23 (i8 - (1 : Int32)) a31 (fun S36 => ∀ i37 : Int32, i37 = i8 + (1 : Int32) → K9 (i37, S36))))))
def wp_X3_dropOldest (S : PS) (a0 : Nat) (Post : PS → Prop) : Prop :=
  gR S a0 3 0 (fun a2 => lL S a2 (0 : Int32) (fun a7 => ∃ n : Nat, wpL (fun (K9 : (Int32 × PS) → Prop) (q : Int32 × PS) => wpb_X3_dropOldest_9 a0 a7 Post K9 q.1 q.2) n ((1 : Int32), S)))
def wpk_X3_keep_13 (a0 : Nat) (v1 : Nat) (Post : PS → Prop) (S4 : PS) : Prop :=
  gI S4 a0 3 1 (fun i6 => wp_X7_isBelow i6 (6 : Int32) (fun i8 => (i8 = 0 → Post S4) ∧ (¬ i8 = 0 → gR S4 a0 3 0 (fun a11 => gI S4 a0 3 1 (fun i14 => lLo S4 a11 i14 (nw S4 (.inl (1, [.long 0, .long 0, .long 0, .null, .null, .int 0, .int 0])) (fun a20 S21 => S21 a20 ≠ oJ ∧ (wp_X1_init S21 a20 (fun S22 => rc S22 a20 1 (wp_X1_copyFrom S22 a20 v1 (fun S24 => gR S24 a0 3 0 (fun a28 => gI S24 a0 3 1 (fun i31 => sL S24 a28 i31 a20 (fun S37 => gI S37 a0 3 1 (fun i39 => pF S37 a0 3 1 (.int (i39 + (1 : Int32))) (fun S43 => Post S43))))))))))) (fun a19 => rc S4 a19 1 (wp_X1_copyFrom S4 a19 v1 (fun S44 => gR S44 a0 3 0 (fun a48 => gI S44 a0 3 1 (fun i51 => sL S44 a48 i51 a19 (fun S57 => gI S57 a0 3 1 (fun i59 => pF S57 a0 3 1 (.int (i59 + (1 : Int32))) (fun S63 => Post S63)))))))))))))
def wp_X3_keep (S : PS) (a0 : Nat) (v1 : Nat) (Post : PS → Prop) : Prop :=
  gI S a0 3 1 (fun i2 => (i2 < (6 : Int32) → wpk_X3_keep_13 a0 v1 Post S) ∧ (¬ i2 < (6 : Int32) → rc S a0 3 (wp_X3_dropOldest S a0 (fun S65 => wpk_X3_keep_13 a0 v1 Post S65))))
def wp_X3_giveBack (S : PS) (a0 : Nat) (v1 : Nat) (Post : PS → Prop) : Prop :=
  gI S a0 3 1 (fun i2 => wp_X7_isBelow ((i2 - (1 : Int32))) (6 : Int32) (fun i4 => (i4 = 0 → Post S) ∧ (¬ i4 = 0 → gI S a0 3 1 (fun i7 => pF S a0 3 1 (.int (i7 - (1 : Int32))) (fun S11 => gR S11 a0 3 0 (fun a13 => gI S11 a0 3 1 (fun i16 => lL S11 a13 i16 (fun a21 => rc S11 v1 1 (wp_X1_copyFrom S11 v1 a21 (fun S22 => Post S22))))))))))
def wp_X5_init (S : PS) (a0 : Nat) (Post : PS → Prop) : Prop :=
  nw S (aJ 6 (fun _ => 0)) (fun a1 S2 => pF S2 a0 4 0 (.ref a1) (fun S5 => pF S5 a0 4 1 (.int (0 : Int32)) (fun S8 => nw S8 (aJ 301 (fun _ => 0)) (fun a9 S10 => pF S10 a0 4 2 (.ref a9) (fun S13 => pF S13 a0 4 3 (.int (0 : Int32)) (fun S16 => nw S16 (aJ 1024 (fun _ => 0)) (fun a17 S18 => pF S18 a0 4 4 (.ref a17) (fun S21 => Post S21))))))))
def wp_X5_addMaker (S : PS) (a0 : Nat) (v1 : Int64) (Post : PS → Prop) : Prop :=
  gI S a0 4 1 (fun i2 => wp_X7_isBelow i2 (6 : Int32) (fun i4 => (i4 = 0 → Post S) ∧ (¬ i4 = 0 → gR S a0 4 0 (fun a7 => gI S a0 4 1 (fun i10 => sJ S a7 i10 v1 (fun S15 => gI S15 a0 4 1 (fun i17 => pF S15 a0 4 1 (.int (i17 + (1 : Int32))) (fun S21 => Post S21))))))))
def wpb_X5_broughtTo_5 (v0 : Int64) (v2 : Int32) (Post : Int32 → Prop) (K5 : (Int32 × Int32) → Prop) (i1 : Int32) (i2 : Int32) : Prop :=
  ((12 : Int32) ≤ i1 → Post i2) ∧ (¬ (12 : Int32) ≤ i1 → wp_X7_hasBit v2 i1 (fun i4 => (i4 = 0 → ∀ i6 : Int32, i6 = i1 + (1 : Int32) → K5 (i6, i2)) ∧ (¬ i4 = 0 → wp_X4_at v0 i1 (fun i7 => ∀ i8 : Int32, i8 = (i2 ||| ((1 : Int32) <<< (i7 &&& 31))) → ∀ i9 : Int32, i9 = i1 + (1 : Int32) → K5 (i9, i8)))))
def wp_X5_broughtTo (v0 : Int64) (v2 : Int32) (Post : Int32 → Prop) : Prop :=
  ∃ n : Nat, wpL (fun (K5 : (Int32 × Int32) → Prop) (q : Int32 × Int32) => wpb_X5_broughtTo_5 v0 v2 Post K5 q.1 q.2) n ((0 : Int32), (0 : Int32))
def wpb_X5_placesFrom_15 (S : PS) (a0 : Nat) (i2 : Int32) (K6 : (Int32 × Int32) → Prop) (K15 : (Int32 × Int32) → Prop) (i5 : Int32) (i6 : Int32) : Prop :=
  gI S a0 4 1 (fun i8 => (i8 ≤ i5 → ∀ i11 : Int32, i11 = i2 + (1 : Int32) → K6 (i11, i6)) ∧ (¬ i8 ≤ i5 → ((6 : Int32) ≤ i5 → ∀ i13 : Int32, i13 = i2 + (1 : Int32) → K6 (i13, i6)) ∧ (¬ (6 : Int32) ≤ i5 → gR S a0 4 0 (fun a15 => lJ S a15 i5 (fun j20 => wp_X5_broughtTo j20 i6 (fun i21 => ∀ i22 : Int32, i22 = (i6 ||| i21) → ∀ i23 : Int32, i23 = i5 + (1 : Int32) → K15 (i23, i22)))))))
def wpb_X5_placesFrom_6 (S : PS) (a0 : Nat) (Post : Int32 → Prop) (K6 : (Int32 × Int32) → Prop) (i2 : Int32) (i3 : Int32) : Prop :=
  ((12 : Int32) ≤ i2 → Post i3) ∧ (¬ (12 : Int32) ≤ i2 → ∃ n : Nat, wpL (fun (K15 : (Int32 × Int32) → Prop) (q : Int32 × Int32) => wpb_X5_placesFrom_15 S a0 i2 K6 K15 q.1 q.2) n ((0 : Int32), i3))
def wp_X5_placesFrom (S : PS) (a0 : Nat) (v1 : Int32) (Post : Int32 → Prop) : Prop :=
  ∀ i1 : Int32, i1 = ((1 : Int32) <<< (v1 &&& 31)) → ∃ n : Nat, wpL (fun (K6 : (Int32 × Int32) → Prop) (q : Int32 × Int32) => wpb_X5_placesFrom_6 S a0 Post K6 q.1 q.2) n ((0 : Int32), i1)
def wpb_X5_note_27 (S : PS) (a0 : Nat) (v1 : Int64) (Post : PS → Prop) (K27 : (Int32 × Int32) → Prop) (i7 : Int32) (i8 : Int32) : Prop :=
  ((1024 : Int32) ≤ i7 → Post S) ∧ (¬ (1024 : Int32) ≤ i7 → gR S a0 4 4 (fun a11 => lJ S a11 (i8 &&& (1023 : Int32)) (fun j16 => ((lg_cmp j16 v1) = 0 → Post S) ∧ (¬ (lg_cmp j16 v1) = 0 → ((lg_cmp j16 (0 : Int64)) = 0 → gR S a0 4 4 (fun a22 => sJ S a22 (i8 &&& (1023 : Int32)) v1 (fun S27 => gR S27 a0 4 2 (fun a29 => gI S27 a0 4 3 (fun i32 => sJ S27 a29 i32 v1 (fun S37 => gI S37 a0 4 3 (fun i39 => pF S37 a0 4 3 (.int (i39 + (1 : Int32))) (fun S43 => Post S43)))))))) ∧ (¬ (lg_cmp j16 (0 : Int64)) = 0 → ∀ i19 : Int32, i19 = i8 + (1 : Int32) → ∀ i20 : Int32, i20 = i7 + (1 : Int32) → K27 (i20, i19))))))
def wp_X5_note (S : PS) (a0 : Nat) (v1 : Int64) (Post : PS → Prop) : Prop :=
  gI S a0 4 3 (fun i2 => wp_X7_isBelow i2 (301 : Int32) (fun i4 => (i4 = 0 → Post S) ∧ (¬ i4 = 0 → ∀ i6 : Int32, i6 = ((uShrL (v1 * (-7046029254386353131 : Int64)) (54 : Int32))).toInt32 → ∃ n : Nat, wpL (fun (K27 : (Int32 × Int32) → Prop) (q : Int32 × Int32) => wpb_X5_note_27 S a0 v1 Post K27 q.1 q.2) n ((0 : Int32), i6))))
def wpb_X5_allWays_53 (a0 : Nat) (i10 : Int32) (Post : Int32 → PS → Prop) (K36 : (Int32 × PS) → Prop) (K53 : (Int32 × PS) → Prop) (i23 : Int32) (S24 : PS) : Prop :=
  gI S24 a0 4 1 (fun i26 => (i26 ≤ i23 → gI S24 a0 4 3 (fun i30 => (i30 ≤ (300 : Int32) → ∀ i33 : Int32, i33 = i10 + (1 : Int32) → K36 (i33, S24)) ∧ (¬ i30 ≤ (300 : Int32) → Post (-6 : Int32) S24))) ∧ (¬ i26 ≤ i23 → ((6 : Int32) ≤ i23 → gI S24 a0 4 3 (fun i36 => (i36 ≤ (300 : Int32) → ∀ i39 : Int32, i39 = i10 + (1 : Int32) → K36 (i39, S24)) ∧ (¬ i36 ≤ (300 : Int32) → Post (-6 : Int32) S24))) ∧ (¬ (6 : Int32) ≤ i23 → gR S24 a0 4 2 (fun a41 => lJ S24 a41 i10 (fun j46 => gR S24 a0 4 0 (fun a48 => lJ S24 a48 i23 (fun j53 => wp_X6_then j46 j53 (fun j54 => rc S24 a0 4 (wp_X5_note S24 a0 j54 (fun S55 => ∀ i58 : Int32, i58 = i23 + (1 : Int32) → K53 (i58, S55)))))))))))
def wpb_X5_allWays_36 (a0 : Nat) (Post : Int32 → PS → Prop) (K36 : (Int32 × PS) → Prop) (i10 : Int32) (S11 : PS) : Prop :=
  ((300 : Int32) ≤ i10 → gI S11 a0 4 3 (fun i14 => Post i14 S11)) ∧ (¬ (300 : Int32) ≤ i10 → gI S11 a0 4 3 (fun i17 => (i17 ≤ i10 → gI S11 a0 4 3 (fun i21 => Post i21 S11)) ∧ (¬ i17 ≤ i10 → ∃ n : Nat, wpL (fun (K53 : (Int32 × PS) → Prop) (q : Int32 × PS) => wpb_X5_allWays_53 a0 i10 Post K36 K53 q.1 q.2) n ((0 : Int32), S11))))
def wpb_X5_allWays_2 (a0 : Nat) (Post : Int32 → PS → Prop) (K2 : (Int32 × PS) → Prop) (i1 : Int32) (S2 : PS) : Prop :=
  ((1024 : Int32) ≤ i1 → pF S2 a0 4 3 (.int (0 : Int32)) (fun S6 => rc S6 a0 4 (wp_X5_note S6 a0 (205163983024656 : Int64) (fun S7 => ∃ n : Nat, wpL (fun (K36 : (Int32 × PS) → Prop) (q : Int32 × PS) => wpb_X5_allWays_36 a0 Post K36 q.1 q.2) n ((0 : Int32), S7))))) ∧ (¬ (1024 : Int32) ≤ i1 → gR S2 a0 4 4 (fun a62 => sJ S2 a62 i1 (0 : Int64) (fun S67 => ∀ i68 : Int32, i68 = i1 + (1 : Int32) → K2 (i68, S67))))
def wp_X5_allWays (S : PS) (a0 : Nat) (Post : Int32 → PS → Prop) : Prop :=
  ∃ n : Nat, wpL (fun (K2 : (Int32 × PS) → Prop) (q : Int32 × PS) => wpb_X5_allWays_2 a0 Post K2 q.1 q.2) n ((0 : Int32), S)
def wpb_X6_power_10 (Post : Int64 → Prop) (K10 : (Int32 × Int64 × Int64) → Prop) (i1 : Int32) (j2 : Int64) (j3 : Int64) : Prop :=
  (i1 ≤ 0 → Post j3) ∧ (¬ i1 ≤ 0 → ((i1 &&& (1 : Int32)) = (1 : Int32) → wp_X6_then j3 j2 (fun j8 => wp_X6_then j2 j2 (fun j9 => ∀ i10 : Int32, i10 = (i1 >>> ((1 : Int32) &&& 31)) → K10 (i10, j9, j8)))) ∧ (¬ (i1 &&& (1 : Int32)) = (1 : Int32) → wp_X6_then j2 j2 (fun j6 => ∀ i7 : Int32, i7 = (i1 >>> ((1 : Int32) &&& 31)) → K10 (i7, j6, j3))))
def wp_X6_power (v0 : Int64) (v2 : Int32) (Post : Int64 → Prop) : Prop :=
  ∃ n : Nat, wpL (fun (K10 : (Int32 × Int64 × Int64) → Prop) (q : Int32 × Int64 × Int64) => wpb_X6_power_10 Post K10 q.1 q.2.1 q.2.2) n (v2, v0, (205163983024656 : Int64))
def wpb_X6_alikePlaces_6 (v0 : Int64) (v2 : Int64) (Post : Int32 → Prop) (K6 : (Int32 × Int32) → Prop) (i1 : Int32) (i2 : Int32) : Prop :=
  ((12 : Int32) ≤ i1 → Post i2) ∧ (¬ (12 : Int32) ≤ i1 → wp_X4_at v0 i1 (fun i4 => wp_X4_at v2 i1 (fun i5 => (i4 = i5 → ∀ i8 : Int32, i8 = (i2 ||| ((1 : Int32) <<< (i1 &&& 31))) → ∀ i9 : Int32, i9 = i1 + (1 : Int32) → K6 (i9, i8)) ∧ (¬ i4 = i5 → ∀ i7 : Int32, i7 = i1 + (1 : Int32) → K6 (i7, i2)))))
def wp_X6_alikePlaces (v0 : Int64) (v2 : Int64) (Post : Int32 → Prop) : Prop :=
  ∃ n : Nat, wpL (fun (K6 : (Int32 × Int32) → Prop) (q : Int32 × Int32) => wpb_X6_alikePlaces_6 v0 v2 Post K6 q.1 q.2) n ((0 : Int32), (0 : Int32))
def wp_J6_bitCount_0f7a4 (v0 : Int32) (Post : Int32 → Prop) : Prop :=
  ∀ i1 : Int32, i1 = (v0 - ((uShr v0 (1 : Int32)) &&& (1431655765 : Int32))) → ∀ i2 : Int32, i2 = ((i1 &&& (858993459 : Int32)) + ((uShr i1 (2 : Int32)) &&& (858993459 : Int32))) → ∀ i3 : Int32, i3 = ((i2 + (uShr i2 (4 : Int32))) &&& (252645135 : Int32)) → ∀ i4 : Int32, i4 = (i3 + (uShr i3 (8 : Int32))) → ∀ i5 : Int32, i5 = (i4 + (uShr i4 (16 : Int32))) → Post (i5 &&& (63 : Int32))
def wp_X6_staying (v0 : Int64) (Post : Int32 → Prop) : Prop :=
  wp_X6_alikePlaces v0 (205163983024656 : Int64) (fun i1 => wp_J6_bitCount_0f7a4 i1 (fun i2 => Post i2))
def wpb_X6_timesUntilAgain_10 (v0 : Int64) (v2 : Int64) (Post : Int32 → Prop) (K10 : (Int32 × Int64) → Prop) (i2 : Int32) (j3 : Int64) : Prop :=
  ((lg_cmp j3 v2) = 0 → Post i2) ∧ (¬ (lg_cmp j3 v2) = 0 → ((60 : Int32) ≤ i2 → Post i2) ∧ (¬ (60 : Int32) ≤ i2 → wp_X4_moved j3 v0 (fun j6 => ∀ i7 : Int32, i7 = i2 + (1 : Int32) → K10 (i7, j6))))
def wp_X6_timesUntilAgain (v0 : Int64) (v2 : Int64) (Post : Int32 → Prop) : Prop :=
  wp_X4_moved v2 v0 (fun j1 => ∃ n : Nat, wpL (fun (K10 : (Int32 × Int64) → Prop) (q : Int32 × Int64) => wpb_X6_timesUntilAgain_10 v0 v2 Post K10 q.1 q.2) n ((1 : Int32), j1))
def wpb_X6_cycleOf_14 (v0 : Int64) (v2 : Int32) (Post : Int32 → Prop) (K14 : (Int32 × Int32 × Int32) → Prop) (i3 : Int32) (i4 : Int32) (i5 : Int32) : Prop :=
  ((12 : Int32) ≤ i3 → Post i5) ∧ (¬ (12 : Int32) ≤ i3 → (i4 = v2 → Post i5) ∧ (¬ i4 = v2 → ∀ i8 : Int32, i8 = (i5 ||| ((1 : Int32) <<< (i4 &&& 31))) → wp_X4_at v0 i4 (fun i9 => ∀ i10 : Int32, i10 = i3 + (1 : Int32) → K14 (i10, i9, i8))))
def wp_X6_cycleOf (v0 : Int64) (v2 : Int32) (Post : Int32 → Prop) : Prop :=
  ∀ i1 : Int32, i1 = ((1 : Int32) <<< (v2 &&& 31)) → wp_X4_at v0 v2 (fun i2 => ∃ n : Nat, wpL (fun (K14 : (Int32 × Int32 × Int32) → Prop) (q : Int32 × Int32 × Int32) => wpb_X6_cycleOf_14 v0 v2 Post K14 q.1 q.2.1 q.2.2) n ((1 : Int32), i2, i1))
def wpb_X6_cycles_4 (v0 : Int64) (Post : Int32 → Prop) (K4 : (Int32 × Int32) → Prop) (i1 : Int32) (i2 : Int32) : Prop :=
  ((12 : Int32) ≤ i1 → Post i2) ∧ (¬ (12 : Int32) ≤ i1 → wp_X6_cycleOf v0 i1 (fun i4 => ((i4 &&& (((1 : Int32) <<< (i1 &&& 31)) - (1 : Int32))) = 0 → (i4 = ((1 : Int32) <<< (i1 &&& 31)) → ∀ i8 : Int32, i8 = i1 + (1 : Int32) → K4 (i8, i2)) ∧ (¬ i4 = ((1 : Int32) <<< (i1 &&& 31)) → ∀ i9 : Int32, i9 = i2 + (1 : Int32) → ∀ i10 : Int32, i10 = i1 + (1 : Int32) → K4 (i10, i9))) ∧ (¬ (i4 &&& (((1 : Int32) <<< (i1 &&& 31)) - (1 : Int32))) = 0 → ∀ i6 : Int32, i6 = i1 + (1 : Int32) → K4 (i6, i2))))
def wp_X6_cycles (v0 : Int64) (Post : Int32 → Prop) : Prop :=
  ∃ n : Nat, wpL (fun (K4 : (Int32 × Int32) → Prop) (q : Int32 × Int32) => wpb_X6_cycles_4 v0 Post K4 q.1 q.2) n ((0 : Int32), (0 : Int32))
def wpb_X6_longestCycle_4 (v0 : Int64) (Post : Int32 → Prop) (K4 : (Int32 × Int32) → Prop) (i1 : Int32) (i2 : Int32) : Prop :=
  ((12 : Int32) ≤ i1 → Post i2) ∧ (¬ (12 : Int32) ≤ i1 → wp_X6_cycleOf v0 i1 (fun i4 => wp_J6_bitCount_0f7a4 i4 (fun i5 => (i5 ≤ (1 : Int32) → ∀ i7 : Int32, i7 = i1 + (1 : Int32) → K4 (i7, i2)) ∧ (¬ i5 ≤ (1 : Int32) → (i5 ≤ i2 → ∀ i9 : Int32, i9 = i1 + (1 : Int32) → K4 (i9, i2)) ∧ (¬ i5 ≤ i2 → ∀ i10 : Int32, i10 = i1 + (1 : Int32) → K4 (i10, i5))))))
def wp_X6_longestCycle (v0 : Int64) (Post : Int32 → Prop) : Prop :=
  ∃ n : Nat, wpL (fun (K4 : (Int32 × Int32) → Prop) (q : Int32 × Int32) => wpb_X6_longestCycle_4 v0 Post K4 q.1 q.2) n ((0 : Int32), (0 : Int32))
def wpb_X6_crossings_15 (v0 : Int64) (i1 : Int32) (K4 : (Int32 × Int32) → Prop) (K15 : (Int32 × Int32) → Prop) (i5 : Int32) (i6 : Int32) : Prop :=
  ((12 : Int32) ≤ i5 → ∀ i8 : Int32, i8 = i1 + (1 : Int32) → K4 (i8, i6)) ∧ (¬ (12 : Int32) ≤ i5 → wp_X4_at v0 i1 (fun i9 => wp_X4_at v0 i5 (fun i10 => (i9 ≤ i10 → ∀ i12 : Int32, i12 = i5 + (1 : Int32) → K15 (i12, i6)) ∧ (¬ i9 ≤ i10 → ∀ i13 : Int32, i13 = i6 + (1 : Int32) → ∀ i14 : Int32, i14 = i5 + (1 : Int32) → K15 (i14, i13)))))
def wpb_X6_crossings_4 (v0 : Int64) (Post : Int32 → Prop) (K4 : (Int32 × Int32) → Prop) (i1 : Int32) (i2 : Int32) : Prop :=
  ((12 : Int32) ≤ i1 → Post i2) ∧ (¬ (12 : Int32) ≤ i1 → ∀ i4 : Int32, i4 = (i1 + (1 : Int32)) → ∃ n : Nat, wpL (fun (K15 : (Int32 × Int32) → Prop) (q : Int32 × Int32) => wpb_X6_crossings_15 v0 i1 K4 K15 q.1 q.2) n (i4, i2))
def wp_X6_crossings (v0 : Int64) (Post : Int32 → Prop) : Prop :=
  ∃ n : Nat, wpL (fun (K4 : (Int32 × Int32) → Prop) (q : Int32 × Int32) => wpb_X6_crossings_4 v0 Post K4 q.1 q.2) n ((0 : Int32), (0 : Int32))
def wp_X7_init (S : PS) (a0 : Nat) (Post : PS → Prop) : Prop :=
  nw S (.inl (1, [.long 0, .long 0, .long 0, .null, .null, .int 0, .int 0])) (fun a1 S2 => S2 a1 ≠ oJ ∧ (wp_X1_init S2 a1 (fun S3 => pF S3 a0 5 0 (.ref a1) (fun S7 => nw S7 (.inl (3, [.null, .int 0])) (fun a8 S9 => S9 a8 ≠ oJ ∧ (wp_X3_init S9 a8 (fun S10 => pF S10 a0 5 1 (.ref a8) (fun S14 => nw S14 (aL 2 (fun _ => none)) (fun a15 S16 => pF S16 a0 5 2 (.ref a15) (fun S19 => nw S19 (.inl (2, [.null, .int 0])) (fun a20 S21 => S21 a20 ≠ oJ ∧ (wp_X2_init S21 a20 (fun S22 => pF S22 a0 5 3 (.ref a20) (fun S26 => nw S26 (.inl (4, [.null, .int 0, .null, .int 0, .null])) (fun a27 S28 => S28 a27 ≠ oJ ∧ (wp_X5_init S28 a27 (fun S29 => pF S29 a0 5 4 (.ref a27) (fun S33 => nw S33 (.inl (0, [.null, .int 0])) (fun a34 S35 => S35 a34 ≠ oJ ∧ (wp_X0_init S35 a34 (fun S36 => pF S36 a0 5 5 (.ref a34) (fun S40 => Post S40))))))))))))))))))))))
def wp_X7_put (S : PS) (a0 : Nat) (v1 : Int32) (v2 : Int32) (Post : Int32 → PS → Prop) : Prop :=
  wp_X7_isBelow v1 (12 : Int32) (fun i1 => (i1 = 0 → Post (-1 : Int32) S) ∧ (¬ i1 = 0 → wp_X7_isBelow v2 (6 : Int32) (fun i3 => (i3 = 0 → Post (-1 : Int32) S) ∧ (¬ i3 = 0 → gR S a0 5 1 (fun a6 => gR S a0 5 0 (fun a9 => rc S a6 3 (wp_X3_keep S a6 a9 (fun S11 => gR S11 a0 5 0 (fun a15 => gJ S11 a15 1 0 (fun j18 => wp_X4_at j18 v1 (fun i20 => gR S11 a0 5 0 (fun a22 => gR S11 a0 5 0 (fun a25 => gJ S11 a25 1 0 (fun j28 => wp_X4_with j28 v1 v2 (fun j30 => pF S11 a22 1 0 (.long j30) (fun S33 => Post i20 S33))))))))))))))))
def wp_X7_tie (S : PS) (a0 : Nat) (v1 : Int32) (v2 : Int32) (Post : Int32 → PS → Prop) : Prop :=
  wp_X7_isBelow v1 (6 : Int32) (fun i1 => (i1 = 0 → Post (-1 : Int32) S) ∧ (¬ i1 = 0 → wp_X7_isBelow v2 (64 : Int32) (fun i3 => (i3 = 0 → Post (-2 : Int32) S) ∧ (¬ i3 = 0 → gR S a0 5 1 (fun a6 => gR S a0 5 0 (fun a9 => rc S a6 3 (wp_X3_keep S a6 a9 (fun S11 => gR S11 a0 5 0 (fun a15 => gR S11 a15 1 3 (fun a18 => sI S11 a18 v1 v2 (fun S23 => gR S23 a0 5 0 (fun a25 => rc S23 a25 1 (wp_X1_raisedBy S23 a25 v1 (fun i27 => wp_J6_bitCount_0f7a4 i27 (fun i30 => Post i30 S23)))))))))))))))
def wp_X7_read (S : PS) (a0 : Nat) (v1 : Int32) (Post : Int32 → PS → Prop) : Prop :=
  gR S a0 5 0 (fun a2 => rc S a2 1 (wp_X1_draftAt S a2 v1 (fun rq => (rq = none → Post (-1 : Int32) S) ∧ (∀ a6, rq = some a6 → gR S a0 5 3 (fun a8 => gR S a0 5 5 (fun a11 => rc S a8 2 (wp_X2_layOut S a8 a11 (fun i13 S14 => (i13 = (-6 : Int32) → gR S14 a0 5 1 (fun a19 => gR S14 a0 5 0 (fun a22 => rc S14 a19 3 (wp_X3_keep S14 a19 a22 (fun S24 => gR S24 a0 5 5 (fun a28 => rc S24 a6 0 (wp_X0_copyFrom S24 a6 a28 (fun S30 => gR S30 a0 5 3 (fun a34 => pF S30 a34 2 1 (.int (0 : Int32)) (fun S38 => gI S38 a6 0 1 (fun i40 => Post i40 S38))))))))))) ∧ (¬ i13 = (-6 : Int32) → Post (-3 : Int32) S14)))))))))
def wp_X7_compose (S : PS) (a0 : Nat) (v1 : Int32) (v2 : Int32) (v3 : Int32) (Post : Int32 → PS → Prop) : Prop :=
  gR S a0 5 0 (fun a2 => rc S a2 1 (wp_X1_draftAt S a2 v1 (fun rq => (rq = none → gR S a0 5 0 (fun a8 => rc S a8 1 (wp_X1_draftAt S a8 v2 (fun rq => (rq = none → gR S a0 5 0 (fun a14 => rc S a14 1 (wp_X1_draftAt S a14 v3 (fun rq => (rq = none → Post (-1 : Int32) S) ∧ (∀ a18, rq = some a18 → Post (-1 : Int32) S))))) ∧ (∀ a12, rq = some a12 → gR S a0 5 0 (fun a20 => rc S a20 1 (wp_X1_draftAt S a20 v3 (fun rq => (rq = none → Post (-1 : Int32) S) ∧ (∀ a24, rq = some a24 → Post (-1 : Int32) S))))))))) ∧ (∀ a6, rq = some a6 → gR S a0 5 0 (fun a26 => rc S a26 1 (wp_X1_draftAt S a26 v2 (fun rq => (rq = none → gR S a0 5 0 (fun a32 => rc S a32 1 (wp_X1_draftAt S a32 v3 (fun rq => (rq = none → Post (-1 : Int32) S) ∧ (∀ a36, rq = some a36 → Post (-1 : Int32) S))))) ∧ (∀ a30, rq = some a30 → gR S a0 5 0 (fun a38 => rc S a38 1 (wp_X1_draftAt S a38 v3 (fun rq => (rq = none → Post (-1 : Int32) S) ∧ (∀ a42, rq = some a42 → gI S a30 0 1 (fun i44 => gI S a42 0 1 (fun i47 => ((i44 + i47) ≤ (24 : Int32) → gR S a0 5 1 (fun a51 => gR S a0 5 0 (fun a54 => rc S a51 3 (wp_X3_keep S a51 a54 (fun S56 => gR S56 a0 5 5 (fun a60 => pF S56 a60 0 1 (.int (0 : Int32)) (fun S64 => gR S64 a0 5 5 (fun a66 => rc S64 a66 0 (wp_X0_append S64 a66 a30 (fun S68 => gR S68 a0 5 5 (fun a72 => rc S68 a72 0 (wp_X0_append S68 a72 a42 (fun S74 => gR S74 a0 5 5 (fun a78 => rc S74 a6 0 (wp_X0_copyFrom S74 a6 a78 (fun S80 => gI S80 a6 0 1 (fun i84 => Post i84 S80))))))))))))))))) ∧ (¬ (i44 + i47) ≤ (24 : Int32) → Post (-4 : Int32) S)))))))))))))))
def wp_X7_turnRound (S : PS) (a0 : Nat) (v1 : Int32) (v2 : Int32) (Post : Int32 → PS → Prop) : Prop :=
  gR S a0 5 0 (fun a2 => rc S a2 1 (wp_X1_draftAt S a2 v1 (fun rq => (rq = none → gR S a0 5 0 (fun a8 => rc S a8 1 (wp_X1_draftAt S a8 v2 (fun rq => (rq = none → Post (-1 : Int32) S) ∧ (∀ a12, rq = some a12 → Post (-1 : Int32) S))))) ∧ (∀ a6, rq = some a6 → gR S a0 5 0 (fun a14 => rc S a14 1 (wp_X1_draftAt S a14 v2 (fun rq => (rq = none → Post (-1 : Int32) S) ∧ (∀ a18, rq = some a18 → gR S a0 5 1 (fun a20 => gR S a0 5 0 (fun a23 => rc S a20 3 (wp_X3_keep S a20 a23 (fun S25 => gR S25 a0 5 5 (fun a29 => pF S25 a29 0 1 (.int (0 : Int32)) (fun S33 => gR S33 a0 5 5 (fun a35 => rc S33 a35 0 (wp_X0_appendTurned S33 a35 a18 (fun S37 => gR S37 a0 5 5 (fun a41 => rc S37 a6 0 (wp_X0_copyFrom S37 a6 a41 (fun S43 => gI S43 a6 0 1 (fun i47 => Post i47 S43)))))))))))))))))))))
def wpb_X7_repeat_82 (a0 : Nat) (v3 : Int32) (a6 : Nat) (a18 : Nat) (Post : Int32 → PS → Prop) (K82 : (Int32 × PS) → Prop) (i40 : Int32) (S41 : PS) : Prop :=
  (v3 ≤ i40 → gR S41 a0 5 5 (fun a44 => rc S41 a6 0 (wp_X0_copyFrom S41 a6 a44 (fun S46 => gI S46 a6 0 1 (fun i50 => Post i50 S46))))) ∧ (¬ v3 ≤ i40 → gR S41 a0 5 5 (fun a53 => rc S41 a53 0 (wp_X0_append S41 a53 a18 (fun S55 => ∀ i58 : Int32, i58 = i40 + (1 : Int32) → K82 (i58, S55)))))
def wp_X7_repeat (S : PS) (a0 : Nat) (v1 : Int32) (v2 : Int32) (v3 : Int32) (Post : Int32 → PS → Prop) : Prop :=
  gR S a0 5 0 (fun a2 => rc S a2 1 (wp_X1_draftAt S a2 v1 (fun rq => (rq = none → gR S a0 5 0 (fun a8 => rc S a8 1 (wp_X1_draftAt S a8 v2 (fun rq => (rq = none → Post (-1 : Int32) S) ∧ (∀ a12, rq = some a12 → Post (-1 : Int32) S))))) ∧ (∀ a6, rq = some a6 → gR S a0 5 0 (fun a14 => rc S a14 1 (wp_X1_draftAt S a14 v2 (fun rq => (rq = none → Post (-1 : Int32) S) ∧ (∀ a18, rq = some a18 → (v3 < 0 → Post (-2 : Int32) S) ∧ (¬ v3 < 0 → (v3 ≤ (24 : Int32) → gI S a18 0 1 (fun i22 => ((i22 * v3) ≤ (24 : Int32) → gR S a0 5 1 (fun a26 => gR S a0 5 0 (fun a29 => rc S a26 3 (wp_X3_keep S a26 a29 (fun S31 => gR S31 a0 5 5 (fun a35 => pF S31 a35 0 1 (.int (0 : Int32)) (fun S39 => ∃ n : Nat, wpL (fun (K82 : (Int32 × PS) → Prop) (q : Int32 × PS) => wpb_X7_repeat_82 a0 v3 a6 a18 Post K82 q.1 q.2) n ((0 : Int32), S39)))))))) ∧ (¬ (i22 * v3) ≤ (24 : Int32) → Post (-4 : Int32) S))) ∧ (¬ v3 ≤ (24 : Int32) → Post (-2 : Int32) S))))))))))
def wp_X7_weave (S : PS) (a0 : Nat) (v1 : Int32) (v2 : Int32) (Post : Int32 → PS → Prop) : Prop :=
  gR S a0 5 0 (fun a2 => rc S a2 1 (wp_X1_draftAt S a2 v1 (fun rq => (rq = none → Post (-1 : Int32) S) ∧ (∀ a6, rq = some a6 → (v2 < (1 : Int32) → Post (-2 : Int32) S) ∧ (¬ v2 < (1 : Int32) → (v2 ≤ (1000 : Int32) → gR S a0 5 1 (fun a10 => gR S a0 5 0 (fun a13 => rc S a10 3 (wp_X3_keep S a10 a13 (fun S15 => gR S15 a0 5 0 (fun a19 => gR S15 a0 5 0 (fun a22 => gJ S15 a22 1 1 (fun j25 => gR S15 a0 5 0 (fun a28 => rc S15 a28 1 (wp_X1_wayOf S15 a28 v1 (fun j30 => wp_X6_power j30 v2 (fun j33 => wp_X4_moved j25 j33 (fun j34 => pF S15 a19 1 1 (.long j34) (fun S37 => gR S37 a0 5 0 (fun a39 => gI S37 a39 1 5 (fun i42 => gI S37 a6 0 1 (fun i45 => pF S37 a39 1 5 (.int (i42 + (i45 * v2))) (fun S49 => gR S49 a0 5 0 (fun a51 => gI S49 a51 1 6 (fun i54 => pF S49 a51 1 6 (.int (i54 + v2)) (fun S58 => gR S58 a0 5 0 (fun a60 => gJ S58 a60 1 1 (fun j63 => wp_X6_staying j63 (fun i65 => Post i65 S58)))))))))))))))))))))))) ∧ (¬ v2 ≤ (1000 : Int32) → Post (-2 : Int32) S))))))
def wp_X7_dye (S : PS) (a0 : Nat) (v1 : Int32) (v2 : Int32) (Post : Int32 → PS → Prop) : Prop :=
  wp_X7_isBelow v1 (12 : Int32) (fun i1 => (i1 = 0 → Post (-1 : Int32) S) ∧ (¬ i1 = 0 → wp_X7_isBelow v2 (4 : Int32) (fun i3 => (i3 = 0 → Post (-2 : Int32) S) ∧ (¬ i3 = 0 → gR S a0 5 1 (fun a6 => gR S a0 5 0 (fun a9 => rc S a6 3 (wp_X3_keep S a6 a9 (fun S11 => gR S11 a0 5 0 (fun a15 => gJ S11 a15 1 2 (fun j18 => wp_X4_at j18 v1 (fun i20 => gR S11 a0 5 0 (fun a22 => gR S11 a0 5 0 (fun a25 => gJ S11 a25 1 2 (fun j28 => wp_X4_with j28 v1 v2 (fun j30 => pF S11 a22 1 2 (.long j30) (fun S33 => Post i20 S33))))))))))))))))
def wp_X7_place (S : PS) (a0 : Nat) (v1 : Int32) (v2 : Int32) (Post : Int32 → Prop) : Prop :=
  wp_X7_isBelow v1 (12 : Int32) (fun i1 => (i1 = 0 → Post (-1 : Int32)) ∧ (¬ i1 = 0 → (v2.toInt < 0 ∨ 3 < v2.toInt → Post (-2 : Int32)) ∧ (v2.toInt = 0 → gR S a0 5 0 (fun a5 => gJ S a5 1 0 (fun j8 => wp_X4_at j8 v1 (fun i10 => Post i10)))) ∧ (v2.toInt = 1 → gR S a0 5 0 (fun a12 => gJ S a12 1 1 (fun j15 => wp_X4_at j15 v1 (fun i17 => Post i17)))) ∧ (v2.toInt = 2 → gR S a0 5 0 (fun a19 => rc S a19 1 (wp_X1_coloursByPlace S a19 (fun j21 => wp_X4_at j21 v1 (fun i24 => Post i24))))) ∧ (v2.toInt = 3 → gR S a0 5 0 (fun a26 => rc S a26 1 (wp_X1_treadlesRaising S a26 v1 (fun i28 => Post i28))))))
def wp_X7_treadle (S : PS) (a0 : Nat) (v1 : Int32) (v2 : Int32) (Post : Int32 → Prop) : Prop :=
  wp_X7_isBelow v1 (6 : Int32) (fun i1 => (i1 = 0 → Post (-1 : Int32)) ∧ (¬ i1 = 0 → (v2.toInt < 0 ∨ 1 < v2.toInt → Post (-2 : Int32)) ∧ (v2.toInt = 0 → gR S a0 5 0 (fun a5 => gR S a5 1 3 (fun a8 => lI S a8 v1 (fun i13 => Post i13)))) ∧ (v2.toInt = 1 → gR S a0 5 0 (fun a15 => rc S a15 1 (wp_X1_raisedBy S a15 v1 (fun i17 => Post i17))))))
def wp_X7_draft (S : PS) (a0 : Nat) (v1 : Int32) (v2 : Int32) (Post : Int32 → Prop) : Prop :=
  gR S a0 5 0 (fun a2 => rc S a2 1 (wp_X1_draftAt S a2 v1 (fun rq => (rq = none → Post (-1 : Int32)) ∧ (∀ a6, rq = some a6 → gR S a0 5 0 (fun a8 => rc S a8 1 (wp_X1_wayOf S a8 v1 (fun j10 => (v2.toInt < 0 ∨ 6 < v2.toInt → Post (-2 : Int32)) ∧ (v2.toInt = 0 → gI S a6 0 1 (fun i15 => Post i15)) ∧ (v2.toInt = 1 → wp_X6_timesUntilAgain j10 (205163983024656 : Int64) (fun i17 => Post i17)) ∧ (v2.toInt = 2 → wp_X6_alikePlaces j10 (205163983024656 : Int64) (fun i18 => Post i18)) ∧ (v2.toInt = 3 → wp_X6_cycles j10 (fun i19 => Post i19)) ∧ (v2.toInt = 4 → wp_X6_longestCycle j10 (fun i20 => Post i20)) ∧ (v2.toInt = 5 → wp_X6_crossings j10 (fun i21 => Post i21)) ∧ (v2.toInt = 6 → gR S a0 5 0 (fun a23 => rc S a23 1 (wp_X1_coloursByPlace S a23 (fun j25 => wp_X6_timesUntilAgain j10 j25 (fun i28 => Post i28))))))))))))
def wp_X7_press (S : PS) (a0 : Nat) (v1 : Int32) (v2 : Int32) (Post : Int32 → Prop) : Prop :=
  gR S a0 5 0 (fun a2 => rc S a2 1 (wp_X1_draftAt S a2 v1 (fun rq => (rq = none → Post (-1 : Int32)) ∧ (∀ a6, rq = some a6 → gI S a6 0 1 (fun i8 => wp_X7_isBelow v2 i8 (fun i10 => (i10 = 0 → Post (-1 : Int32)) ∧ (¬ i10 = 0 → rc S a6 0 (wp_X0_pressAt S a6 v2 (fun i12 => Post i12)))))))))
def wp_X7_comesTo (S : PS) (a0 : Nat) (v1 : Int32) (v2 : Int32) (v3 : Int32) (Post : Int32 → Prop) : Prop :=
  wp_X7_isBelow v1 (6 : Int32) (fun i1 => (i1 = 0 → Post (-1 : Int32)) ∧ (¬ i1 = 0 → wp_X7_isBelow v2 (12 : Int32) (fun i3 => (i3 = 0 → Post (-1 : Int32)) ∧ (¬ i3 = 0 → (v3 < 0 → Post (-2 : Int32)) ∧ (¬ v3 < 0 → (v3 ≤ (1000000 : Int32) → gR S a0 5 0 (fun a8 => rc S a8 1 (wp_X1_wayOf S a8 v1 (fun j10 => wp_X6_power j10 v3 (fun j13 => wp_X4_at j13 v2 (fun i14 => Post i14)))))) ∧ (¬ v3 ≤ (1000000 : Int32) → Post (-2 : Int32)))))))
def wp_X7_count (S : PS) (a0 : Nat) (v1 : Int32) (Post : Int32 → Prop) : Prop :=
  (v1.toInt < 0 ∨ 6 < v1.toInt → Post (-2 : Int32)) ∧ (v1.toInt = 0 → gR S a0 5 0 (fun a3 => gJ S a3 1 1 (fun j6 => wp_X6_staying j6 (fun i8 => Post i8)))) ∧ (v1.toInt = 1 → gR S a0 5 0 (fun a10 => gI S a10 1 5 (fun i13 => Post i13))) ∧ (v1.toInt = 2 → gR S a0 5 0 (fun a16 => gI S a16 1 6 (fun i19 => Post i19))) ∧ (v1.toInt = 3 → gR S a0 5 0 (fun a22 => rc S a22 1 (wp_X1_neverRaised S a22 (fun i24 => Post i24)))) ∧ (v1.toInt = 4 → gR S a0 5 0 (fun a28 => rc S a28 1 (wp_X1_draftsWithPresses S a28 (fun i30 => Post i30)))) ∧ (v1.toInt = 5 → gR S a0 5 3 (fun a34 => gI S a34 2 1 (fun i37 => Post i37))) ∧ (v1.toInt = 6 → gR S a0 5 1 (fun a40 => gI S a40 3 1 (fun i43 => Post i43)))
def wpb_X7_kernel_18 (S : PS) (a0 : Nat) (v1 : Int32) (Post : Int32 → Prop) (K18 : (Int32 × Int32) → Prop) (i3 : Int32) (i4 : Int32) : Prop :=
  ((6 : Int32) ≤ i3 → Post i4) ∧ (¬ (6 : Int32) ≤ i3 → wp_X7_hasBit v1 i3 (fun i6 => (i6 = 0 → ∀ i8 : Int32, i8 = i3 + (1 : Int32) → K18 (i8, i4)) ∧ (¬ i6 = 0 → gR S a0 5 0 (fun a10 => rc S a10 1 (wp_X1_wayOf S a10 i3 (fun j12 => wp_X6_alikePlaces j12 (205163983024656 : Int64) (fun i15 => ∀ i16 : Int32, i16 = (i4 &&& i15) → ∀ i17 : Int32, i17 = i3 + (1 : Int32) → K18 (i17, i16))))))))
def wp_X7_kernel (S : PS) (a0 : Nat) (v1 : Int32) (Post : Int32 → Prop) : Prop :=
  wp_X7_isBelow v1 (64 : Int32) (fun i1 => (i1 = 0 → Post (-2 : Int32)) ∧ (¬ i1 = 0 → ∃ n : Nat, wpL (fun (K18 : (Int32 × Int32) → Prop) (q : Int32 × Int32) => wpb_X7_kernel_18 S a0 v1 Post K18 q.1 q.2) n ((0 : Int32), (4095 : Int32))))
def wpb_X7_gatherWays_10 (a0 : Nat) (v1 : Int32) (Post : PS → Prop) (K10 : (Int32 × PS) → Prop) (i7 : Int32) (S8 : PS) : Prop :=
  ((6 : Int32) ≤ i7 → Post S8) ∧ (¬ (6 : Int32) ≤ i7 → wp_X7_hasBit v1 i7 (fun i10 => (i10 = 0 → ∀ i12 : Int32, i12 = i7 + (1 : Int32) → K10 (i12, S8)) ∧ (¬ i10 = 0 → gR S8 a0 5 4 (fun a14 => gR S8 a0 5 0 (fun a17 => rc S8 a17 1 (wp_X1_wayOf S8 a17 i7 (fun j19 => rc S8 a14 4 (wp_X5_addMaker S8 a14 j19 (fun S22 => ∀ i25 : Int32, i25 = i7 + (1 : Int32) → K10 (i25, S22))))))))))
def wp_X7_gatherWays (S : PS) (a0 : Nat) (v1 : Int32) (Post : PS → Prop) : Prop :=
  gR S a0 5 4 (fun a2 => pF S a2 4 1 (.int (0 : Int32)) (fun S6 => ∃ n : Nat, wpL (fun (K10 : (Int32 × PS) → Prop) (q : Int32 × PS) => wpb_X7_gatherWays_10 a0 v1 Post K10 q.1 q.2) n ((0 : Int32), S6)))
def wp_X7_orbit (S : PS) (a0 : Nat) (v1 : Int32) (v2 : Int32) (Post : Int32 → PS → Prop) : Prop :=
  wp_X7_isBelow v2 (12 : Int32) (fun i1 => (i1 = 0 → Post (-1 : Int32) S) ∧ (¬ i1 = 0 → wp_X7_isBelow v1 (64 : Int32) (fun i3 => (i3 = 0 → Post (-2 : Int32) S) ∧ (¬ i3 = 0 → rc S a0 5 (wp_X7_gatherWays S a0 v1 (fun S5 => gR S5 a0 5 4 (fun a9 => rc S5 a9 4 (wp_X5_placesFrom S5 a9 v2 (fun i11 => Post i11 S5)))))))))
def wp_X7_asNumber (v0 : Int32) (Post : Int32 → Prop) : Prop :=
  (v0 = 0 → Post (0 : Int32)) ∧ (¬ v0 = 0 → Post (1 : Int32))
def wp_X7_pair (S : PS) (a0 : Nat) (v1 : Int32) (v2 : Int32) (v3 : Int32) (Post : Int32 → Prop) : Prop :=
  wp_X7_isBelow v1 (6 : Int32) (fun i1 => (i1 = 0 → Post (-1 : Int32)) ∧ (¬ i1 = 0 → wp_X7_isBelow v2 (6 : Int32) (fun i3 => (i3 = 0 → Post (-1 : Int32)) ∧ (¬ i3 = 0 → gR S a0 5 0 (fun a6 => rc S a6 1 (wp_X1_wayOf S a6 v1 (fun j8 => gR S a0 5 0 (fun a12 => rc S a12 1 (wp_X1_wayOf S a12 v2 (fun j14 => (v3.toInt < 0 ∨ 3 < v3.toInt → Post (-2 : Int32)) ∧ (v3.toInt = 0 → ((lg_cmp j8 j14) = 0 → wp_X7_asNumber (1 : Int32) (fun i20 => Post i20)) ∧ (¬ (lg_cmp j8 j14) = 0 → wp_X7_asNumber (0 : Int32) (fun i19 => Post i19))) ∧ (v3.toInt = 1 → wp_X6_then j8 j14 (fun j21 => wp_X6_then j14 j8 (fun j22 => ((lg_cmp j21 j22) = 0 → wp_X7_asNumber (1 : Int32) (fun i25 => Post i25)) ∧ (¬ (lg_cmp j21 j22) = 0 → wp_X7_asNumber (0 : Int32) (fun i24 => Post i24))))) ∧ (v3.toInt = 2 → wp_X6_then j8 j14 (fun j26 => ((lg_cmp j26 (205163983024656 : Int64)) = 0 → wp_X7_asNumber (1 : Int32) (fun i29 => Post i29)) ∧ (¬ (lg_cmp j26 (205163983024656 : Int64)) = 0 → wp_X7_asNumber (0 : Int32) (fun i28 => Post i28)))) ∧ (v3.toInt = 3 → wp_X6_alikePlaces j8 j14 (fun i30 => Post ((4095 : Int32) &&& (i30 ^^^ (-1 : Int32)))))))))))))))
def wp_X7_ways (S : PS) (a0 : Nat) (v1 : Int32) (Post : Int32 → PS → Prop) : Prop :=
  wp_X7_isBelow v1 (64 : Int32) (fun i1 => (i1 = 0 → Post (-2 : Int32) S) ∧ (¬ i1 = 0 → rc S a0 5 (wp_X7_gatherWays S a0 v1 (fun S3 => gR S3 a0 5 4 (fun a7 => rc S3 a7 4 (wp_X5_allWays S3 a7 (fun i9 S10 => Post i9 S10)))))))
def wpb_X7_untilHome_32 (j6 : Int64) (Post : Int32 → Prop) (K32 : (Int32 × Int64) → Prop) (i15 : Int32) (j16 : Int64) : Prop :=
  ((60 : Int32) ≤ i15 → Post (-6 : Int32)) ∧ (¬ (60 : Int32) ≤ i15 → ((lg_cmp j16 (205163983024656 : Int64)) = 0 → Post i15) ∧ (¬ (lg_cmp j16 (205163983024656 : Int64)) = 0 → wp_X4_moved j16 j6 (fun j19 => ∀ i20 : Int32, i20 = i15 + (1 : Int32) → K32 (i20, j19))))
def wp_X7_untilHome (S : PS) (a0 : Nat) (v1 : Int32) (Post : Int32 → Prop) : Prop :=
  wp_X7_isBelow v1 (6 : Int32) (fun i1 => (i1 = 0 → Post (-1 : Int32)) ∧ (¬ i1 = 0 → gR S a0 5 0 (fun a4 => rc S a4 1 (wp_X1_wayOf S a4 v1 (fun j6 => gR S a0 5 0 (fun a10 => gJ S a10 1 1 (fun j13 => ∃ n : Nat, wpL (fun (K32 : (Int32 × Int64) → Prop) (q : Int32 × Int64) => wpb_X7_untilHome_32 j6 Post K32 q.1 q.2) n ((0 : Int32), j13))))))))
def wpb_X7_bestDraft_19 (S : PS) (a0 : Nat) (v1 : Int32) (Post : Int32 → Prop) (K19 : (Int32 × Int32 × Int32) → Prop) (i1 : Int32) (i2 : Int32) (i3 : Int32) : Prop :=
  ((6 : Int32) ≤ i1 → (v1 = 0 → Post i3) ∧ (¬ v1 = 0 → Post i2)) ∧ (¬ (6 : Int32) ≤ i1 → gR S a0 5 0 (fun a7 => gJ S a7 1 1 (fun j10 => gR S a0 5 0 (fun a13 => rc S a13 1 (wp_X1_wayOf S a13 i1 (fun j15 => wp_X4_moved j10 j15 (fun j18 => wp_X6_staying j18 (fun i19 => (i19 ≤ i2 → ∀ i21 : Int32, i21 = i1 + (1 : Int32) → K19 (i21, i2, i3)) ∧ (¬ i19 ≤ i2 → ∀ i22 : Int32, i22 = i1 + (1 : Int32) → K19 (i22, i19, i1))))))))))
def wpk_X7_bestDraft_12 (S : PS) (a0 : Nat) (v1 : Int32) (Post : Int32 → Prop)  : Prop :=
  ∃ n : Nat, wpL (fun (K19 : (Int32 × Int32 × Int32) → Prop) (q : Int32 × Int32 × Int32) => wpb_X7_bestDraft_19 S a0 v1 Post K19 q.1 q.2.1 q.2.2) n ((0 : Int32), (-1 : Int32), (0 : Int32))
def wp_X7_bestDraft (S : PS) (a0 : Nat) (v1 : Int32) (Post : Int32 → Prop) : Prop :=
  (v1 = 0 → wpk_X7_bestDraft_12 S a0 v1 Post ) ∧ (¬ v1 = 0 → (v1 = (1 : Int32) → wpk_X7_bestDraft_12 S a0 v1 Post ) ∧ (¬ v1 = (1 : Int32) → Post (-2 : Int32)))
def wp_X7_write (S : PS) (a0 : Nat) (v1 : Int64) (Post : Int32 → PS → Prop) : Prop :=
  wp_X2_signsIn v1 (fun i1 => (i1 = 0 → Post (-2 : Int32) S) ∧ (¬ i1 = 0 → gR S a0 5 3 (fun a4 => gI S a4 2 1 (fun i7 => ((i7 + i1) ≤ (40 : Int32) → gR S a0 5 3 (fun a11 => rc S a11 2 (wp_X2_append S a11 v1 i1 (fun S13 => gR S13 a0 5 3 (fun a17 => gI S13 a17 2 1 (fun i20 => Post i20 S13)))))) ∧ (¬ (i7 + i1) ≤ (40 : Int32) → Post (-4 : Int32) S)))))
def wp_X7_wipe (S : PS) (a0 : Nat) (Post : Int32 → PS → Prop) : Prop :=
  gR S a0 5 3 (fun a2 => gI S a2 2 1 (fun i5 => gR S a0 5 3 (fun a8 => pF S a8 2 1 (.int (0 : Int32)) (fun S12 => Post i5 S12))))
def wp_X7_fault (S : PS) (a0 : Nat) (Post : Int32 → PS → Prop) : Prop :=
  gR S a0 5 3 (fun a2 => gR S a0 5 5 (fun a5 => rc S a2 2 (wp_X2_layOut S a2 a5 (fun i7 S8 => Post i7 S8))))
def wp_X7_undo (S : PS) (a0 : Nat) (Post : Int32 → PS → Prop) : Prop :=
  gR S a0 5 1 (fun a2 => gI S a2 3 1 (fun i5 => (i5 = 0 → Post (-5 : Int32) S) ∧ (¬ i5 = 0 → gR S a0 5 1 (fun a9 => gR S a0 5 0 (fun a12 => rc S a9 3 (wp_X3_giveBack S a9 a12 (fun S14 => gR S14 a0 5 1 (fun a18 => gI S14 a18 3 1 (fun i21 => Post i21 S14)))))))))
def wp_X7_save (S : PS) (a0 : Nat) (v1 : Int32) (Post : Int32 → PS → Prop) : Prop :=
  wp_X7_isBelow v1 (2 : Int32) (fun i1 => (i1 = 0 → Post (-2 : Int32) S) ∧ (¬ i1 = 0 → gR S a0 5 2 (fun a4 => lLo S a4 v1 (nw S (.inl (1, [.long 0, .long 0, .long 0, .null, .null, .int 0, .int 0])) (fun a10 S11 => S11 a10 ≠ oJ ∧ (wp_X1_init S11 a10 (fun S12 => gR S12 a0 5 0 (fun a15 => rc S12 a10 1 (wp_X1_copyFrom S12 a10 a15 (fun S17 => gR S17 a0 5 2 (fun a21 => sL S17 a21 v1 a10 (fun S27 => gR S27 a0 5 0 (fun a29 => gJ S27 a29 1 1 (fun j32 => wp_X6_staying j32 (fun i34 => Post i34 S27)))))))))))) (fun a9 => gR S a0 5 0 (fun a36 => rc S a9 1 (wp_X1_copyFrom S a9 a36 (fun S38 => gR S38 a0 5 2 (fun a42 => sL S38 a42 v1 a9 (fun S48 => gR S48 a0 5 0 (fun a50 => gJ S48 a50 1 1 (fun j53 => wp_X6_staying j53 (fun i55 => Post i55 S48))))))))))))
def wp_X7_restore (S : PS) (a0 : Nat) (v1 : Int32) (Post : Int32 → PS → Prop) : Prop :=
  wp_X7_isBelow v1 (2 : Int32) (fun i1 => (i1 = 0 → Post (-2 : Int32) S) ∧ (¬ i1 = 0 → gR S a0 5 2 (fun a4 => lLo S a4 v1 (Post (-5 : Int32) S) (fun a9 => gR S a0 5 1 (fun a11 => gR S a0 5 0 (fun a14 => rc S a11 3 (wp_X3_keep S a11 a14 (fun S16 => gR S16 a0 5 0 (fun a20 => rc S16 a20 1 (wp_X1_copyFrom S16 a20 a9 (fun S22 => gR S22 a0 5 0 (fun a26 => gJ S22 a26 1 1 (fun j29 => wp_X6_staying j29 (fun i31 => Post i31 S22))))))))))))))
def wpb_X8_init_125 (a0 : Nat) (Post : PS → Prop) (K125 : (Int32 × PS) → Prop) (i54 : Int32) (S55 : PS) : Prop :=
  ((6 : Int32) ≤ i54 → Post S55) ∧ (¬ (6 : Int32) ≤ i54 → gR S55 a0 6 0 (fun a58 => sI S55 a58 ((12 : Int32) + i54) ((1 : Int32) <<< (i54 &&& 31)) (fun S63 => ∀ i64 : Int32, i64 = i54 + (1 : Int32) → K125 (i64, S63))))
def wpb_X8_init_89 (a0 : Nat) (Post : PS → Prop) (K89 : (Int32 × PS) → Prop) (i51 : Int32) (S52 : PS) : Prop :=
  ((12 : Int32) ≤ i51 → ∃ n : Nat, wpL (fun (K125 : (Int32 × PS) → Prop) (q : Int32 × PS) => wpb_X8_init_125 a0 Post K125 q.1 q.2) n ((0 : Int32), S52)) ∧ (¬ (12 : Int32) ≤ i51 → gR S52 a0 6 0 (fun a67 => sI S52 a67 ((0 : Int32) + i51) (i51 - i51 / (6 : Int32) * (6 : Int32)) (fun S72 => gR S72 a0 6 0 (fun a74 => sI S72 a74 ((18 : Int32) + i51) i51 (fun S79 => ∀ i80 : Int32, i80 = i51 + (1 : Int32) → K89 (i80, S79))))))
def wp_X8_init (S : PS) (a0 : Nat) (Post : PS → Prop) : Prop :=
  nw S (aI 194 (fun _ => 0)) (fun a1 S2 => pF S2 a0 6 0 (.ref a1) (fun S5 => nw S5 (aI 1164 (fun _ => 0)) (fun a6 S7 => pF S7 a0 6 1 (.ref a6) (fun S10 => nw S10 (aI 388 (fun _ => 0)) (fun a11 S12 => pF S12 a0 6 3 (.ref a11) (fun S15 => nw S15 (aI 2 (fun _ => 0)) (fun a16 S17 => pF S17 a0 6 4 (.ref a16) (fun S20 => nw S20 (aI 40 (fun _ => 0)) (fun a21 S22 => pF S22 a0 6 5 (.ref a21) (fun S25 => nw S25 (aI 24 (fun _ => 0)) (fun a26 S27 => pF S27 a0 6 8 (.ref a26) (fun S30 => nw S30 (aI 72 (fun _ => 0)) (fun a31 S32 => pF S32 a0 6 10 (.ref a31) (fun S35 => nw S35 (aI 12 (fun _ => 0)) (fun a36 S37 => pF S37 a0 6 11 (.ref a36) (fun S40 => nw S40 (aI 12 (fun _ => 0)) (fun a41 S42 => pF S42 a0 6 12 (.ref a41) (fun S45 => nw S45 (aI 3600 (fun _ => 0)) (fun a46 S47 => pF S47 a0 6 13 (.ref a46) (fun S50 => ∃ n : Nat, wpL (fun (K89 : (Int32 × PS) → Prop) (q : Int32 × PS) => wpb_X8_init_89 a0 Post K89 q.1 q.2) n ((0 : Int32), S50)))))))))))))))))))))
def wp_X8_within (v0 : Int32) (v1 : Int32) (v2 : Int32) (Post : Int32 → Prop) : Prop :=
  (v0 < v1 → Post (0 : Int32)) ∧ (¬ v0 < v1 → (v2 < v0 → Post (0 : Int32)) ∧ (¬ v2 < v0 → Post (1 : Int32)))
def wp_X8_isPlace (v0 : Int32) (Post : Int32 → Prop) : Prop :=
  wp_X8_within v0 (0 : Int32) (11 : Int32) (fun i1 => i1 &&& 1 = i1 ∧ Post i1)
def wp_X8_isDraft (v0 : Int32) (Post : Int32 → Prop) : Prop :=
  wp_X8_within v0 (0 : Int32) (5 : Int32) (fun i1 => i1 &&& 1 = i1 ∧ Post i1)
def wp_X8_areDrafts (v0 : Int32) (Post : Int32 → Prop) : Prop :=
  wp_X8_within v0 (0 : Int32) (63 : Int32) (fun i1 => i1 &&& 1 = i1 ∧ Post i1)
def wpb_X8_ones_4 (v0 : Int32) (Post : Int32 → Prop) (K4 : (Int32 × Int32) → Prop) (i1 : Int32) (i2 : Int32) : Prop :=
  ((12 : Int32) ≤ i1 → Post i2) ∧ (¬ (12 : Int32) ≤ i1 → ∀ i4 : Int32, i4 = (i2 + ((v0 >>> (i1 &&& 31)) &&& (1 : Int32))) → ∀ i5 : Int32, i5 = i1 + (1 : Int32) → K4 (i5, i4))
def wp_X8_ones (v0 : Int32) (Post : Int32 → Prop) : Prop :=
  ∃ n : Nat, wpL (fun (K4 : (Int32 × Int32) → Prop) (q : Int32 × Int32) => wpb_X8_ones_4 v0 Post K4 q.1 q.2) n ((0 : Int32), (0 : Int32))
def wpb_X8_record_52 (a0 : Nat) (Post : PS → Prop) (K52 : (Int32 × PS) → Prop) (i5 : Int32) (S6 : PS) : Prop :=
  ((194 : Int32) ≤ i5 → gI S6 a0 6 2 (fun i9 => pF S6 a0 6 2 (.int (i9 + (1 : Int32))) (fun S13 => Post S13))) ∧ (¬ (194 : Int32) ≤ i5 → gR S6 a0 6 1 (fun a15 => gI S6 a0 6 2 (fun i18 => gR S6 a0 6 0 (fun a21 => lI S6 a21 i5 (fun i26 => sI S6 a15 ((i18 * (194 : Int32)) + i5) i26 (fun S30 => ∀ i31 : Int32, i31 = i5 + (1 : Int32) → K52 (i31, S30)))))))
def wpk_X8_record_50 (a0 : Nat) (Post : PS → Prop) (S4 : PS) : Prop :=
  ∃ n : Nat, wpL (fun (K52 : (Int32 × PS) → Prop) (q : Int32 × PS) => wpb_X8_record_52 a0 Post K52 q.1 q.2) n ((0 : Int32), S4)
def wpb_X8_record_11 (a0 : Nat) (Post : PS → Prop) (K11 : (Int32 × PS) → Prop) (i34 : Int32) (S35 : PS) : Prop :=
  ((970 : Int32) ≤ i34 → gI S35 a0 6 2 (fun i38 => pF S35 a0 6 2 (.int (i38 - (1 : Int32))) (fun S42 => wpk_X8_record_50 a0 Post S42))) ∧ (¬ (970 : Int32) ≤ i34 → gR S35 a0 6 1 (fun a44 => gR S35 a0 6 1 (fun a47 => lI S35 a47 (i34 + (194 : Int32)) (fun i52 => sI S35 a44 i34 i52 (fun S56 => ∀ i57 : Int32, i57 = i34 + (1 : Int32) → K11 (i57, S56))))))
def wp_X8_record (S : PS) (a0 : Nat) (Post : PS → Prop) : Prop :=
  gI S a0 6 2 (fun i2 => (i2 = (6 : Int32) → ∃ n : Nat, wpL (fun (K11 : (Int32 × PS) → Prop) (q : Int32 × PS) => wpb_X8_record_11 a0 Post K11 q.1 q.2) n ((0 : Int32), S)) ∧ (¬ i2 = (6 : Int32) → wpk_X8_record_50 a0 Post S))
def wpb_X8_undo_22 (a0 : Nat) (Post : Int32 → PS → Prop) (K22 : (Int32 × PS) → Prop) (i11 : Int32) (S12 : PS) : Prop :=
  ((194 : Int32) ≤ i11 → gI S12 a0 6 2 (fun i15 => Post i15 S12)) ∧ (¬ (194 : Int32) ≤ i11 → gR S12 a0 6 0 (fun a18 => gR S12 a0 6 1 (fun a21 => gI S12 a0 6 2 (fun i24 => lI S12 a21 ((i24 * (194 : Int32)) + i11) (fun i29 => sI S12 a18 i11 i29 (fun S33 => ∀ i34 : Int32, i34 = i11 + (1 : Int32) → K22 (i34, S33)))))))
def wp_X8_undo (S : PS) (a0 : Nat) (Post : Int32 → PS → Prop) : Prop :=
  gI S a0 6 2 (fun i2 => (i2 = 0 → Post (-5 : Int32) S) ∧ (¬ i2 = 0 → gI S a0 6 2 (fun i6 => pF S a0 6 2 (.int (i6 - (1 : Int32))) (fun S10 => ∃ n : Nat, wpL (fun (K22 : (Int32 × PS) → Prop) (q : Int32 × PS) => wpb_X8_undo_22 a0 Post K22 q.1 q.2) n ((0 : Int32), S10)))))
def wpb_X8_atHome_4 (S : PS) (a0 : Nat) (Post : Int32 → Prop) (K4 : (Int32 × Int32) → Prop) (i1 : Int32) (i2 : Int32) : Prop :=
  ((12 : Int32) ≤ i1 → Post i2) ∧ (¬ (12 : Int32) ≤ i1 → gR S a0 6 0 (fun a5 => lI S a5 ((18 : Int32) + i1) (fun i10 => (i10 = i1 → ∀ i14 : Int32, i14 = (i2 + (1 : Int32)) → ∀ i15 : Int32, i15 = i1 + (1 : Int32) → K4 (i15, i14)) ∧ (¬ i10 = i1 → ∀ i12 : Int32, i12 = (i2 + (0 : Int32)) → ∀ i13 : Int32, i13 = i1 + (1 : Int32) → K4 (i13, i12)))))
def wp_X8_atHome (S : PS) (a0 : Nat) (Post : Int32 → Prop) : Prop :=
  ∃ n : Nat, wpL (fun (K4 : (Int32 × Int32) → Prop) (q : Int32 × Int32) => wpb_X8_atHome_4 S a0 Post K4 q.1 q.2) n ((0 : Int32), (0 : Int32))
def wpb_X8_save_14 (a0 : Nat) (v1 : Int32) (Post : Int32 → PS → Prop) (K14 : (Int32 × PS) → Prop) (i3 : Int32) (S4 : PS) : Prop :=
  ((194 : Int32) ≤ i3 → gR S4 a0 6 4 (fun a7 => sI S4 a7 v1 (1 : Int32) (fun S12 => rc S12 a0 6 (wp_X8_atHome S12 a0 (fun i13 => Post i13 S12))))) ∧ (¬ (194 : Int32) ≤ i3 → gR S4 a0 6 3 (fun a17 => gR S4 a0 6 0 (fun a20 => lI S4 a20 i3 (fun i25 => sI S4 a17 (((194 : Int32) * v1) + i3) i25 (fun S29 => ∀ i30 : Int32, i30 = i3 + (1 : Int32) → K14 (i30, S29))))))
def wp_X8_save (S : PS) (a0 : Nat) (v1 : Int32) (Post : Int32 → PS → Prop) : Prop :=
  wp_X8_within v1 (0 : Int32) (1 : Int32) (fun i1 => (i1 = 0 → Post (-2 : Int32) S) ∧ (¬ i1 = 0 → ∃ n : Nat, wpL (fun (K14 : (Int32 × PS) → Prop) (q : Int32 × PS) => wpb_X8_save_14 a0 v1 Post K14 q.1 q.2) n ((0 : Int32), S)))
def wpb_X8_restore_30 (a0 : Nat) (v1 : Int32) (Post : Int32 → PS → Prop) (K30 : (Int32 × PS) → Prop) (i14 : Int32) (S15 : PS) : Prop :=
  ((194 : Int32) ≤ i14 → rc S15 a0 6 (wp_X8_atHome S15 a0 (fun i17 => Post i17 S15))) ∧ (¬ (194 : Int32) ≤ i14 → gR S15 a0 6 0 (fun a21 => gR S15 a0 6 3 (fun a24 => lI S15 a24 (((194 : Int32) * v1) + i14) (fun i29 => sI S15 a21 i14 i29 (fun S33 => ∀ i34 : Int32, i34 = i14 + (1 : Int32) → K30 (i34, S33))))))
def wp_X8_restore (S : PS) (a0 : Nat) (v1 : Int32) (Post : Int32 → PS → Prop) : Prop :=
  wp_X8_within v1 (0 : Int32) (1 : Int32) (fun i1 => (i1 = 0 → Post (-2 : Int32) S) ∧ (¬ i1 = 0 → gR S a0 6 4 (fun a4 => lI S a4 v1 (fun i9 => (i9 = 0 → Post (-5 : Int32) S) ∧ (¬ i9 = 0 → rc S a0 6 (wp_X8_record S a0 (fun S11 => ∃ n : Nat, wpL (fun (K30 : (Int32 × PS) → Prop) (q : Int32 × PS) => wpb_X8_restore_30 a0 v1 Post K30 q.1 q.2) n ((0 : Int32), S11))))))))
def wpb_X8_raised_4 (S : PS) (a0 : Nat) (v1 : Int32) (Post : Int32 → Prop) (K4 : (Int32 × Int32) → Prop) (i1 : Int32) (i2 : Int32) : Prop :=
  ((12 : Int32) ≤ i1 → Post i2) ∧ (¬ (12 : Int32) ≤ i1 → gR S a0 6 0 (fun a5 => lI S a5 ((12 : Int32) + v1) (fun i10 => gR S a0 6 0 (fun a12 => lI S a12 ((0 : Int32) + i1) (fun i17 => (((i10 >>> (i17 &&& 31)) &&& (1 : Int32)) = (1 : Int32) → ∀ i21 : Int32, i21 = (i2 ||| ((1 : Int32) <<< (i1 &&& 31))) → ∀ i22 : Int32, i22 = i1 + (1 : Int32) → K4 (i22, i21)) ∧ (¬ ((i10 >>> (i17 &&& 31)) &&& (1 : Int32)) = (1 : Int32) → ∀ i19 : Int32, i19 = (i2 ||| (0 : Int32)) → ∀ i20 : Int32, i20 = i1 + (1 : Int32) → K4 (i20, i19)))))))
def wp_X8_raised (S : PS) (a0 : Nat) (v1 : Int32) (Post : Int32 → Prop) : Prop :=
  ∃ n : Nat, wpL (fun (K4 : (Int32 × Int32) → Prop) (q : Int32 × Int32) => wpb_X8_raised_4 S a0 v1 Post K4 q.1 q.2) n ((0 : Int32), (0 : Int32))
def wpb_X8_pressed_42 (i1 : Int32) (i5 : Int32) (Post : Int32 → Prop) (K42 : (Int32) → Prop) (i7 : Int32) : Prop :=
  (((i1 >>> (i7 &&& 31)) &&& (1 : Int32)) = 0 → ∀ i9 : Int32, i9 = ((i7 + i5) - (i7 + i5) / (12 : Int32) * (12 : Int32)) → K42 i9) ∧ (¬ ((i1 >>> (i7 &&& 31)) &&& (1 : Int32)) = 0 → Post i7)
def wpk_X8_pressed_33 (v1 : Int32) (i1 : Int32) (Post : Int32 → Prop) (i5 : Int32) : Prop :=
  ∀ i6 : Int32, i6 = ((v1 + i5) - (v1 + i5) / (12 : Int32) * (12 : Int32)) → ∃ n : Nat, wpL (fun (K42 : (Int32) → Prop) (q : Int32) => wpb_X8_pressed_42 i1 i5 Post K42 q) n i6
def wp_X8_pressed (S : PS) (a0 : Nat) (v1 : Int32) (v2 : Int32) (Post : Int32 → Prop) : Prop :=
  rc S a0 6 (wp_X8_raised S a0 ((v2 - v2 / (6 : Int32) * (6 : Int32))) (fun i1 => (((i1 >>> (v1 &&& 31)) &&& (1 : Int32)) = 0 → Post v1) ∧ (¬ ((i1 >>> (v1 &&& 31)) &&& (1 : Int32)) = 0 → ((6 : Int32) ≤ v2 → wpk_X8_pressed_33 v1 i1 Post (11 : Int32)) ∧ (¬ (6 : Int32) ≤ v2 → wpk_X8_pressed_33 v1 i1 Post (1 : Int32)))))
def wp_X8_lengthOf (S : PS) (a0 : Nat) (v1 : Int32) (Post : Int32 → Prop) : Prop :=
  gR S a0 6 0 (fun a2 => lI S a2 ((42 : Int32) + v1) (fun i7 => Post i7))
def wp_X8_pressOf (S : PS) (a0 : Nat) (v1 : Int32) (v2 : Int32) (Post : Int32 → Prop) : Prop :=
  gR S a0 6 0 (fun a2 => lI S a2 (((48 : Int32) + ((24 : Int32) * v1)) + v2) (fun i7 => Post i7))
def wpb_X8_lay_13 (a0 : Nat) (v1 : Int32) (i1 : Int32) (S2 : PS) (K2 : (Int32 × PS) → Prop) (K13 : (Int32 × Int32) → Prop) (i4 : Int32) (i5 : Int32) : Prop :=
  rc S2 a0 6 (wp_X8_lengthOf S2 a0 v1 (fun i6 => (i6 ≤ i4 → gR S2 a0 6 10 (fun a11 => sI S2 a11 (((12 : Int32) * v1) + i1) i5 (fun S16 => ∀ i17 : Int32, i17 = i1 + (1 : Int32) → K2 (i17, S16)))) ∧ (¬ i6 ≤ i4 → rc S2 a0 6 (wp_X8_pressOf S2 a0 v1 i4 (fun i18 => rc S2 a0 6 (wp_X8_pressed S2 a0 i5 i18 (fun i21 => ∀ i24 : Int32, i24 = i4 + (1 : Int32) → K13 (i24, i21))))))))
def wpb_X8_lay_2 (a0 : Nat) (v1 : Int32) (Post : PS → Prop) (K2 : (Int32 × PS) → Prop) (i1 : Int32) (S2 : PS) : Prop :=
  ((12 : Int32) ≤ i1 → Post S2) ∧ (¬ (12 : Int32) ≤ i1 → ∃ n : Nat, wpL (fun (K13 : (Int32 × Int32) → Prop) (q : Int32 × Int32) => wpb_X8_lay_13 a0 v1 i1 S2 K2 K13 q.1 q.2) n ((0 : Int32), i1))
def wp_X8_lay (S : PS) (a0 : Nat) (v1 : Int32) (Post : PS → Prop) : Prop :=
  ∃ n : Nat, wpL (fun (K2 : (Int32 × PS) → Prop) (q : Int32 × PS) => wpb_X8_lay_2 a0 v1 Post K2 q.1 q.2) n ((0 : Int32), S)
def wp_X8_comesBy (S : PS) (a0 : Nat) (v1 : Int32) (v2 : Int32) (Post : Int32 → Prop) : Prop :=
  gR S a0 6 10 (fun a2 => lI S a2 (((12 : Int32) * v1) + v2) (fun i7 => Post i7))
def wpb_X8_layAll_2 (a0 : Nat) (Post : PS → Prop) (K2 : (Int32 × PS) → Prop) (i1 : Int32) (S2 : PS) : Prop :=
  ((6 : Int32) ≤ i1 → Post S2) ∧ (¬ (6 : Int32) ≤ i1 → rc S2 a0 6 (wp_X8_lay S2 a0 i1 (fun S4 => ∀ i7 : Int32, i7 = i1 + (1 : Int32) → K2 (i7, S4))))
def wp_X8_layAll (S : PS) (a0 : Nat) (Post : PS → Prop) : Prop :=
  ∃ n : Nat, wpL (fun (K2 : (Int32 × PS) → Prop) (q : Int32 × PS) => wpb_X8_layAll_2 a0 Post K2 q.1 q.2) n ((0 : Int32), S)
def wpb_X8_stays_4 (S : PS) (a0 : Nat) (v1 : Int32) (Post : Int32 → Prop) (K4 : (Int32 × Int32) → Prop) (i1 : Int32) (i2 : Int32) : Prop :=
  ((12 : Int32) ≤ i1 → Post i2) ∧ (¬ (12 : Int32) ≤ i1 → rc S a0 6 (wp_X8_comesBy S a0 v1 i1 (fun i4 => (i4 = i1 → ∀ i10 : Int32, i10 = (i2 ||| ((1 : Int32) <<< (i1 &&& 31))) → ∀ i11 : Int32, i11 = i1 + (1 : Int32) → K4 (i11, i10)) ∧ (¬ i4 = i1 → ∀ i8 : Int32, i8 = (i2 ||| (0 : Int32)) → ∀ i9 : Int32, i9 = i1 + (1 : Int32) → K4 (i9, i8)))))
def wp_X8_stays (S : PS) (a0 : Nat) (v1 : Int32) (Post : Int32 → Prop) : Prop :=
  ∃ n : Nat, wpL (fun (K4 : (Int32 × Int32) → Prop) (q : Int32 × Int32) => wpb_X8_stays_4 S a0 v1 Post K4 q.1 q.2) n ((0 : Int32), (0 : Int32))
def wpb_X8_cycleOf_10 (S : PS) (a0 : Nat) (v1 : Int32) (v2 : Int32) (Post : Int32 → Prop) (K10 : (Int32 × Int32) → Prop) (i4 : Int32) (i5 : Int32) : Prop :=
  (i4 = v2 → Post i5) ∧ (¬ i4 = v2 → ∀ i7 : Int32, i7 = i5 + (1 : Int32) → rc S a0 6 (wp_X8_comesBy S a0 v1 i4 (fun i8 => K10 (i8, i7))))
def wp_X8_cycleOf (S : PS) (a0 : Nat) (v1 : Int32) (v2 : Int32) (Post : Int32 → Prop) : Prop :=
  rc S a0 6 (wp_X8_comesBy S a0 v1 v2 (fun i1 => ∃ n : Nat, wpL (fun (K10 : (Int32 × Int32) → Prop) (q : Int32 × Int32) => wpb_X8_cycleOf_10 S a0 v1 v2 Post K10 q.1 q.2) n (i1, (1 : Int32))))
def wpb_X8_orderOf_16 (S : PS) (a0 : Nat) (v1 : Int32) (i4 : Int32) (K4 : (Int32 × Int32) → Prop) (K16 : (Int32 × Int32) → Prop) (i5 : Int32) (i6 : Int32) : Prop :=
  ((12 : Int32) ≤ i5 → K4 (i6, i4)) ∧ (¬ (12 : Int32) ≤ i5 → (i6 = 0 → ∀ i9 : Int32, i9 = i5 + (1 : Int32) → K16 (i9, (0 : Int32))) ∧ (¬ i6 = 0 → rc S a0 6 (wp_X8_cycleOf S a0 v1 i5 (fun i10 => ¬ i10 = 0 ∧ ((i4 - i4 / i10 * i10) = 0 → ∀ i16 : Int32, i16 = i5 + (1 : Int32) → K16 (i16, (1 : Int32))) ∧ (¬ (i4 - i4 / i10 * i10) = 0 → ∀ i15 : Int32, i15 = i5 + (1 : Int32) → K16 (i15, (0 : Int32)))))))
def wpb_X8_orderOf_4 (S : PS) (a0 : Nat) (v1 : Int32) (Post : Int32 → Prop) (K4 : (Int32 × Int32) → Prop) (i1 : Int32) (i2 : Int32) : Prop :=
  (i1 = 0 → ∀ i4 : Int32, i4 = i2 + (1 : Int32) → ∃ n : Nat, wpL (fun (K16 : (Int32 × Int32) → Prop) (q : Int32 × Int32) => wpb_X8_orderOf_16 S a0 v1 i4 K4 K16 q.1 q.2) n ((0 : Int32), (1 : Int32))) ∧ (¬ i1 = 0 → Post i2)
def wp_X8_orderOf (S : PS) (a0 : Nat) (v1 : Int32) (Post : Int32 → Prop) : Prop :=
  ∃ n : Nat, wpL (fun (K4 : (Int32 × Int32) → Prop) (q : Int32 × Int32) => wpb_X8_orderOf_4 S a0 v1 Post K4 q.1 q.2) n ((0 : Int32), (0 : Int32))
def wpb_X8_cycles_16 (S : PS) (a0 : Nat) (v1 : Int32) (i1 : Int32) (i2 : Int32) (K4 : (Int32 × Int32) → Prop) (K16 : (Int32 × Int32) → Prop) (i4 : Int32) (i5 : Int32) : Prop :=
  ((12 : Int32) ≤ i4 → ¬ i1 = 0 ∧ ∀ i8 : Int32, i8 = (i2 + (i5 / i1)) → ∀ i9 : Int32, i9 = i1 + (1 : Int32) → K4 (i9, i8)) ∧ (¬ (12 : Int32) ≤ i4 → rc S a0 6 (wp_X8_cycleOf S a0 v1 i4 (fun i10 => (i10 = i1 → ∀ i16 : Int32, i16 = (i5 + (1 : Int32)) → ∀ i17 : Int32, i17 = i4 + (1 : Int32) → K16 (i17, i16)) ∧ (¬ i10 = i1 → ∀ i14 : Int32, i14 = (i5 + (0 : Int32)) → ∀ i15 : Int32, i15 = i4 + (1 : Int32) → K16 (i15, i14)))))
def wpb_X8_cycles_4 (S : PS) (a0 : Nat) (v1 : Int32) (Post : Int32 → Prop) (K4 : (Int32 × Int32) → Prop) (i1 : Int32) (i2 : Int32) : Prop :=
  ((12 : Int32) < i1 → Post i2) ∧ (¬ (12 : Int32) < i1 → ∃ n : Nat, wpL (fun (K16 : (Int32 × Int32) → Prop) (q : Int32 × Int32) => wpb_X8_cycles_16 S a0 v1 i1 i2 K4 K16 q.1 q.2) n ((0 : Int32), (0 : Int32)))
def wp_X8_cycles (S : PS) (a0 : Nat) (v1 : Int32) (Post : Int32 → Prop) : Prop :=
  ∃ n : Nat, wpL (fun (K4 : (Int32 × Int32) → Prop) (q : Int32 × Int32) => wpb_X8_cycles_4 S a0 v1 Post K4 q.1 q.2) n ((2 : Int32), (0 : Int32))
def wpb_X8_longest_4 (S : PS) (a0 : Nat) (v1 : Int32) (Post : Int32 → Prop) (K4 : (Int32 × Int32) → Prop) (i1 : Int32) (i2 : Int32) : Prop :=
  ((12 : Int32) ≤ i1 → (i2 ≤ (1 : Int32) → Post (0 : Int32)) ∧ (¬ i2 ≤ (1 : Int32) → Post i2)) ∧ (¬ (12 : Int32) ≤ i1 → rc S a0 6 (wp_X8_cycleOf S a0 v1 i1 (fun i5 => (i5 ≤ i2 → ∀ i9 : Int32, i9 = i1 + (1 : Int32) → K4 (i9, i2)) ∧ (¬ i5 ≤ i2 → rc S a0 6 (wp_X8_cycleOf S a0 v1 i1 (fun i10 => ∀ i13 : Int32, i13 = i1 + (1 : Int32) → K4 (i13, i10)))))))
def wp_X8_longest (S : PS) (a0 : Nat) (v1 : Int32) (Post : Int32 → Prop) : Prop :=
  ∃ n : Nat, wpL (fun (K4 : (Int32 × Int32) → Prop) (q : Int32 × Int32) => wpb_X8_longest_4 S a0 v1 Post K4 q.1 q.2) n ((0 : Int32), (0 : Int32))
def wpb_X8_turnedPairs_15 (S : PS) (a0 : Nat) (v1 : Int32) (i1 : Int32) (K4 : (Int32 × Int32) → Prop) (K15 : (Int32 × Int32) → Prop) (i5 : Int32) (i6 : Int32) : Prop :=
  ((12 : Int32) ≤ i5 → ∀ i8 : Int32, i8 = i1 + (1 : Int32) → K4 (i8, i6)) ∧ (¬ (12 : Int32) ≤ i5 → rc S a0 6 (wp_X8_comesBy S a0 v1 i1 (fun i9 => rc S a0 6 (wp_X8_comesBy S a0 v1 i5 (fun i12 => (i9 ≤ i12 → ∀ i16 : Int32, i16 = (i6 + (0 : Int32)) → ∀ i17 : Int32, i17 = i5 + (1 : Int32) → K15 (i17, i16)) ∧ (¬ i9 ≤ i12 → ∀ i18 : Int32, i18 = (i6 + (1 : Int32)) → ∀ i19 : Int32, i19 = i5 + (1 : Int32) → K15 (i19, i18)))))))
def wpb_X8_turnedPairs_4 (S : PS) (a0 : Nat) (v1 : Int32) (Post : Int32 → Prop) (K4 : (Int32 × Int32) → Prop) (i1 : Int32) (i2 : Int32) : Prop :=
  ((12 : Int32) ≤ i1 → Post i2) ∧ (¬ (12 : Int32) ≤ i1 → ∀ i4 : Int32, i4 = (i1 + (1 : Int32)) → ∃ n : Nat, wpL (fun (K15 : (Int32 × Int32) → Prop) (q : Int32 × Int32) => wpb_X8_turnedPairs_15 S a0 v1 i1 K4 K15 q.1 q.2) n (i4, i2))
def wp_X8_turnedPairs (S : PS) (a0 : Nat) (v1 : Int32) (Post : Int32 → Prop) : Prop :=
  ∃ n : Nat, wpL (fun (K4 : (Int32 × Int32) → Prop) (q : Int32 × Int32) => wpb_X8_turnedPairs_4 S a0 v1 Post K4 q.1 q.2) n ((0 : Int32), (0 : Int32))
def wpb_X8_takeThreads_2 (a0 : Nat) (Post : PS → Prop) (K2 : (Int32 × PS) → Prop) (i1 : Int32) (S2 : PS) : Prop :=
  ((12 : Int32) ≤ i1 → Post S2) ∧ (¬ (12 : Int32) ≤ i1 → gR S2 a0 6 11 (fun a5 => gR S2 a0 6 0 (fun a8 => lI S2 a8 ((18 : Int32) + i1) (fun i13 => sI S2 a5 i1 i13 (fun S17 => ∀ i18 : Int32, i18 = i1 + (1 : Int32) → K2 (i18, S17))))))
def wp_X8_takeThreads (S : PS) (a0 : Nat) (Post : PS → Prop) : Prop :=
  ∃ n : Nat, wpL (fun (K2 : (Int32 × PS) → Prop) (q : Int32 × PS) => wpb_X8_takeThreads_2 a0 Post K2 q.1 q.2) n ((0 : Int32), S)
def wpb_X8_weaveOnce_33 (a0 : Nat) (Post : PS → Prop) (K33 : (Int32 × PS) → Prop) (i4 : Int32) (S5 : PS) : Prop :=
  ((12 : Int32) ≤ i4 → Post S5) ∧ (¬ (12 : Int32) ≤ i4 → gR S5 a0 6 11 (fun a8 => gR S5 a0 6 12 (fun a11 => lI S5 a11 i4 (fun i16 => sI S5 a8 i4 i16 (fun S20 => ∀ i21 : Int32, i21 = i4 + (1 : Int32) → K33 (i21, S20))))))
def wpb_X8_weaveOnce_2 (a0 : Nat) (v1 : Int32) (Post : PS → Prop) (K2 : (Int32 × PS) → Prop) (i1 : Int32) (S2 : PS) : Prop :=
  ((12 : Int32) ≤ i1 → ∃ n : Nat, wpL (fun (K33 : (Int32 × PS) → Prop) (q : Int32 × PS) => wpb_X8_weaveOnce_33 a0 Post K33 q.1 q.2) n ((0 : Int32), S2)) ∧ (¬ (12 : Int32) ≤ i1 → gR S2 a0 6 12 (fun a24 => rc S2 a0 6 (wp_X8_comesBy S2 a0 v1 i1 (fun i26 => gR S2 a0 6 11 (fun a30 => lI S2 a30 i1 (fun i35 => sI S2 a24 i26 i35 (fun S39 => ∀ i40 : Int32, i40 = i1 + (1 : Int32) → K2 (i40, S39))))))))
def wp_X8_weaveOnce (S : PS) (a0 : Nat) (v1 : Int32) (Post : PS → Prop) : Prop :=
  ∃ n : Nat, wpL (fun (K2 : (Int32 × PS) → Prop) (q : Int32 × PS) => wpb_X8_weaveOnce_2 a0 v1 Post K2 q.1 q.2) n ((0 : Int32), S)
def wpb_X8_isSameCloth_4 (S : PS) (a0 : Nat) (Post : Int32 → Prop) (K4 : (Int32 × Int32) → Prop) (i1 : Int32) (i2 : Int32) : Prop :=
  ((12 : Int32) ≤ i1 → i2 &&& 1 = i2 ∧ Post i2) ∧ (¬ (12 : Int32) ≤ i1 → (i2 = 0 → ∀ i5 : Int32, i5 = i1 + (1 : Int32) → K4 (i5, (0 : Int32))) ∧ (¬ i2 = 0 → gR S a0 6 0 (fun a7 => gR S a0 6 11 (fun a10 => lI S a10 i1 (fun i15 => lI S a7 ((30 : Int32) + i15) (fun i19 => gR S a0 6 0 (fun a21 => gR S a0 6 0 (fun a24 => lI S a24 ((18 : Int32) + i1) (fun i29 => lI S a21 ((30 : Int32) + i29) (fun i33 => (i19 = i33 → ∀ i36 : Int32, i36 = i1 + (1 : Int32) → K4 (i36, (1 : Int32))) ∧ (¬ i19 = i33 → ∀ i35 : Int32, i35 = i1 + (1 : Int32) → K4 (i35, (0 : Int32)))))))))))))
def wp_X8_isSameCloth (S : PS) (a0 : Nat) (Post : Int32 → Prop) : Prop :=
  ∃ n : Nat, wpL (fun (K4 : (Int32 × Int32) → Prop) (q : Int32 × Int32) => wpb_X8_isSameCloth_4 S a0 Post K4 q.1 q.2) n ((0 : Int32), (1 : Int32))
def wpb_X8_repeats_8 (a0 : Nat) (v1 : Int32) (Post : Int32 → PS → Prop) (K8 : (Int32 × Int32 × PS) → Prop) (i4 : Int32) (i5 : Int32) (S6 : PS) : Prop :=
  (i4 = 0 → rc S6 a0 6 (wp_X8_weaveOnce S6 a0 v1 (fun S8 => ∀ i11 : Int32, i11 = i5 + (1 : Int32) → rc S8 a0 6 (wp_X8_isSameCloth S8 a0 (fun i12 => K8 (i12, i11, S8)))))) ∧ (¬ i4 = 0 → Post i5 S6)
def wp_X8_repeats (S : PS) (a0 : Nat) (v1 : Int32) (Post : Int32 → PS → Prop) : Prop :=
  rc S a0 6 (wp_X8_takeThreads S a0 (fun S1 => ∃ n : Nat, wpL (fun (K8 : (Int32 × Int32 × PS) → Prop) (q : Int32 × Int32 × PS) => wpb_X8_repeats_8 a0 v1 Post K8 q.1 q.2.1 q.2.2) n ((0 : Int32), (0 : Int32), S1)))
def wpb_X8_homeNow_4 (S : PS) (a0 : Nat) (Post : Int32 → Prop) (K4 : (Int32 × Int32) → Prop) (i1 : Int32) (i2 : Int32) : Prop :=
  ((12 : Int32) ≤ i1 → Post i2) ∧ (¬ (12 : Int32) ≤ i1 → gR S a0 6 11 (fun a5 => lI S a5 i1 (fun i10 => (i10 = i1 → ∀ i14 : Int32, i14 = (i2 + (1 : Int32)) → ∀ i15 : Int32, i15 = i1 + (1 : Int32) → K4 (i15, i14)) ∧ (¬ i10 = i1 → ∀ i12 : Int32, i12 = (i2 + (0 : Int32)) → ∀ i13 : Int32, i13 = i1 + (1 : Int32) → K4 (i13, i12)))))
def wp_X8_homeNow (S : PS) (a0 : Nat) (Post : Int32 → Prop) : Prop :=
  ∃ n : Nat, wpL (fun (K4 : (Int32 × Int32) → Prop) (q : Int32 × Int32) => wpb_X8_homeNow_4 S a0 Post K4 q.1 q.2) n ((0 : Int32), (0 : Int32))
def wp_X8_put (S : PS) (a0 : Nat) (v1 : Int32) (v2 : Int32) (Post : Int32 → PS → Prop) : Prop :=
  wp_X8_isPlace v1 (fun i1 => (i1 = 0 → Post (-1 : Int32) S) ∧ (¬ i1 = 0 → wp_X8_within v2 (0 : Int32) (5 : Int32) (fun i3 => (i3 = 0 → Post (-1 : Int32) S) ∧ (¬ i3 = 0 → rc S a0 6 (wp_X8_record S a0 (fun S5 => gR S5 a0 6 0 (fun a9 => lI S5 a9 ((0 : Int32) + v1) (fun i14 => gR S5 a0 6 0 (fun a16 => sI S5 a16 ((0 : Int32) + v1) v2 (fun S21 => Post i14 S21))))))))))
def wp_X8_tie (S : PS) (a0 : Nat) (v1 : Int32) (v2 : Int32) (Post : Int32 → PS → Prop) : Prop :=
  wp_X8_within v1 (0 : Int32) (5 : Int32) (fun i1 => (i1 = 0 → Post (-1 : Int32) S) ∧ (¬ i1 = 0 → wp_X8_within v2 (0 : Int32) (63 : Int32) (fun i3 => (i3 = 0 → Post (-2 : Int32) S) ∧ (¬ i3 = 0 → rc S a0 6 (wp_X8_record S a0 (fun S5 => gR S5 a0 6 0 (fun a9 => sI S5 a9 ((12 : Int32) + v1) v2 (fun S14 => rc S14 a0 6 (wp_X8_raised S14 a0 v1 (fun i15 => wp_X8_ones i15 (fun i18 => Post i18 S14)))))))))))
def wpb_X8_make_19 (a0 : Nat) (v1 : Int32) (Post : Int32 → PS → Prop) (K19 : (Int32 × PS) → Prop) (i14 : Int32) (S15 : PS) : Prop :=
  ((24 : Int32) ≤ i14 → gI S15 a0 6 9 (fun i18 => Post i18 S15)) ∧ (¬ (24 : Int32) ≤ i14 → gR S15 a0 6 0 (fun a21 => gI S15 a0 6 9 (fun i24 => (i24 ≤ i14 → sI S15 a21 (((48 : Int32) + ((24 : Int32) * v1)) + i14) (0 : Int32) (fun S30 => ∀ i31 : Int32, i31 = i14 + (1 : Int32) → K19 (i31, S30))) ∧ (¬ i24 ≤ i14 → gR S15 a0 6 8 (fun a33 => lI S15 a33 i14 (fun i38 => sI S15 a21 (((48 : Int32) + ((24 : Int32) * v1)) + i14) i38 (fun S42 => ∀ i43 : Int32, i43 = i14 + (1 : Int32) → K19 (i43, S42))))))))
def wp_X8_make (S : PS) (a0 : Nat) (v1 : Int32) (Post : Int32 → PS → Prop) : Prop :=
  rc S a0 6 (wp_X8_record S a0 (fun S1 => gR S1 a0 6 0 (fun a5 => gI S1 a0 6 9 (fun i8 => sI S1 a5 ((42 : Int32) + v1) i8 (fun S13 => ∃ n : Nat, wpL (fun (K19 : (Int32 × PS) → Prop) (q : Int32 × PS) => wpb_X8_make_19 a0 v1 Post K19 q.1 q.2) n ((0 : Int32), S13))))))
def wpb_X8_addRow_2 (a0 : Nat) (v1 : Int32) (Post : PS → Prop) (K2 : (Int32 × PS) → Prop) (i1 : Int32) (S2 : PS) : Prop :=
  rc S2 a0 6 (wp_X8_lengthOf S2 a0 v1 (fun i3 => (i3 ≤ i1 → Post S2) ∧ (¬ i3 ≤ i1 → gR S2 a0 6 8 (fun a8 => gI S2 a0 6 9 (fun i11 => rc S2 a0 6 (wp_X8_pressOf S2 a0 v1 i1 (fun i13 => sI S2 a8 i11 i13 (fun S19 => gI S19 a0 6 9 (fun i21 => pF S19 a0 6 9 (.int (i21 + (1 : Int32))) (fun S25 => ∀ i26 : Int32, i26 = i1 + (1 : Int32) → K2 (i26, S25)))))))))))
def wp_X8_addRow (S : PS) (a0 : Nat) (v1 : Int32) (Post : PS → Prop) : Prop :=
  ∃ n : Nat, wpL (fun (K2 : (Int32 × PS) → Prop) (q : Int32 × PS) => wpb_X8_addRow_2 a0 v1 Post K2 q.1 q.2) n ((0 : Int32), S)
def wp_X8_next (S : PS) (a0 : Nat) (Post : Int32 → Prop) : Prop :=
  gI S a0 6 7 (fun i2 => gI S a0 6 6 (fun i5 => (i5 ≤ i2 → Post (0 : Int32)) ∧ (¬ i5 ≤ i2 → gR S a0 6 5 (fun a9 => gI S a0 6 7 (fun i12 => lI S a9 i12 (fun i17 => Post i17))))))
def wpb_X8_readsPress_139 (a0 : Nat) (i10 : Int32) (i26 : Int32) (Post : Int32 → PS → Prop) (K139 : (Int32 × PS) → Prop) (i35 : Int32) (S36 : PS) : Prop :=
  (i26 ≤ i35 → Post (1 : Int32) S36) ∧ (¬ i26 ≤ i35 → gR S36 a0 6 8 (fun a39 => gI S36 a0 6 9 (fun i42 => sI S36 a39 i42 i10 (fun S47 => gI S47 a0 6 9 (fun i49 => pF S47 a0 6 9 (.int (i49 + (1 : Int32))) (fun S53 => ∀ i54 : Int32, i54 = i35 + (1 : Int32) → K139 (i54, S53)))))))
def wpk_X8_readsPress_136 (a0 : Nat) (i10 : Int32) (i26 : Int32) (Post : Int32 → PS → Prop) (S34 : PS) : Prop :=
  ∃ n : Nat, wpL (fun (K139 : (Int32 × PS) → Prop) (q : Int32 × PS) => wpb_X8_readsPress_139 a0 i10 i26 Post K139 q.1 q.2) n ((0 : Int32), S34)
def wpk_X8_readsPress_102 (a0 : Nat) (i10 : Int32) (S21 : PS) (Post : Int32 → PS → Prop) (i26 : Int32) : Prop :=
  gI S21 a0 6 9 (fun i28 => ((i28 + i26) ≤ (24 : Int32) → gI S21 a0 6 7 (fun i32 => (i26 ≤ (1 : Int32) → pF S21 a0 6 7 (.int (i32 + (0 : Int32))) (fun S59 => wpk_X8_readsPress_136 a0 i10 i26 Post S59)) ∧ (¬ i26 ≤ (1 : Int32) → pF S21 a0 6 7 (.int (i32 + (1 : Int32))) (fun S62 => wpk_X8_readsPress_136 a0 i10 i26 Post S62)))) ∧ (¬ (i28 + i26) ≤ (24 : Int32) → Post (0 : Int32) S21))
def wpk_X8_readsPress_48 (S : PS) (a0 : Nat) (Post : Int32 → PS → Prop) (i10 : Int32) : Prop :=
  (i10 = (-6 : Int32) → Post (0 : Int32) S) ∧ (¬ i10 = (-6 : Int32) → gI S a0 6 9 (fun i13 => (i13 = (24 : Int32) → Post (0 : Int32) S) ∧ (¬ i13 = (24 : Int32) → gI S a0 6 7 (fun i17 => pF S a0 6 7 (.int (i17 + (1 : Int32))) (fun S21 => rc S21 a0 6 (wp_X8_next S21 a0 (fun i22 => wp_X8_within i22 (50 : Int32) (57 : Int32) (fun i25 => (i25 = 0 → wpk_X8_readsPress_102 a0 i10 S21 Post (1 : Int32)) ∧ (¬ i25 = 0 → rc S21 a0 6 (wp_X8_next S21 a0 (fun i64 => ∀ i67 : Int32, i67 = (i64 - (48 : Int32)) → wpk_X8_readsPress_102 a0 i10 S21 Post i67)))))))))))
def wp_X8_readsPress (S : PS) (a0 : Nat) (Post : Int32 → PS → Prop) : Prop :=
  rc S a0 6 (wp_X8_next S a0 (fun i1 => ∀ i4 : Int32, i4 = (i1 - (97 : Int32)) → rc S a0 6 (wp_X8_next S a0 (fun i5 => ∀ i8 : Int32, i8 = (i5 - (65 : Int32)) → wp_X8_within i4 (0 : Int32) (5 : Int32) (fun i9 => (i9 = 0 → wp_X8_within i8 (0 : Int32) (5 : Int32) (fun i69 => (i69 = 0 → wpk_X8_readsPress_48 S a0 Post (-6 : Int32)) ∧ (¬ i69 = 0 → ∀ i71 : Int32, i71 = (i8 + (6 : Int32)) → wpk_X8_readsPress_48 S a0 Post i71))) ∧ (¬ i9 = 0 → wpk_X8_readsPress_48 S a0 Post i4))))))
def wpk_X8_findFault_35 (a0 : Nat) (Post : Int32 → PS → Prop) (i9 : Int32) (S10 : PS) : Prop :=
  (i9 = 0 → gI S10 a0 6 7 (fun i13 => Post i13 S10)) ∧ (¬ i9 = 0 → gI S10 a0 6 6 (fun i16 => (i16 ≤ 0 → gI S10 a0 6 7 (fun i20 => Post i20 S10)) ∧ (¬ i16 ≤ 0 → Post (-6 : Int32) S10)))
def wpb_X8_findFault_12 (a0 : Nat) (Post : Int32 → PS → Prop) (K12 : (Int32 × PS) → Prop) (i7 : Int32) (S8 : PS) : Prop :=
  (i7 = 0 → wpk_X8_findFault_35 a0 Post i7 S8) ∧ (¬ i7 = 0 → gI S8 a0 6 7 (fun i24 => gI S8 a0 6 6 (fun i27 => (i27 ≤ i24 → wpk_X8_findFault_35 a0 Post i7 S8) ∧ (¬ i27 ≤ i24 → rc S8 a0 6 (wp_X8_readsPress S8 a0 (fun i30 S31 => K12 (i30, S31)))))))
def wp_X8_findFault (S : PS) (a0 : Nat) (Post : Int32 → PS → Prop) : Prop :=
  pF S a0 6 7 (.int (0 : Int32)) (fun S3 => pF S3 a0 6 9 (.int (0 : Int32)) (fun S6 => ∃ n : Nat, wpL (fun (K12 : (Int32 × PS) → Prop) (q : Int32 × PS) => wpb_X8_findFault_12 a0 Post K12 q.1 q.2) n ((1 : Int32), S6)))
def wp_X8_read (S : PS) (a0 : Nat) (v1 : Int32) (Post : Int32 → PS → Prop) : Prop :=
  wp_X8_isDraft v1 (fun i1 => (i1 = 0 → Post (-1 : Int32) S) ∧ (¬ i1 = 0 → rc S a0 6 (wp_X8_findFault S a0 (fun i3 S4 => (i3 = (-6 : Int32) → pF S4 a0 6 6 (.int (0 : Int32)) (fun S10 => rc S10 a0 6 (wp_X8_make S10 a0 v1 (fun i11 S12 => Post i11 S12)))) ∧ (¬ i3 = (-6 : Int32) → Post (-3 : Int32) S4)))))
def wp_X8_compose (S : PS) (a0 : Nat) (v1 : Int32) (v2 : Int32) (v3 : Int32) (Post : Int32 → PS → Prop) : Prop :=
  wp_X8_isDraft v1 (fun i1 => (i1 = 0 → Post (-1 : Int32) S) ∧ (¬ i1 = 0 → wp_X8_isDraft v2 (fun i3 => (i3 = 0 → Post (-1 : Int32) S) ∧ (¬ i3 = 0 → wp_X8_isDraft v3 (fun i5 => (i5 = 0 → Post (-1 : Int32) S) ∧ (¬ i5 = 0 → rc S a0 6 (wp_X8_lengthOf S a0 v2 (fun i7 => rc S a0 6 (wp_X8_lengthOf S a0 v3 (fun i10 => ((i7 + i10) ≤ (24 : Int32) → pF S a0 6 9 (.int (0 : Int32)) (fun S16 => rc S16 a0 6 (wp_X8_addRow S16 a0 v2 (fun S17 => rc S17 a0 6 (wp_X8_addRow S17 a0 v3 (fun S20 => rc S20 a0 6 (wp_X8_make S20 a0 v1 (fun i23 S24 => Post i23 S24)))))))) ∧ (¬ (i7 + i10) ≤ (24 : Int32) → Post (-4 : Int32) S)))))))))))
def wpb_X8_turnRound_29 (a0 : Nat) (v1 : Int32) (v2 : Int32) (Post : Int32 → PS → Prop) (K29 : (Int32 × PS) → Prop) (i12 : Int32) (S13 : PS) : Prop :=
  (i12 < 0 → rc S13 a0 6 (wp_X8_make S13 a0 v1 (fun i15 S16 => Post i15 S16))) ∧ (¬ i12 < 0 → gR S13 a0 6 8 (fun a20 => gI S13 a0 6 9 (fun i23 => rc S13 a0 6 (wp_X8_pressOf S13 a0 v2 i12 (fun i25 => sI S13 a20 i23 ((i25 + (6 : Int32)) - (i25 + (6 : Int32)) / (12 : Int32) * (12 : Int32)) (fun S31 => gI S31 a0 6 9 (fun i33 => pF S31 a0 6 9 (.int (i33 + (1 : Int32))) (fun S37 => ∀ i38 : Int32, i38 = i12 + (-1 : Int32) → K29 (i38, S37)))))))))
def wp_X8_turnRound (S : PS) (a0 : Nat) (v1 : Int32) (v2 : Int32) (Post : Int32 → PS → Prop) : Prop :=
  wp_X8_isDraft v1 (fun i1 => (i1 = 0 → Post (-1 : Int32) S) ∧ (¬ i1 = 0 → wp_X8_isDraft v2 (fun i3 => (i3 = 0 → Post (-1 : Int32) S) ∧ (¬ i3 = 0 → pF S a0 6 9 (.int (0 : Int32)) (fun S7 => rc S7 a0 6 (wp_X8_lengthOf S7 a0 v2 (fun i8 => ∀ i11 : Int32, i11 = (i8 - (1 : Int32)) → ∃ n : Nat, wpL (fun (K29 : (Int32 × PS) → Prop) (q : Int32 × PS) => wpb_X8_turnRound_29 a0 v1 v2 Post K29 q.1 q.2) n (i11, S7))))))))
def wpb_X8_repeat_52 (a0 : Nat) (v1 : Int32) (v2 : Int32) (v3 : Int32) (Post : Int32 → PS → Prop) (K52 : (Int32 × PS) → Prop) (i14 : Int32) (S15 : PS) : Prop :=
  (v3 ≤ i14 → rc S15 a0 6 (wp_X8_make S15 a0 v1 (fun i17 S18 => Post i17 S18))) ∧ (¬ v3 ≤ i14 → rc S15 a0 6 (wp_X8_addRow S15 a0 v2 (fun S21 => ∀ i24 : Int32, i24 = i14 + (1 : Int32) → K52 (i24, S21))))
def wp_X8_repeat (S : PS) (a0 : Nat) (v1 : Int32) (v2 : Int32) (v3 : Int32) (Post : Int32 → PS → Prop) : Prop :=
  wp_X8_isDraft v1 (fun i1 => (i1 = 0 → Post (-1 : Int32) S) ∧ (¬ i1 = 0 → wp_X8_isDraft v2 (fun i3 => (i3 = 0 → Post (-1 : Int32) S) ∧ (¬ i3 = 0 → wp_X8_within v3 (0 : Int32) (24 : Int32) (fun i5 => (i5 = 0 → Post (-2 : Int32) S) ∧ (¬ i5 = 0 → rc S a0 6 (wp_X8_lengthOf S a0 v2 (fun i7 => ((v3 * i7) ≤ (24 : Int32) → pF S a0 6 9 (.int (0 : Int32)) (fun S13 => ∃ n : Nat, wpL (fun (K52 : (Int32 × PS) → Prop) (q : Int32 × PS) => wpb_X8_repeat_52 a0 v1 v2 v3 Post K52 q.1 q.2) n ((0 : Int32), S13))) ∧ (¬ (v3 * i7) ≤ (24 : Int32) → Post (-4 : Int32) S)))))))))
def wpb_X8_weave_56 (a0 : Nat) (v1 : Int32) (v2 : Int32) (Post : Int32 → PS → Prop) (K56 : (Int32 × PS) → Prop) (i17 : Int32) (S18 : PS) : Prop :=
  ((12 : Int32) ≤ i17 → gR S18 a0 6 0 (fun a21 => lI S18 a21 (192 : Int32) (fun i26 => rc S18 a0 6 (wp_X8_lengthOf S18 a0 v1 (fun i27 => sI S18 a21 (192 : Int32) (i26 + (v2 * i27)) (fun S33 => gR S33 a0 6 0 (fun a35 => lI S33 a35 (193 : Int32) (fun i40 => sI S33 a35 (193 : Int32) (i40 + v2) (fun S44 => rc S44 a0 6 (wp_X8_atHome S44 a0 (fun i45 => Post i45 S44))))))))))) ∧ (¬ (12 : Int32) ≤ i17 → gR S18 a0 6 0 (fun a49 => gR S18 a0 6 11 (fun a52 => lI S18 a52 i17 (fun i57 => sI S18 a49 ((18 : Int32) + i17) i57 (fun S61 => ∀ i62 : Int32, i62 = i17 + (1 : Int32) → K56 (i62, S61))))))
def wpb_X8_weave_38 (a0 : Nat) (v1 : Int32) (v2 : Int32) (Post : Int32 → PS → Prop) (K38 : (Int32 × PS) → Prop) (i14 : Int32) (S15 : PS) : Prop :=
  (v2 ≤ i14 → ∃ n : Nat, wpL (fun (K56 : (Int32 × PS) → Prop) (q : Int32 × PS) => wpb_X8_weave_56 a0 v1 v2 Post K56 q.1 q.2) n ((0 : Int32), S15)) ∧ (¬ v2 ≤ i14 → rc S15 a0 6 (wp_X8_weaveOnce S15 a0 v1 (fun S64 => ∀ i67 : Int32, i67 = i14 + (1 : Int32) → K38 (i67, S64))))
def wp_X8_weave (S : PS) (a0 : Nat) (v1 : Int32) (v2 : Int32) (Post : Int32 → PS → Prop) : Prop :=
  wp_X8_isDraft v1 (fun i1 => (i1 = 0 → Post (-1 : Int32) S) ∧ (¬ i1 = 0 → wp_X8_within v2 (1 : Int32) (1000 : Int32) (fun i3 => (i3 = 0 → Post (-2 : Int32) S) ∧ (¬ i3 = 0 → rc S a0 6 (wp_X8_record S a0 (fun S5 => rc S5 a0 6 (wp_X8_lay S5 a0 v1 (fun S8 => rc S8 a0 6 (wp_X8_takeThreads S8 a0 (fun S11 => ∃ n : Nat, wpL (fun (K38 : (Int32 × PS) → Prop) (q : Int32 × PS) => wpb_X8_weave_38 a0 v1 v2 Post K38 q.1 q.2) n ((0 : Int32), S11)))))))))))
def wp_X8_dye (S : PS) (a0 : Nat) (v1 : Int32) (v2 : Int32) (Post : Int32 → PS → Prop) : Prop :=
  wp_X8_isPlace v1 (fun i1 => (i1 = 0 → Post (-1 : Int32) S) ∧ (¬ i1 = 0 → wp_X8_within v2 (0 : Int32) (3 : Int32) (fun i3 => (i3 = 0 → Post (-2 : Int32) S) ∧ (¬ i3 = 0 → rc S a0 6 (wp_X8_record S a0 (fun S5 => gR S5 a0 6 0 (fun a9 => lI S5 a9 ((30 : Int32) + v1) (fun i14 => gR S5 a0 6 0 (fun a16 => sI S5 a16 ((30 : Int32) + v1) v2 (fun S21 => Post i14 S21))))))))))
def wpb_X8_raising_4 (S : PS) (a0 : Nat) (v1 : Int32) (Post : Int32 → Prop) (K4 : (Int32 × Int32) → Prop) (i1 : Int32) (i2 : Int32) : Prop :=
  ((6 : Int32) ≤ i1 → Post i2) ∧ (¬ (6 : Int32) ≤ i1 → rc S a0 6 (wp_X8_raised S a0 i1 (fun i4 => (((i4 >>> (v1 &&& 31)) &&& (1 : Int32)) = (1 : Int32) → ∀ i10 : Int32, i10 = (i2 ||| ((1 : Int32) <<< (i1 &&& 31))) → ∀ i11 : Int32, i11 = i1 + (1 : Int32) → K4 (i11, i10)) ∧ (¬ ((i4 >>> (v1 &&& 31)) &&& (1 : Int32)) = (1 : Int32) → ∀ i8 : Int32, i8 = (i2 ||| (0 : Int32)) → ∀ i9 : Int32, i9 = i1 + (1 : Int32) → K4 (i9, i8)))))
def wp_X8_raising (S : PS) (a0 : Nat) (v1 : Int32) (Post : Int32 → Prop) : Prop :=
  ∃ n : Nat, wpL (fun (K4 : (Int32 × Int32) → Prop) (q : Int32 × Int32) => wpb_X8_raising_4 S a0 v1 Post K4 q.1 q.2) n ((0 : Int32), (0 : Int32))
def wp_X8_place (S : PS) (a0 : Nat) (v1 : Int32) (v2 : Int32) (Post : Int32 → Prop) : Prop :=
  wp_X8_isPlace v1 (fun i1 => (i1 = 0 → Post (-1 : Int32)) ∧ (¬ i1 = 0 → gR S a0 6 0 (fun a4 => lI S a4 ((18 : Int32) + v1) (fun i9 => (v2.toInt < 0 ∨ 3 < v2.toInt → Post (-2 : Int32)) ∧ (v2.toInt = 0 → gR S a0 6 0 (fun a12 => lI S a12 ((0 : Int32) + v1) (fun i17 => Post i17))) ∧ (v2.toInt = 1 → Post i9) ∧ (v2.toInt = 2 → gR S a0 6 0 (fun a19 => lI S a19 ((30 : Int32) + i9) (fun i24 => Post i24))) ∧ (v2.toInt = 3 → rc S a0 6 (wp_X8_raising S a0 v1 (fun i25 => Post i25)))))))
def wp_X8_treadle (S : PS) (a0 : Nat) (v1 : Int32) (v2 : Int32) (Post : Int32 → Prop) : Prop :=
  wp_X8_within v1 (0 : Int32) (5 : Int32) (fun i1 => (i1 = 0 → Post (-1 : Int32)) ∧ (¬ i1 = 0 → wp_X8_within v2 (0 : Int32) (1 : Int32) (fun i3 => (i3 = 0 → Post (-2 : Int32)) ∧ (¬ i3 = 0 → (v2 = 0 → gR S a0 6 0 (fun a10 => lI S a10 ((12 : Int32) + v1) (fun i15 => Post i15))) ∧ (¬ v2 = 0 → rc S a0 6 (wp_X8_raised S a0 v1 (fun i6 => Post i6)))))))
def wp_X8_draft (S : PS) (a0 : Nat) (v1 : Int32) (v2 : Int32) (Post : Int32 → PS → Prop) : Prop :=
  wp_X8_isDraft v1 (fun i1 => (i1 = 0 → Post (-1 : Int32) S) ∧ (¬ i1 = 0 → rc S a0 6 (wp_X8_lay S a0 v1 (fun S3 => (v2.toInt < 0 ∨ 6 < v2.toInt → Post (-2 : Int32) S3) ∧ (v2.toInt = 0 → rc S3 a0 6 (wp_X8_lengthOf S3 a0 v1 (fun i7 => Post i7 S3))) ∧ (v2.toInt = 1 → rc S3 a0 6 (wp_X8_orderOf S3 a0 v1 (fun i10 => Post i10 S3))) ∧ (v2.toInt = 2 → rc S3 a0 6 (wp_X8_stays S3 a0 v1 (fun i13 => Post i13 S3))) ∧ (v2.toInt = 3 → rc S3 a0 6 (wp_X8_cycles S3 a0 v1 (fun i16 => Post i16 S3))) ∧ (v2.toInt = 4 → rc S3 a0 6 (wp_X8_longest S3 a0 v1 (fun i19 => Post i19 S3))) ∧ (v2.toInt = 5 → rc S3 a0 6 (wp_X8_turnedPairs S3 a0 v1 (fun i22 => Post i22 S3))) ∧ (v2.toInt = 6 → rc S3 a0 6 (wp_X8_repeats S3 a0 v1 (fun i25 S26 => Post i25 S26)))))))
def wp_X8_press (S : PS) (a0 : Nat) (v1 : Int32) (v2 : Int32) (Post : Int32 → Prop) : Prop :=
  wp_X8_isDraft v1 (fun i1 => (i1 = 0 → Post (-1 : Int32)) ∧ (¬ i1 = 0 → rc S a0 6 (wp_X8_lengthOf S a0 v1 (fun i3 => wp_X8_within v2 (0 : Int32) ((i3 - (1 : Int32))) (fun i6 => (i6 = 0 → Post (-1 : Int32)) ∧ (¬ i6 = 0 → rc S a0 6 (wp_X8_pressOf S a0 v1 v2 (fun i8 => Post i8))))))))
def wpb_X8_comesTo_40 (a0 : Nat) (v1 : Int32) (v2 : Int32) (v3 : Int32) (S7 : PS) (Post : Int32 → PS → Prop) (K40 : (Int32 × Int32) → Prop) (i10 : Int32) (i11 : Int32) : Prop :=
  rc S7 a0 6 (wp_X8_cycleOf S7 a0 v1 v2 (fun i12 => ¬ i12 = 0 ∧ ((v3 - v3 / i12 * i12) ≤ i10 → Post i11 S7) ∧ (¬ (v3 - v3 / i12 * i12) ≤ i10 → rc S7 a0 6 (wp_X8_comesBy S7 a0 v1 i11 (fun i17 => ∀ i20 : Int32, i20 = i10 + (1 : Int32) → K40 (i20, i17))))))
def wp_X8_comesTo (S : PS) (a0 : Nat) (v1 : Int32) (v2 : Int32) (v3 : Int32) (Post : Int32 → PS → Prop) : Prop :=
  wp_X8_isDraft v1 (fun i1 => (i1 = 0 → Post (-1 : Int32) S) ∧ (¬ i1 = 0 → wp_X8_isPlace v2 (fun i3 => (i3 = 0 → Post (-1 : Int32) S) ∧ (¬ i3 = 0 → wp_X8_within v3 (0 : Int32) (1000000 : Int32) (fun i5 => (i5 = 0 → Post (-2 : Int32) S) ∧ (¬ i5 = 0 → rc S a0 6 (wp_X8_lay S a0 v1 (fun S7 => ∃ n : Nat, wpL (fun (K40 : (Int32 × Int32) → Prop) (q : Int32 × Int32) => wpb_X8_comesTo_40 a0 v1 v2 v3 S7 Post K40 q.1 q.2) n ((0 : Int32), v2)))))))))
def wpb_X8_neverRaised_4 (S : PS) (a0 : Nat) (Post : Int32 → Prop) (K4 : (Int32 × Int32) → Prop) (i1 : Int32) (i2 : Int32) : Prop :=
  ((12 : Int32) ≤ i1 → Post i2) ∧ (¬ (12 : Int32) ≤ i1 → rc S a0 6 (wp_X8_raising S a0 i1 (fun i4 => (i4 = 0 → ∀ i10 : Int32, i10 = (i2 ||| ((1 : Int32) <<< (i1 &&& 31))) → ∀ i11 : Int32, i11 = i1 + (1 : Int32) → K4 (i11, i10)) ∧ (¬ i4 = 0 → ∀ i8 : Int32, i8 = (i2 ||| (0 : Int32)) → ∀ i9 : Int32, i9 = i1 + (1 : Int32) → K4 (i9, i8)))))
def wp_X8_neverRaised (S : PS) (a0 : Nat) (Post : Int32 → Prop) : Prop :=
  ∃ n : Nat, wpL (fun (K4 : (Int32 × Int32) → Prop) (q : Int32 × Int32) => wpb_X8_neverRaised_4 S a0 Post K4 q.1 q.2) n ((0 : Int32), (0 : Int32))
def wpb_X8_pressedDrafts_4 (S : PS) (a0 : Nat) (Post : Int32 → Prop) (K4 : (Int32 × Int32) → Prop) (i1 : Int32) (i2 : Int32) : Prop :=
  ((6 : Int32) ≤ i1 → Post i2) ∧ (¬ (6 : Int32) ≤ i1 → rc S a0 6 (wp_X8_lengthOf S a0 i1 (fun i4 => (i4 ≤ 0 → ∀ i8 : Int32, i8 = (i2 ||| (0 : Int32)) → ∀ i9 : Int32, i9 = i1 + (1 : Int32) → K4 (i9, i8)) ∧ (¬ i4 ≤ 0 → ∀ i10 : Int32, i10 = (i2 ||| ((1 : Int32) <<< (i1 &&& 31))) → ∀ i11 : Int32, i11 = i1 + (1 : Int32) → K4 (i11, i10)))))
def wp_X8_pressedDrafts (S : PS) (a0 : Nat) (Post : Int32 → Prop) : Prop :=
  ∃ n : Nat, wpL (fun (K4 : (Int32 × Int32) → Prop) (q : Int32 × Int32) => wpb_X8_pressedDrafts_4 S a0 Post K4 q.1 q.2) n ((0 : Int32), (0 : Int32))
def wp_X8_count (S : PS) (a0 : Nat) (v1 : Int32) (Post : Int32 → Prop) : Prop :=
  (v1.toInt < 0 ∨ 6 < v1.toInt → Post (-2 : Int32)) ∧ (v1.toInt = 0 → rc S a0 6 (wp_X8_atHome S a0 (fun i2 => Post i2))) ∧ (v1.toInt = 1 → gR S a0 6 0 (fun a6 => lI S a6 (192 : Int32) (fun i11 => Post i11))) ∧ (v1.toInt = 2 → gR S a0 6 0 (fun a13 => lI S a13 (193 : Int32) (fun i18 => Post i18))) ∧ (v1.toInt = 3 → rc S a0 6 (wp_X8_neverRaised S a0 (fun i19 => Post i19))) ∧ (v1.toInt = 4 → rc S a0 6 (wp_X8_pressedDrafts S a0 (fun i22 => Post i22))) ∧ (v1.toInt = 5 → gI S a0 6 6 (fun i26 => Post i26)) ∧ (v1.toInt = 6 → gI S a0 6 2 (fun i29 => Post i29))
def wpb_X8_kernel_20 (a0 : Nat) (v1 : Int32) (S3 : PS) (Post : Int32 → PS → Prop) (K20 : (Int32 × Int32) → Prop) (i6 : Int32) (i7 : Int32) : Prop :=
  ((6 : Int32) ≤ i6 → Post i7 S3) ∧ (¬ (6 : Int32) ≤ i6 → (((v1 >>> (i6 &&& 31)) &&& (1 : Int32)) = (1 : Int32) → rc S3 a0 6 (wp_X8_stays S3 a0 i6 (fun i12 => ∀ i15 : Int32, i15 = (i7 &&& i12) → ∀ i16 : Int32, i16 = i6 + (1 : Int32) → K20 (i16, i15)))) ∧ (¬ ((v1 >>> (i6 &&& 31)) &&& (1 : Int32)) = (1 : Int32) → ∀ i10 : Int32, i10 = (i7 &&& i7) → ∀ i11 : Int32, i11 = i6 + (1 : Int32) → K20 (i11, i10)))
def wp_X8_kernel (S : PS) (a0 : Nat) (v1 : Int32) (Post : Int32 → PS → Prop) : Prop :=
  wp_X8_areDrafts v1 (fun i1 => (i1 = 0 → Post (-2 : Int32) S) ∧ (¬ i1 = 0 → rc S a0 6 (wp_X8_layAll S a0 (fun S3 => ∃ n : Nat, wpL (fun (K20 : (Int32 × Int32) → Prop) (q : Int32 × Int32) => wpb_X8_kernel_20 a0 v1 S3 Post K20 q.1 q.2) n ((0 : Int32), (4095 : Int32))))))
def wpb_X8_orbit_40 (a0 : Nat) (v1 : Int32) (S5 : PS) (i9 : Int32) (K30 : (Int32 × Int32) → Prop) (K40 : (Int32 × Int32) → Prop) (i12 : Int32) (i13 : Int32) : Prop :=
  ((72 : Int32) ≤ i12 → ∀ i15 : Int32, i15 = i9 + (1 : Int32) → K30 (i15, i13)) ∧ (¬ (72 : Int32) ≤ i12 → (((i13 >>> ((i12 - i12 / (12 : Int32) * (12 : Int32)) &&& 31)) &&& (1 : Int32)) = (1 : Int32) → (((v1 >>> ((i12 / (12 : Int32)) &&& 31)) &&& (1 : Int32)) = (1 : Int32) → gR S5 a0 6 10 (fun a23 => lI S5 a23 i12 (fun i28 => ∀ i29 : Int32, i29 = (i13 ||| ((1 : Int32) <<< (i28 &&& 31))) → ∀ i30 : Int32, i30 = i12 + (1 : Int32) → K40 (i30, i29)))) ∧ (¬ ((v1 >>> ((i12 / (12 : Int32)) &&& 31)) &&& (1 : Int32)) = (1 : Int32) → ∀ i20 : Int32, i20 = (i13 ||| (0 : Int32)) → ∀ i21 : Int32, i21 = i12 + (1 : Int32) → K40 (i21, i20))) ∧ (¬ ((i13 >>> ((i12 - i12 / (12 : Int32) * (12 : Int32)) &&& 31)) &&& (1 : Int32)) = (1 : Int32) → ∀ i17 : Int32, i17 = (i13 ||| (0 : Int32)) → ∀ i18 : Int32, i18 = i12 + (1 : Int32) → K40 (i18, i17)))
def wpb_X8_orbit_30 (a0 : Nat) (v1 : Int32) (S5 : PS) (Post : Int32 → PS → Prop) (K30 : (Int32 × Int32) → Prop) (i9 : Int32) (i10 : Int32) : Prop :=
  ((12 : Int32) ≤ i9 → Post i10 S5) ∧ (¬ (12 : Int32) ≤ i9 → ∃ n : Nat, wpL (fun (K40 : (Int32 × Int32) → Prop) (q : Int32 × Int32) => wpb_X8_orbit_40 a0 v1 S5 i9 K30 K40 q.1 q.2) n ((0 : Int32), i10))
def wp_X8_orbit (S : PS) (a0 : Nat) (v1 : Int32) (v2 : Int32) (Post : Int32 → PS → Prop) : Prop :=
  wp_X8_isPlace v2 (fun i1 => (i1 = 0 → Post (-1 : Int32) S) ∧ (¬ i1 = 0 → wp_X8_areDrafts v1 (fun i3 => (i3 = 0 → Post (-2 : Int32) S) ∧ (¬ i3 = 0 → rc S a0 6 (wp_X8_layAll S a0 (fun S5 => ∀ i8 : Int32, i8 = ((1 : Int32) <<< (v2 &&& 31)) → ∃ n : Nat, wpL (fun (K30 : (Int32 × Int32) → Prop) (q : Int32 × Int32) => wpb_X8_orbit_30 a0 v1 S5 Post K30 q.1 q.2) n ((0 : Int32), i8)))))))
def wpk_X8_unlike_78 (i1 : Int32) (i2 : Int32) (i8 : Int32) (K6 : (Int32 × Int32) → Prop) (i9 : Int32) : Prop :=
  (i8 = i9 → ∀ i13 : Int32, i13 = (i2 ||| (0 : Int32)) → ∀ i14 : Int32, i14 = i1 + (1 : Int32) → K6 (i14, i13)) ∧ (¬ i8 = i9 → ∀ i11 : Int32, i11 = (i2 ||| ((1 : Int32) <<< (i1 &&& 31))) → ∀ i12 : Int32, i12 = i1 + (1 : Int32) → K6 (i12, i11))
def wpk_X8_unlike_59 (S : PS) (a0 : Nat) (v1 : Int32) (v3 : Int32) (i1 : Int32) (i2 : Int32) (i7 : Int32) (K6 : (Int32 × Int32) → Prop) (i8 : Int32) : Prop :=
  (v3 = (1 : Int32) → rc S a0 6 (wp_X8_comesBy S a0 v1 i7 (fun i16 => wpk_X8_unlike_78 i1 i2 i8 K6 i16))) ∧ (¬ v3 = (1 : Int32) → wpk_X8_unlike_78 i1 i2 i8 K6 i7)
def wpk_X8_unlike_41 (S : PS) (a0 : Nat) (v1 : Int32) (v2 : Int32) (v3 : Int32) (i1 : Int32) (i2 : Int32) (i4 : Int32) (K6 : (Int32 × Int32) → Prop) (i7 : Int32) : Prop :=
  (v3 = 0 → wpk_X8_unlike_59 S a0 v1 v3 i1 i2 i7 K6 i4) ∧ (¬ v3 = 0 → rc S a0 6 (wp_X8_comesBy S a0 v2 i4 (fun i20 => wpk_X8_unlike_59 S a0 v1 v3 i1 i2 i7 K6 i20)))
def wpb_X8_unlike_6 (S : PS) (a0 : Nat) (v1 : Int32) (v2 : Int32) (v3 : Int32) (Post : Int32 → Prop) (K6 : (Int32 × Int32) → Prop) (i1 : Int32) (i2 : Int32) : Prop :=
  ((12 : Int32) ≤ i1 → Post i2) ∧ (¬ (12 : Int32) ≤ i1 → rc S a0 6 (wp_X8_comesBy S a0 v1 i1 (fun i4 => (v3 = (2 : Int32) → wpk_X8_unlike_41 S a0 v1 v2 v3 i1 i2 i4 K6 i1) ∧ (¬ v3 = (2 : Int32) → rc S a0 6 (wp_X8_comesBy S a0 v2 i1 (fun i24 => wpk_X8_unlike_41 S a0 v1 v2 v3 i1 i2 i4 K6 i24))))))
def wp_X8_unlike (S : PS) (a0 : Nat) (v1 : Int32) (v2 : Int32) (v3 : Int32) (Post : Int32 → Prop) : Prop :=
  ∃ n : Nat, wpL (fun (K6 : (Int32 × Int32) → Prop) (q : Int32 × Int32) => wpb_X8_unlike_6 S a0 v1 v2 v3 Post K6 q.1 q.2) n ((0 : Int32), (0 : Int32))
def wp_X8_pair (S : PS) (a0 : Nat) (v1 : Int32) (v2 : Int32) (v3 : Int32) (Post : Int32 → PS → Prop) : Prop :=
  wp_X8_isDraft v1 (fun i1 => (i1 = 0 → Post (-1 : Int32) S) ∧ (¬ i1 = 0 → wp_X8_isDraft v2 (fun i3 => (i3 = 0 → Post (-1 : Int32) S) ∧ (¬ i3 = 0 → wp_X8_within v3 (0 : Int32) (3 : Int32) (fun i5 => (i5 = 0 → Post (-2 : Int32) S) ∧ (¬ i5 = 0 → rc S a0 6 (wp_X8_lay S a0 v1 (fun S7 => rc S7 a0 6 (wp_X8_lay S7 a0 v2 (fun S10 => (v3 = (3 : Int32) → rc S10 a0 6 (wp_X8_unlike S10 a0 v1 v2 (0 : Int32) (fun i18 => Post i18 S10))) ∧ (¬ v3 = (3 : Int32) → rc S10 a0 6 (wp_X8_unlike S10 a0 v1 v2 v3 (fun i14 => (i14 = 0 → Post (1 : Int32) S10) ∧ (¬ i14 = 0 → Post (0 : Int32) S10))))))))))))))
def wpk_X8_addWay_130 (a0 : Nat) (i2 : Int32) (Post : PS → Prop) (S7 : PS) : Prop :=
  gI S7 a0 6 14 (fun i9 => (i2 = 0 → pF S7 a0 6 14 (.int (i9 + (0 : Int32))) (fun S14 => Post S14)) ∧ (¬ i2 = 0 → pF S7 a0 6 14 (.int (i9 + (1 : Int32))) (fun S17 => Post S17)))
def wpb_X8_addWay_98 (a0 : Nat) (i2 : Int32) (Post : PS → Prop) (K98 : (Int32 × PS) → Prop) (i23 : Int32) (S24 : PS) : Prop :=
  ((12 : Int32) ≤ i23 → wpk_X8_addWay_130 a0 i2 Post S24) ∧ (¬ (12 : Int32) ≤ i23 → gR S24 a0 6 13 (fun a27 => gI S24 a0 6 14 (fun i30 => gR S24 a0 6 11 (fun a33 => lI S24 a33 i23 (fun i38 => sI S24 a27 (((12 : Int32) * i30) + i23) i38 (fun S42 => ∀ i43 : Int32, i43 = i23 + (1 : Int32) → K98 (i43, S42)))))))
def wpb_X8_addWay_17 (S : PS) (a0 : Nat) (i1 : Int32) (i2 : Int32) (K4 : (Int32 × Int32) → Prop) (K17 : (Int32 × Int32) → Prop) (i45 : Int32) (i46 : Int32) : Prop :=
  ((12 : Int32) ≤ i45 → (i2 = 0 → ∀ i49 : Int32, i49 = i1 + (1 : Int32) → K4 (i49, (0 : Int32))) ∧ (¬ i2 = 0 → (i46 = 0 → ∀ i52 : Int32, i52 = i1 + (1 : Int32) → K4 (i52, (1 : Int32))) ∧ (¬ i46 = 0 → ∀ i51 : Int32, i51 = i1 + (1 : Int32) → K4 (i51, (0 : Int32))))) ∧ (¬ (12 : Int32) ≤ i45 → (i46 = 0 → ∀ i54 : Int32, i54 = i45 + (1 : Int32) → K17 (i54, (0 : Int32))) ∧ (¬ i46 = 0 → gR S a0 6 13 (fun a56 => lI S a56 (((12 : Int32) * i1) + i45) (fun i61 => gR S a0 6 11 (fun a63 => lI S a63 i45 (fun i68 => (i61 = i68 → ∀ i71 : Int32, i71 = i45 + (1 : Int32) → K17 (i71, (1 : Int32))) ∧ (¬ i61 = i68 → ∀ i70 : Int32, i70 = i45 + (1 : Int32) → K17 (i70, (0 : Int32)))))))))
def wpb_X8_addWay_4 (S : PS) (a0 : Nat) (Post : PS → Prop) (K4 : (Int32 × Int32) → Prop) (i1 : Int32) (i2 : Int32) : Prop :=
  gI S a0 6 14 (fun i4 => (i4 ≤ i1 → (i2 = 0 → wpk_X8_addWay_130 a0 i2 Post S) ∧ (¬ i2 = 0 → gI S a0 6 14 (fun i20 => ((300 : Int32) ≤ i20 → wpk_X8_addWay_130 a0 i2 Post S) ∧ (¬ (300 : Int32) ≤ i20 → ∃ n : Nat, wpL (fun (K98 : (Int32 × PS) → Prop) (q : Int32 × PS) => wpb_X8_addWay_98 a0 i2 Post K98 q.1 q.2) n ((0 : Int32), S))))) ∧ (¬ i4 ≤ i1 → ∃ n : Nat, wpL (fun (K17 : (Int32 × Int32) → Prop) (q : Int32 × Int32) => wpb_X8_addWay_17 S a0 i1 i2 K4 K17 q.1 q.2) n ((0 : Int32), (1 : Int32))))
def wp_X8_addWay (S : PS) (a0 : Nat) (Post : PS → Prop) : Prop :=
  ∃ n : Nat, wpL (fun (K4 : (Int32 × Int32) → Prop) (q : Int32 × Int32) => wpb_X8_addWay_4 S a0 Post K4 q.1 q.2) n ((0 : Int32), (1 : Int32))
def wpk_X8_ways_147 (a0 : Nat) (Post : Int32 → PS → Prop) (S20 : PS) : Prop :=
  gI S20 a0 6 14 (fun i22 => (i22 ≤ (300 : Int32) → gI S20 a0 6 14 (fun i26 => Post i26 S20)) ∧ (¬ i22 ≤ (300 : Int32) → Post (-6 : Int32) S20))
def wpk_X8_ways_141 (i15 : Int32) (K46 : (Int32 × PS) → Prop) (S35 : PS) : Prop :=
  ∀ i36 : Int32, i36 = i15 + (1 : Int32) → K46 (i36, S35)
def wpb_X8_ways_94 (a0 : Nat) (i15 : Int32) (i33 : Int32) (K66 : (Int32 × PS) → Prop) (K94 : (Int32 × PS) → Prop) (i44 : Int32) (S45 : PS) : Prop :=
  ((12 : Int32) ≤ i44 → rc S45 a0 6 (wp_X8_addWay S45 a0 (fun S47 => ∀ i50 : Int32, i50 = i33 + (1 : Int32) → K66 (i50, S47)))) ∧ (¬ (12 : Int32) ≤ i44 → gR S45 a0 6 11 (fun a52 => gR S45 a0 6 13 (fun a55 => lI S45 a55 (((12 : Int32) * i15) + i44) (fun i60 => rc S45 a0 6 (wp_X8_comesBy S45 a0 i33 i60 (fun i61 => sI S45 a52 i44 i61 (fun S67 => ∀ i68 : Int32, i68 = i44 + (1 : Int32) → K94 (i68, S67))))))))
def wpb_X8_ways_66 (a0 : Nat) (v1 : Int32) (i15 : Int32) (K46 : (Int32 × PS) → Prop) (K66 : (Int32 × PS) → Prop) (i33 : Int32) (S34 : PS) : Prop :=
  ((6 : Int32) ≤ i33 → wpk_X8_ways_141 i15 K46 S34) ∧ (¬ (6 : Int32) ≤ i33 → gI S34 a0 6 14 (fun i39 => ((300 : Int32) < i39 → wpk_X8_ways_141 i15 K46 S34) ∧ (¬ (300 : Int32) < i39 → (((v1 >>> (i33 &&& 31)) &&& (1 : Int32)) = (1 : Int32) → ∃ n : Nat, wpL (fun (K94 : (Int32 × PS) → Prop) (q : Int32 × PS) => wpb_X8_ways_94 a0 i15 i33 K66 K94 q.1 q.2) n ((0 : Int32), S34)) ∧ (¬ ((v1 >>> (i33 &&& 31)) &&& (1 : Int32)) = (1 : Int32) → ∀ i43 : Int32, i43 = i33 + (1 : Int32) → K66 (i43, S34)))))
def wpb_X8_ways_46 (a0 : Nat) (v1 : Int32) (Post : Int32 → PS → Prop) (K46 : (Int32 × PS) → Prop) (i15 : Int32) (S16 : PS) : Prop :=
  gI S16 a0 6 14 (fun i18 => (i18 ≤ i15 → wpk_X8_ways_147 a0 Post S16) ∧ (¬ i18 ≤ i15 → gI S16 a0 6 14 (fun i30 => ((300 : Int32) < i30 → wpk_X8_ways_147 a0 Post S16) ∧ (¬ (300 : Int32) < i30 → ∃ n : Nat, wpL (fun (K66 : (Int32 × PS) → Prop) (q : Int32 × PS) => wpb_X8_ways_66 a0 v1 i15 K46 K66 q.1 q.2) n ((0 : Int32), S16)))))
def wpb_X8_ways_21 (a0 : Nat) (v1 : Int32) (Post : Int32 → PS → Prop) (K21 : (Int32 × PS) → Prop) (i9 : Int32) (S10 : PS) : Prop :=
  ((12 : Int32) ≤ i9 → rc S10 a0 6 (wp_X8_addWay S10 a0 (fun S12 => ∃ n : Nat, wpL (fun (K46 : (Int32 × PS) → Prop) (q : Int32 × PS) => wpb_X8_ways_46 a0 v1 Post K46 q.1 q.2) n ((0 : Int32), S12)))) ∧ (¬ (12 : Int32) ≤ i9 → gR S10 a0 6 11 (fun a73 => sI S10 a73 i9 i9 (fun S78 => ∀ i79 : Int32, i79 = i9 + (1 : Int32) → K21 (i79, S78))))
def wp_X8_ways (S : PS) (a0 : Nat) (v1 : Int32) (Post : Int32 → PS → Prop) : Prop :=
  wp_X8_areDrafts v1 (fun i1 => (i1 = 0 → Post (-2 : Int32) S) ∧ (¬ i1 = 0 → rc S a0 6 (wp_X8_layAll S a0 (fun S3 => pF S3 a0 6 14 (.int (0 : Int32)) (fun S8 => ∃ n : Nat, wpL (fun (K21 : (Int32 × PS) → Prop) (q : Int32 × PS) => wpb_X8_ways_21 a0 v1 Post K21 q.1 q.2) n ((0 : Int32), S8))))))
def wpb_X8_untilHome_26 (a0 : Nat) (v1 : Int32) (i6 : Int32) (Post : Int32 → PS → Prop) (K26 : (Int32 × PS) → Prop) (i12 : Int32) (S13 : PS) : Prop :=
  (i6 ≤ i12 → (i6 ≤ i12 → Post (-6 : Int32) S13) ∧ (¬ i6 ≤ i12 → Post i12 S13)) ∧ (¬ i6 ≤ i12 → rc S13 a0 6 (wp_X8_homeNow S13 a0 (fun i16 => ((12 : Int32) ≤ i16 → (i6 ≤ i12 → Post (-6 : Int32) S13) ∧ (¬ i6 ≤ i12 → Post i12 S13)) ∧ (¬ (12 : Int32) ≤ i16 → rc S13 a0 6 (wp_X8_weaveOnce S13 a0 v1 (fun S21 => ∀ i24 : Int32, i24 = i12 + (1 : Int32) → K26 (i24, S21)))))))
def wp_X8_untilHome (S : PS) (a0 : Nat) (v1 : Int32) (Post : Int32 → PS → Prop) : Prop :=
  wp_X8_isDraft v1 (fun i1 => (i1 = 0 → Post (-1 : Int32) S) ∧ (¬ i1 = 0 → rc S a0 6 (wp_X8_lay S a0 v1 (fun S3 => rc S3 a0 6 (wp_X8_orderOf S3 a0 v1 (fun i6 => rc S3 a0 6 (wp_X8_takeThreads S3 a0 (fun S9 => ∃ n : Nat, wpL (fun (K26 : (Int32 × PS) → Prop) (q : Int32 × PS) => wpb_X8_untilHome_26 a0 v1 i6 Post K26 q.1 q.2) n ((0 : Int32), S9)))))))))
def wpb_X8_bestDraft_19 (a0 : Nat) (v1 : Int32) (Post : Int32 → PS → Prop) (K19 : (Int32 × Int32 × Int32 × PS) → Prop) (i3 : Int32) (i4 : Int32) (i5 : Int32) (S6 : PS) : Prop :=
  ((6 : Int32) ≤ i3 → (v1 = 0 → Post i5 S6) ∧ (¬ v1 = 0 → Post i4 S6)) ∧ (¬ (6 : Int32) ≤ i3 → rc S6 a0 6 (wp_X8_lay S6 a0 i3 (fun S9 => rc S9 a0 6 (wp_X8_takeThreads S9 a0 (fun S12 => rc S12 a0 6 (wp_X8_weaveOnce S12 a0 i3 (fun S15 => rc S15 a0 6 (wp_X8_homeNow S15 a0 (fun i18 => (i18 ≤ i4 → rc S15 a0 6 (wp_X8_homeNow S15 a0 (fun i22 => (i22 ≤ i4 → ∀ i26 : Int32, i26 = i3 + (1 : Int32) → K19 (i26, i4, i5, S15)) ∧ (¬ i22 ≤ i4 → rc S15 a0 6 (wp_X8_homeNow S15 a0 (fun i27 => ∀ i30 : Int32, i30 = i3 + (1 : Int32) → K19 (i30, i27, i5, S15))))))) ∧ (¬ i18 ≤ i4 → rc S15 a0 6 (wp_X8_homeNow S15 a0 (fun i31 => (i31 ≤ i4 → ∀ i35 : Int32, i35 = i3 + (1 : Int32) → K19 (i35, i4, i3, S15)) ∧ (¬ i31 ≤ i4 → rc S15 a0 6 (wp_X8_homeNow S15 a0 (fun i36 => ∀ i39 : Int32, i39 = i3 + (1 : Int32) → K19 (i39, i36, i3, S15))))))))))))))))
def wp_X8_bestDraft (S : PS) (a0 : Nat) (v1 : Int32) (Post : Int32 → PS → Prop) : Prop :=
  wp_X8_within v1 (0 : Int32) (1 : Int32) (fun i1 => (i1 = 0 → Post (-2 : Int32) S) ∧ (¬ i1 = 0 → ∃ n : Nat, wpL (fun (K19 : (Int32 × Int32 × Int32 × PS) → Prop) (q : Int32 × Int32 × Int32 × PS) => wpb_X8_bestDraft_19 a0 v1 Post K19 q.1 q.2.1 q.2.2.1 q.2.2.2) n ((0 : Int32), (-1 : Int32), (0 : Int32), S)))
def wp_X8_codeAt (v0 : Int64) (v2 : Int32) (Post : Int32 → Prop) : Prop :=
  Post (((uShrL v0 ((8 : Int32) * v2)) &&& (255 : Int64))).toInt32
def wpk_X8_charactersIn_80 (i4 : Int32) (K48 : (Int32 × Int32) → Prop) (i8 : Int32) : Prop :=
  ∀ i9 : Int32, i9 = i4 + (1 : Int32) → K48 (i9, i8)
def wpb_X8_charactersIn_48 (v0 : Int64) (i2 : Int32) (Post : Int32 → Prop) (K48 : (Int32 × Int32) → Prop) (i4 : Int32) (i5 : Int32) : Prop :=
  (i2 ≤ i4 → (i5 = 0 → Post (0 : Int32)) ∧ (¬ i5 = 0 → Post i2)) ∧ (¬ i2 ≤ i4 → (i5 = 0 → wpk_X8_charactersIn_80 i4 K48 (0 : Int32)) ∧ (¬ i5 = 0 → wp_X8_codeAt v0 i4 (fun i11 => wp_X8_within i11 (33 : Int32) (126 : Int32) (fun i12 => (i12 = 0 → wpk_X8_charactersIn_80 i4 K48 (0 : Int32)) ∧ (¬ i12 = 0 → wpk_X8_charactersIn_80 i4 K48 (1 : Int32))))))
def wpk_X8_charactersIn_45 (v0 : Int64) (i2 : Int32) (Post : Int32 → Prop) (i3 : Int32) : Prop :=
  ∃ n : Nat, wpL (fun (K48 : (Int32 × Int32) → Prop) (q : Int32 × Int32) => wpb_X8_charactersIn_48 v0 i2 Post K48 q.1 q.2) n ((0 : Int32), i3)
def wpk_X8_charactersIn_22 (v0 : Int64) (Post : Int32 → Prop) (i2 : Int32) : Prop :=
  (i2 = (8 : Int32) → wpk_X8_charactersIn_45 v0 i2 Post (1 : Int32)) ∧ (¬ i2 = (8 : Int32) → ((lg_cmp (uShrL v0 ((8 : Int32) * i2)) (0 : Int64)) = 0 → wpk_X8_charactersIn_45 v0 i2 Post (1 : Int32)) ∧ (¬ (lg_cmp (uShrL v0 ((8 : Int32) * i2)) (0 : Int64)) = 0 → wpk_X8_charactersIn_45 v0 i2 Post (0 : Int32)))
def wpb_X8_charactersIn_2 (v0 : Int64) (Post : Int32 → Prop) (K2 : (Int32) → Prop) (i1 : Int32) : Prop :=
  ((8 : Int32) ≤ i1 → wpk_X8_charactersIn_22 v0 Post i1) ∧ (¬ (8 : Int32) ≤ i1 → wp_X8_codeAt v0 i1 (fun i18 => (i18 = 0 → wpk_X8_charactersIn_22 v0 Post i1) ∧ (¬ i18 = 0 → ∀ i20 : Int32, i20 = i1 + (1 : Int32) → K2 i20)))
def wp_X8_charactersIn (v0 : Int64) (Post : Int32 → Prop) : Prop :=
  ∃ n : Nat, wpL (fun (K2 : (Int32) → Prop) (q : Int32) => wpb_X8_charactersIn_2 v0 Post K2 q) n (0 : Int32)
def wpb_X8_write_31 (a0 : Nat) (v1 : Int64) (Post : Int32 → PS → Prop) (K31 : (Int32 × PS) → Prop) (i8 : Int32) (S9 : PS) : Prop :=
  (i8 < 0 → gI S9 a0 6 6 (fun i12 => Post i12 S9)) ∧ (¬ i8 < 0 → gR S9 a0 6 5 (fun a15 => gI S9 a0 6 6 (fun i18 => wp_X8_codeAt v1 i8 (fun i20 => sI S9 a15 i18 i20 (fun S24 => gI S24 a0 6 6 (fun i26 => pF S24 a0 6 6 (.int (i26 + (1 : Int32))) (fun S30 => ∀ i31 : Int32, i31 = i8 + (-1 : Int32) → K31 (i31, S30))))))))
def wp_X8_write (S : PS) (a0 : Nat) (v1 : Int64) (Post : Int32 → PS → Prop) : Prop :=
  wp_X8_charactersIn v1 (fun i1 => (i1 = 0 → Post (-2 : Int32) S) ∧ (¬ i1 = 0 → gI S a0 6 6 (fun i4 => ((i4 + i1) ≤ (40 : Int32) → ∀ i7 : Int32, i7 = (i1 - (1 : Int32)) → ∃ n : Nat, wpL (fun (K31 : (Int32 × PS) → Prop) (q : Int32 × PS) => wpb_X8_write_31 a0 v1 Post K31 q.1 q.2) n (i7, S)) ∧ (¬ (i4 + i1) ≤ (40 : Int32) → Post (-4 : Int32) S))))
def wp_X8_wipe (S : PS) (a0 : Nat) (Post : Int32 → PS → Prop) : Prop :=
  gI S a0 6 6 (fun i2 => pF S a0 6 6 (.int (0 : Int32)) (fun S6 => Post i2 S6))
def wp_X8_fault (S : PS) (a0 : Nat) (Post : Int32 → PS → Prop) : Prop :=
  rc S a0 6 (wp_X8_findFault S a0 (fun i1 S2 => Post i1 S2))
end
section
theorem zz_last : True := trivial
end
