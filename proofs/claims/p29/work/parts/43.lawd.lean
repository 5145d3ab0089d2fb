/-! ===== what the law is told of the object ===== -/
def tP (v : LM) : Nat → Int64
  | 0 => 53
  | p + 1 => ((31 * tP v p + 100 * (nI (shF v p)).toInt64) + 10 * (nI (thF v p)).toInt64) + (nI (cbp v p)).toInt64
def prI (v : LM) (d e : Nat) : Int32 := if e < (drF v d).length then nI ((drF v d).getD e 0) else -1
def tE (v : LM) (d : Nat) (j : Int64) : Nat → Int64
  | 0 => j
  | e + 1 => 13 * tE v d j e + (prI v d e).toInt64
def tK (v : LM) (j : Int64) : Nat → Int64
  | 0 => j
  | k + 1 => tE v k (31 * tK v j k + (nI (tiF v k)).toInt64) 24
def tol (v : LM) : Int64 := 31 * (31 * tK v (tP v 12) 6 + (pdF v).toInt64) + (pkF v).toInt64
section LD
variable {S S' : PS} {tg tg' : Nat → Nat × Nat} {x : Nat} {ad : Nat → Nat} {f g : Nat → Option Nat} {v : LM} {hist : List LM} {sl : Nat → Option LM} {pad : List Nat} {P : Int32 → Prop}
theorem tk_place0 (h : TkF S tg x ad f g v hist sl pad) {p : Nat} (hp : p < 12) (hP : P (nI (shF v p))) : wp_X7_place S x (nI p) (nI 0) P := tk_place h hp (fun c => absurd c (by decide)) (fun _ => hP) (fun c => absurd c (by decide)) (fun c => absurd c (by decide)) (fun c => absurd c (by decide))
theorem tk_place1 (h : TkF S tg x ad f g v hist sl pad) {p : Nat} (hp : p < 12) (hP : P (nI (thF v p))) : wp_X7_place S x (nI p) (nI 1) P := tk_place h hp (fun c => absurd c (by decide)) (fun c => absurd c (by decide)) (fun _ => hP) (fun c => absurd c (by decide)) (fun c => absurd c (by decide))
theorem tk_place2 (h : TkF S tg x ad f g v hist sl pad) {p : Nat} (hp : p < 12) (hP : P (nI (cbp v p))) : wp_X7_place S x (nI p) (nI 2) P := tk_place h hp (fun c => absurd c (by decide)) (fun c => absurd c (by decide)) (fun c => absurd c (by decide)) (fun _ => hP) (fun c => absurd c (by decide))
theorem tk_place3 (h : TkF S tg x ad f g v hist sl pad) {p : Nat} (hp : p < 12) (hP : P (nI (bs (fun t => ra v t p) 6))) : wp_X7_place S x (nI p) (nI 3) P := tk_place h hp (fun c => absurd c (by decide)) (fun c => absurd c (by decide)) (fun c => absurd c (by decide)) (fun c => absurd c (by decide)) (fun _ => hP)
theorem tk_treadle0 (h : TkF S tg x ad f g v hist sl pad) {t : Nat} (ht : t < 6) (hP : P (nI (tiF v t))) : wp_X7_treadle S x (nI t) (nI 0) P := tk_treadle h ht (fun c => absurd c (by decide)) (fun _ => hP) (fun c => absurd c (by decide))
theorem tk_treadle1 (h : TkF S tg x ad f g v hist sl pad) {t : Nat} (ht : t < 6) (hP : P (nI (bs (ra v t) 12))) : wp_X7_treadle S x (nI t) (nI 1) P := tk_treadle h ht (fun c => absurd c (by decide)) (fun c => absurd c (by decide)) (fun _ => hP)
theorem tk_count0 (h : TkF S tg x ad f g v hist sl pad) (hP : P (nI (hom v))) : wp_X7_count S x (nI 0) P := tk_count h (fun c => absurd c (by decide)) (fun _ => hP) (fun c => absurd c (by decide)) (fun c => absurd c (by decide)) (fun c => absurd c (by decide)) (fun c => absurd c (by decide)) (fun c => absurd c (by decide)) (fun c => absurd c (by decide))
theorem tk_count1 (h : TkF S tg x ad f g v hist sl pad) (hP : P (pdF v)) : wp_X7_count S x (nI 1) P := tk_count h (fun c => absurd c (by decide)) (fun c => absurd c (by decide)) (fun _ => hP) (fun c => absurd c (by decide)) (fun c => absurd c (by decide)) (fun c => absurd c (by decide)) (fun c => absurd c (by decide)) (fun c => absurd c (by decide))
theorem tk_count2 (h : TkF S tg x ad f g v hist sl pad) (hP : P (pkF v)) : wp_X7_count S x (nI 2) P := tk_count h (fun c => absurd c (by decide)) (fun c => absurd c (by decide)) (fun c => absurd c (by decide)) (fun _ => hP) (fun c => absurd c (by decide)) (fun c => absurd c (by decide)) (fun c => absurd c (by decide)) (fun c => absurd c (by decide))
theorem tk_count3 (h : TkF S tg x ad f g v hist sl pad) (hP : P (nI (bs (nvr v 6) 12))) : wp_X7_count S x (nI 3) P := tk_count h (fun c => absurd c (by decide)) (fun c => absurd c (by decide)) (fun c => absurd c (by decide)) (fun c => absurd c (by decide)) (fun _ => hP) (fun c => absurd c (by decide)) (fun c => absurd c (by decide)) (fun c => absurd c (by decide))
theorem tk_count4 (h : TkF S tg x ad f g v hist sl pad) (hP : P (nI (bs (fun d => decide (0 < (drF v d).length)) 6))) : wp_X7_count S x (nI 4) P := tk_count h (fun c => absurd c (by decide)) (fun c => absurd c (by decide)) (fun c => absurd c (by decide)) (fun c => absurd c (by decide)) (fun c => absurd c (by decide)) (fun _ => hP) (fun c => absurd c (by decide)) (fun c => absurd c (by decide))
theorem tk_pressI (h : TkF S tg x ad f g v hist sl pad) {d e : Nat} (hd : d < 6) (he : e < 1000) (hP : P (prI v d e)) : wp_X7_press S x (nI d) (nI e) P := by
  unfold prI at hP
  by_cases c : e < (drF v d).length
  · rw [if_pos c] at hP
    exact tk_press h hd c hP
  · rw [if_neg c] at hP
    exact tk_press_no2 h hd (Or.inr (nI_le (by omega) (by omega))) hP
theorem wq_told (h : TkF S tg x ad f g v hist sl pad) {Post : Int64 → Prop} (hP : Post (tol v)) : wp_L_told S x Post := by
  have hx := h.2.1
  unfold wp_L_told
  refine wpL_for 12 (fun k j => j = tP v k) rfl ?_ ?_
  · intro j hj K
    show wpb_L_told_6 _ _ _ _ (nI 12) j
    unfold wpb_L_told_6
    refine br_t (nle_re 12) ?_
    refine wpL_for 6 (fun k j => j = tK v (tP v 12) k) hj ?_ ?_
    · intro j hj K
      show wpb_L_told_58 _ _ _ _ (nI 6) j
      unfold wpb_L_told_58
      refine br_t (nle_re 6) (rc_of hx (tk_count1 h (rc_of hx (tk_count2 h ?_))))
      rw [hj]; exact hP
    · intro k j hk hj K hK
      show wpb_L_told_58 _ _ _ _ (nI k) j
      unfold wpb_L_told_58
      refine br_f (nle_ge hk (by decide)) (rc_of hx (tk_treadle0 h hk ?_))
      intro j16 e16
      refine wpL_for 24 (fun e j => j = tE v k j16 e) rfl ?_ ?_
      · intro j2 hj2 K2
        show wpb_L_told_81 _ _ _ _ _ (nI 24) j2
        unfold wpb_L_told_81
        refine br_t (nle_re 24) ?_
        intro i20 e20
        rw [e20, nI_add]
        refine hK _ ?_
        rw [hj2, e16, hj]; rfl
      · intro e j2 he hj2 K2 hK2
        show wpb_L_told_81 _ _ _ _ _ (nI e) j2
        unfold wpb_L_told_81
        refine br_f (nle_ge he (by decide)) (rc_of hx (tk_pressI h hk (by omega) ?_))
        intro j24 e24 i25 e25
        rw [e25, nI_add]
        refine hK2 _ ?_
        rw [e24, hj2]; rfl
  · intro k j hk hj K hK
    show wpb_L_told_6 _ _ _ _ (nI k) j
    unfold wpb_L_told_6
    refine br_f (nle_ge hk (by decide)) (rc_of hx (tk_place0 h hk (rc_of hx (tk_place1 h hk (rc_of hx (tk_place2 h hk ?_))))))
    intro j37 e37 i38 e38
    rw [e38, nI_add]
    refine hK _ ?_
    rw [e37, hj]; rfl
end LD
/-! ===== the texts that the law writes ===== -/
def tx1 (t : Nat × Nat) : List Nat := (if t.1 < 6 then 97 + t.1 else 65 + t.1 - 6) :: (if 1 < t.2 then [48 + t.2] else [])
def rpq (t : Nat × Nat) : List Nat := List.replicate t.2 t.1
def txs : List (Nat × Nat) → List Nat
  | [] => []
  | t :: T => tx1 t ++ txs T
def rps : List (Nat × Nat) → List Nat
  | [] => []
  | t :: T => rpq t ++ rps T
def okT (t : Nat × Nat) : Prop := t.1 < 12 ∧ 1 ≤ t.2 ∧ t.2 ≤ 9
theorem txs_snoc (t : Nat × Nat) : ∀ T, txs (T ++ [t]) = txs T ++ tx1 t
  | [] => by show tx1 t ++ [] = [] ++ tx1 t; rw [List.append_nil, List.nil_append]
  | u :: T => by
    show tx1 u ++ txs (T ++ [t]) = (tx1 u ++ txs T) ++ tx1 t
    rw [txs_snoc t T, List.append_assoc]
theorem rps_snoc (t : Nat × Nat) : ∀ T, rps (T ++ [t]) = rps T ++ rpq t
  | [] => by show rpq t ++ [] = [] ++ rpq t; rw [List.append_nil, List.nil_append]
  | u :: T => by
    show rpq u ++ rps (T ++ [t]) = (rpq u ++ rps T) ++ rpq t
    rw [rps_snoc t T, List.append_assoc]
theorem prO_ch {p : Nat} (hp : p < 12) : prO (if p < 6 then 97 + p else 65 + p - 6) = some p := by
  unfold prO
  by_cases c : p < 6
  · rw [if_pos c, if_pos (by omega)]; congr 1; omega
  · rw [if_neg c, if_neg (by omega), if_pos (by omega)]; congr 1; omega
theorem prO_dg {n : Nat} (h2 : n ≤ 9) : prO (48 + n) = none := by
  unfold prO
  rw [if_neg (by omega), if_neg (by omega)]
theorem dg_dg {n : Nat} (h1 : 1 < n) (h2 : n ≤ 9) : dg (48 + n) = n := by
  unfold dg
  rw [if_pos (by omega)]; omega
theorem pz_txs : ∀ (T : List (Nat × Nat)), (∀ t, t ∈ T → okT t) → ∀ (i : Nat) (la : Option Nat) (l : List Nat), l.length ≤ 24 → (l.length + (rps T).length ≤ 24 → pz (txs T) i la l = (none, l ++ rps T)) ∧ (24 < l.length + (rps T).length → ∃ j, j < i + (txs T).length ∧ (pz (txs T) i la l).1 = some j)
  | [], _, i, la, l, hl => by
    refine ⟨fun _ => ?_, fun h => ?_⟩
    · show pz [] i la l = (none, l ++ [])
      rw [List.append_nil, pz.eq_def]
    · exact absurd h (by show ¬ 24 < l.length + 0; omega)
  | t :: T, hT, i, la, l, hl => by
    obtain ⟨h1, h2, h3⟩ := hT t (List.mem_cons_self ..)
    have ih := pz_txs T (fun u hu => hT u (List.mem_cons_of_mem _ hu))
    have hc := prO_ch h1
    have elen : (rps (t :: T)).length = t.2 + (rps T).length := by
      show (rpq t ++ rps T).length = _
      rw [List.length_append]; unfold rpq; rw [List.length_replicate]
    rw [elen]
    have ea : ∀ l' : List Nat, l' ++ rps (t :: T) = (l' ++ rpq t) ++ rps T := fun l' => by
      show l' ++ (rpq t ++ rps T) = _
      rw [List.append_assoc]
    by_cases c1 : 1 < t.2
    · have et : txs (t :: T) = (if t.1 < 6 then 97 + t.1 else 65 + t.1 - 6) :: (48 + t.2) :: txs T := by
        show tx1 t ++ txs T = _
        unfold tx1; rw [if_pos c1]; rfl
      have er : l ++ rpq t = (l ++ [t.1]) ++ List.replicate (t.2 - 1) t.1 := by
        unfold rpq
        obtain ⟨n, hn⟩ : ∃ n, t.2 = n + 1 := ⟨t.2 - 1, by omega⟩
        rw [hn, List.append_assoc]; rfl
      rw [et, pz_p hc]
      by_cases c2 : l.length + 1 ≤ 24
      · rw [if_pos c2, pz_d (prO_dg h3), dg_dg c1 h3]
        have el : (l ++ [t.1]).length = l.length + 1 := by rw [List.length_append]; rfl
        rw [el]
        by_cases c3 : l.length + 1 + (t.2 - 1) ≤ 24
        · rw [if_pos ⟨c1, c3⟩, ← er]
          have el2 : (l ++ rpq t).length = l.length + t.2 := by rw [List.length_append]; unfold rpq; rw [List.length_replicate]
          obtain ⟨g1, g2⟩ := ih (i + 1 + 1) none (l ++ rpq t) (by omega)
          rw [el2] at g1 g2
          refine ⟨fun h => ?_, fun h => ?_⟩
          · rw [g1 (by omega), ea]
          · obtain ⟨j, hj, e⟩ := g2 (by omega)
            refine ⟨j, ?_, e⟩
            show j < i + ((txs T).length + 1 + 1)
            omega
        · rw [if_neg (fun c => c3 c.2)]
          refine ⟨fun h => by omega, fun _ => ⟨i + 1, ?_, rfl⟩⟩
          show i + 1 < i + ((txs T).length + 1 + 1)
          omega
      · rw [if_neg c2]
        refine ⟨fun h => by omega, fun _ => ⟨i, ?_, rfl⟩⟩
        show i < i + ((txs T).length + 1 + 1)
        omega
    · have et : txs (t :: T) = (if t.1 < 6 then 97 + t.1 else 65 + t.1 - 6) :: txs T := by
        show tx1 t ++ txs T = _
        unfold tx1; rw [if_neg c1]; rfl
      have e1 : t.2 = 1 := by omega
      have er : l ++ rpq t = l ++ [t.1] := by unfold rpq; rw [e1]; rfl
      rw [et, pz_p hc]
      have el : (l ++ [t.1]).length = l.length + 1 := by rw [List.length_append]; rfl
      by_cases c2 : l.length + 1 ≤ 24
      · rw [if_pos c2]
        obtain ⟨g1, g2⟩ := ih (i + 1) (some t.1) (l ++ [t.1]) (by omega)
        rw [el] at g1 g2
        refine ⟨fun h => ?_, fun h => ?_⟩
        · rw [g1 (by omega), ea, er]
        · obtain ⟨j, hj, e⟩ := g2 (by omega)
          refine ⟨j, ?_, e⟩
          show j < i + ((txs T).length + 1)
          omega
      · rw [if_neg c2]
        refine ⟨fun h => by omega, fun _ => ⟨i, ?_, rfl⟩⟩
        show i < i + ((txs T).length + 1)
        omega
theorem txs_len : ∀ T : List (Nat × Nat), T.length ≤ (txs T).length ∧ (txs T).length ≤ 2 * T.length
  | [] => ⟨Nat.le_refl _, Nat.le_refl _⟩
  | t :: T => by
    have := txs_len T
    show T.length + 1 ≤ (tx1 t ++ txs T).length ∧ (tx1 t ++ txs T).length ≤ 2 * (T.length + 1)
    rw [List.length_append]
    have h1 : 1 ≤ (tx1 t).length ∧ (tx1 t).length ≤ 2 := by
      unfold tx1
      by_cases c : 1 < t.2
      · rw [if_pos c]; exact ⟨Nat.le_of_ble_eq_true rfl, Nat.le_refl _⟩
      · rw [if_neg c]; exact ⟨Nat.le_refl _, Nat.le_of_ble_eq_true rfl⟩
    omega
theorem flt_ok {T : List (Nat × Nat)} (hT : ∀ t, t ∈ T → okT t) (h0 : T ≠ []) (hl : (rps T).length ≤ 24) : flt (txs T) = -6 ∧ (pzP (txs T)).2 = rps T := by
  have h1 := (pz_txs T hT 0 none [] (by decide)).1 (by show 0 + _ ≤ 24; omega)
  have h2 : pzP (txs T) = (none, rps T) := h1
  have hn : 0 < T.length := List.length_pos_iff.mpr h0
  have := (txs_len T).1
  refine ⟨?_, by rw [h2]⟩
  unfold flt
  rw [if_neg (by omega), h2]
theorem flt_bad {T : List (Nat × Nat)} (hT : ∀ t, t ∈ T → okT t) (h0 : T ≠ []) (h7 : T.length ≤ 7) (hl : 24 < (rps T).length) : ¬ flt (txs T) = -6 := by
  obtain ⟨j, hj, e⟩ := (pz_txs T hT 0 none [] (by decide)).2 (by show 24 < 0 + _; omega)
  have e : (pzP (txs T)).1 = some j := e
  have hn : 0 < T.length := List.length_pos_iff.mpr h0
  have := txs_len T
  unfold flt
  rw [if_neg (by omega), e]
  show ¬ nI j = -6
  intro c
  have h1 : (0 : Int32) ≤ nI j := nI_pos' (by omega)
  rw [c] at h1
  exact absurd h1 (by decide)
theorem rps_lt : ∀ T : List (Nat × Nat), (∀ t, t ∈ T → okT t) → ∀ k, k < (rps T).length → (rps T).getD k 0 < 12
  | [], _, k, hk => absurd hk (Nat.not_lt_zero _)
  | t :: T, hT, k, hk => by
    have h1 := (hT t (List.mem_cons_self ..)).1
    show (rpq t ++ rps T).getD k 0 < 12
    have hk : k < (rpq t ++ rps T).length := hk
    rw [List.length_append] at hk
    rcases Nat.lt_or_ge k (rpq t).length with z | z
    · rw [getD_app_l z]
      unfold rpq at z ⊢
      rw [List.length_replicate] at z
      rw [rep_getD z]; exact h1
    · rw [getD_app_m z]
      exact rps_lt T (fun u hu => hT u (List.mem_cons_of_mem _ hu)) _ (by omega)
theorem sign_all : (List.range 127).all (fun u => decide (u < 33) || (signs u == 1 && wtx u == [u])) = true := by decide +kernel
theorem sign1 {u : Nat} (h1 : 33 ≤ u) (h2 : u < 127) : signs u = 1 ∧ wtx u = [u] := by
  have := List.all_eq_true.mp sign_all u (List.mem_range.mpr h2)
  have e : ¬ u < 33 := by omega
  simpa [e] using this
def wv (b : Int32) : Nat → Int32
  | 0 => b
  | k + 1 => wv b k / nI 5 + nI 1013 * (nI k + nI 1)
def wt1 (i : Int32) : Nat × Nat := (lw i 12, if lw (i >>> (nI 4 &&& 31)) 3 = 0 then (if lw (i >>> (nI 9 &&& 31)) 6 = 0 then 2 + lw (i >>> (nI 6 &&& 31)) 8 else 2 + lw (i >>> (nI 6 &&& 31)) 3) else 1)
def wts (b : Int32) : Nat → List (Nat × Nat)
  | 0 => []
  | k + 1 => wts b k ++ [wt1 (wv b k)]
theorem wt1_ok (i : Int32) : okT (wt1 i) := by
  have h1 := lw_lt (x := i) (n := 12) (by decide)
  have h2 := lw_lt (x := i >>> (nI 6 &&& 31)) (n := 8) (by decide)
  have h3 := lw_lt (x := i >>> (nI 6 &&& 31)) (n := 3) (by decide)
  unfold okT wt1
  refine ⟨h1, ?_⟩
  show 1 ≤ (if lw (i >>> (nI 4 &&& 31)) 3 = 0 then (if lw (i >>> (nI 9 &&& 31)) 6 = 0 then 2 + lw (i >>> (nI 6 &&& 31)) 8 else 2 + lw (i >>> (nI 6 &&& 31)) 3) else 1) ∧ (if lw (i >>> (nI 4 &&& 31)) 3 = 0 then (if lw (i >>> (nI 9 &&& 31)) 6 = 0 then 2 + lw (i >>> (nI 6 &&& 31)) 8 else 2 + lw (i >>> (nI 6 &&& 31)) 3) else 1) ≤ 9
  split
  · split <;> omega
  · omega
theorem wts_ok (b : Int32) : ∀ k, ∀ t, t ∈ wts b k → okT t
  | 0, t, h => by cases h
  | k + 1, t, h => by
    have h : t ∈ wts b k ++ [wt1 (wv b k)] := h
    rw [List.mem_append, List.mem_singleton] at h
    rcases h with h | h
    · exact wts_ok b k t h
    · rw [h]; exact wt1_ok _
theorem wts_len (b : Int32) : ∀ k, (wts b k).length = k
  | 0 => rfl
  | k + 1 => by
    show (wts b k ++ [wt1 (wv b k)]).length = _
    rw [List.length_append, wts_len b k]; rfl
theorem rps_wts (b : Int32) (k : Nat) : rps (wts b (k + 1)) = rps (wts b k) ++ rpq (wt1 (wv b k)) := rps_snoc _ _
theorem rps_wts_len (b : Int32) (k : Nat) : (rps (wts b (k + 1))).length = (rps (wts b k)).length + (wt1 (wv b k)).2 := by
  rw [rps_wts, List.length_append]; unfold rpq; rw [List.length_replicate]
theorem rps_wts_le (b : Int32) : ∀ k, k ≤ (rps (wts b k)).length ∧ (rps (wts b k)).length ≤ 9 * k
  | 0 => ⟨Nat.le_refl _, Nat.le_refl _⟩
  | k + 1 => by
    have := rps_wts_le b k
    have h := wt1_ok (wv b k)
    rw [rps_wts_len]
    have := h.2.1
    have := h.2.2
    omega
/-- the draft that is made of a text: its presses -/
def wrw (b e : Int32) : List Nat := rps (wts b (1 + lw e 7))
/-- the law's own arrays stay as they were, but one -/
def RK (ar : Nat) (S : PS) (tg : Nat → Nat × Nat) (S' : PS) (tg' : Nat → Nat × Nat) : Prop := ∀ b, S b ≠ oJ → 40 ≤ (tg b).2 → tg' b = tg b ∧ S' b ≠ oJ ∧ (b ≠ ar → S' b = S b)
theorem RK.ck {ar : Nat} {S S' : PS} {tg tg' : Nat → Nat × Nat} (h : CK 40 S tg S' tg') : RK ar S tg S' tg' := fun b hb h2 => by
  obtain ⟨a1, a2⟩ := h b hb h2
  exact ⟨a1, by rw [a2]; exact hb, fun _ => a2⟩
theorem RK.rf {ar : Nat} {S : PS} {tg : Nat → Nat × Nat} : RK ar S tg S tg := RK.ck CK.rf
theorem RK.tr {ar : Nat} {S S1 S2 : PS} {tg tg1 tg2 : Nat → Nat × Nat} (h1 : RK ar S tg S1 tg1) (h2 : RK ar S1 tg1 S2 tg2) : RK ar S tg S2 tg2 := fun b hb h => by
  obtain ⟨a1, a2, a3⟩ := h1 b hb h
  obtain ⟨c1, c2, c3⟩ := h2 b a2 (by rw [a1]; exact h)
  exact ⟨c1.trans a1, c2, fun hn => (c3 hn).trans (a3 hn)⟩
theorem RK.one {ar : Nat} {S S' : PS} {tg : Nat → Nat × Nat} (hl : S' ar ≠ oJ) (h : ∀ b, b ≠ ar → S' b = S b) : RK ar S tg S' tg := fun b hb _ => ⟨rfl, by
  by_cases e : b = ar
  · rw [e]; exact hl
  · rw [h b e]; exact hb, h b⟩
section LW
variable {S S' : PS} {tg tg' : Nat → Nat × Nat} {x : Nat} {ad : Nat → Nat} {f g : Nat → Option Nat} {v : LM} {hist : List LM} {sl : Nat → Option LM} {pad : List Nat} {P : Int32 → PS → Prop} {ar : Nat}
/-- one character -/
theorem tk_write1 {u : Nat} (h : TkF S tg x ad f g v hist sl pad) (h1 : 33 ≤ u) (h2 : u < 127) (hl : pad.length < 40) (hP : ∀ r S', TkF S' tg x ad f g v hist sl (pad ++ [u]) → CK 40 S tg S' tg → P r S') : wp_X7_write S x ((nI u).toInt64) P := by
  rw [nI_l (by omega)]
  obtain ⟨s1, s2⟩ := sign1 h1 h2
  refine tk_write h (by omega) (by rw [s1]; decide) (by rw [s1]; omega) (fun S' h' c' => ?_)
  rw [s2] at h'
  exact hP _ _ h' c'
/-- the row of presses goes on -/
theorem wq_w132 {b : Int32} {k : Nat} {S0 : PS} {K14 : Int32 × Int32 × Int32 × PS → Prop} {L : List Nat} {p t : Nat} {R0 : Nat → Int32} (hL : L.length ≤ 1000) (ht : t ≤ 9) (hr : AF S0 ar 24 R0) (hR : ∀ j, j < 24 → j < L.length → R0 j = nI (L.getD j 0)) (hK : ∀ S' R, AF S' ar 24 R → (∀ j, j < 24 → j < (L ++ List.replicate t p).length → R j = nI ((L ++ List.replicate t p).getD j 0)) → (∀ b, b ≠ ar → S' b = S0 b) → K14 (nI k + nI 1, b / nI 5 + nI 1013 * (nI k + nI 1), nI (L.length + t), S')) : wpk_L_writes_129 ar (nI k) b (nI L.length) (nI p) (nI t) K14 S0 := by
  unfold wpk_L_writes_129
  refine wpL_for t (fun j q => q.1 = nI (L.length + j) ∧ (∃ R, AF q.2 ar 24 R ∧ ∀ i, i < 24 → i < (L ++ List.replicate j p).length → R i = nI ((L ++ List.replicate j p).getD i 0)) ∧ ∀ b, b ≠ ar → q.2 b = S0 b) ⟨rfl, ⟨R0, hr, fun i h1 h2 => ?_⟩, fun _ _ => rfl⟩ ?_ ?_
  · rw [List.replicate_zero, List.append_nil] at h2 ⊢
    exact hR i h1 h2
  · intro q hq K
    obtain ⟨m, T⟩ := q
    obtain ⟨e1, ⟨R, r1, r2⟩, fr⟩ := hq
    have e1 : m = nI (L.length + t) := e1
    subst e1
    show wpb_L_writes_132 _ _ _ _ _ _ _ (nI t) (nI (L.length + t)) T
    unfold wpb_L_writes_132
    refine br_t (Int32.le_refl _) ?_
    intro i27 e27 i28 e28
    rw [e27, e28]
    exact hK T R r1 r2 fr
  · intro j q hj hq K hK2
    obtain ⟨m, T⟩ := q
    obtain ⟨e1, ⟨R, r1, r2⟩, fr⟩ := hq
    have e1 : m = nI (L.length + j) := e1
    subst e1
    have fr : ∀ b, b ≠ ar → T b = S0 b := fr
    show wpb_L_writes_132 _ _ _ _ _ _ _ (nI j) (nI (L.length + j)) T
    unfold wpb_L_writes_132
    have el : (L ++ List.replicate j p).length = L.length + j := by rw [List.length_append, List.length_replicate]
    have es : L ++ List.replicate (j + 1) p = (L ++ List.replicate j p) ++ [p] := by rw [List.replicate_succ', List.append_assoc]
    refine br_f (nI_ge hj (by omega)) (br_c (fun c => ?_) (fun c => ?_))
    · rw [nI_leI (by decide) (by omega)] at c
      intro i30 e30 i31 e31
      rw [e30, e31, nI_add, nI_add]
      refine hK2 _ ⟨rfl, ⟨R, r1, fun i h1 h2 => ?_⟩, fr⟩
      rw [es, getD_app_l (by omega)]
      exact r2 i h1 (by omega)
    · rw [nI_leI (by decide) (by omega)] at c
      refine r1.set (by omega) (fun T' d1 d2 => ?_)
      intro i36 e36 i37 e37
      rw [e36, e37, nI_add, nI_add]
      refine hK2 _ ⟨rfl, ⟨_, d1, fun i h1 h2 => ?_⟩, fun b hb => (d2 b hb).trans (fr b hb)⟩
      rw [es] at h2 ⊢
      rw [List.length_append, el] at h2
      have h2 : i < L.length + j + 1 := h2
      by_cases z : i = L.length + j
      · rw [if_pos z, z, ← el, getD_app_r]
      · rw [if_neg z, getD_app_l (by omega)]
        exact r2 i h1 (by omega)
theorem wq_writes {d : Nat} {b e : Int32} {R0 : Nat → Int32} (h : TkF S tg x ad f g v hist sl pad) (hd : d < 6) (hr : AF S ar 24 R0) (har : 40 ≤ (tg ar).2)
    (hok : (wrw b e).length ≤ 24 → ∀ S' tg' f' R, TkF S' tg' x ad f' g (setDr v d (wrw b e)) (pushH hist v) sl [] → RK ar S tg S' tg' → AF S' ar 24 R → (∀ k, k < (wrw b e).length → R k = nI ((wrw b e).getD k 0)) → P (nI (wrw b e).length) S')
    (hno : 24 < (wrw b e).length → ∀ S' pad' R, TkF S' tg x ad f g v hist sl pad' → RK ar S tg S' tg → AF S' ar 24 R → P (-3) S') : wp_L_writes S x (nI d) b e ar P := by
  unfold wp_L_writes
  refine rc_of h.2.1 (tk_wipe h (fun S2 h2 c2 => ?_))
  have hr2 : AF S2 ar 24 R0 := hr.fr (c2 ar hr.live har).2
  have h7 := lw_lt (x := e) (n := 7) (by decide)
  refine wpL_for (1 + lw e 7) (fun k q => q.1 = wv b k ∧ q.2.1 = nI (rps (wts b k)).length ∧ TkF q.2.2 tg x ad f g v hist sl (txs (wts b k)) ∧ RK ar S tg q.2.2 tg ∧ ∃ R, AF q.2.2 ar 24 R ∧ ∀ j, j < 24 → j < (rps (wts b k)).length → R j = nI ((rps (wts b k)).getD j 0)) ⟨rfl, rfl, h2, RK.ck c2, R0, hr2, fun j _ hj => absurd hj (Nat.not_lt_zero _)⟩ ?_ ?_
  · intro q hq K
    obtain ⟨y, m, T⟩ := q
    obtain ⟨e1, e2, h3, k3, R, r1, r2⟩ := hq
    have e1 : y = wv b (1 + lw e 7) := e1
    have e2 : m = nI (rps (wts b (1 + lw e 7))).length := e2
    have h3 : TkF T tg x ad f g v hist sl (txs (wts b (1 + lw e 7))) := h3
    have k3 : RK ar S tg T tg := k3
    have r1 : AF T ar 24 R := r1
    subst e1; subst e2
    show wpb_L_writes_14 _ _ _ _ _ _ (nI (1 + lw e 7)) (wv b (1 + lw e 7)) (nI (rps (wts b (1 + lw e 7))).length) T
    unfold wpb_L_writes_14
    refine wq_low (by decide) (by decide) ?_
    rw [nI_add]
    refine br_t (Int32.le_refl _) (rc_of h3.2.1 ?_)
    have hT := wts_ok b (1 + lw e 7)
    have h0 : wts b (1 + lw e 7) ≠ [] := fun c => by
      have := wts_len b (1 + lw e 7)
      rw [c] at this
      exact absurd this (by show ¬ 0 = 1 + lw e 7; omega)
    have hle := rps_wts_le b (1 + lw e 7)
    rcases Nat.lt_or_ge 24 (rps (wts b (1 + lw e 7))).length with z | z
    · refine tk_read_bad h3 hd (flt_bad hT h0 (by rw [wts_len]; omega) z) (fun S4 h4 c4 => ?_)
      refine br_f (nI_ge z (by omega)) (br_t rfl ?_)
      exact hno z S4 _ R h4 (k3.tr (RK.ck c4)) (r1.fr (c4 ar r1.live har).2)
    · obtain ⟨g1, g2⟩ := flt_ok hT h0 z
      refine tk_read h3 hd g1 (fun S4 tg4 f4 h4 c4 => ?_)
      rw [g2] at h4 ⊢
      refine br_t (nI_le z (by omega)) (br_t rfl ?_)
      exact hok z S4 tg4 f4 R h4 (k3.tr (RK.ck c4)) (r1.fr (c4 ar r1.live har).2) (fun k hk => r2 k (Nat.lt_of_lt_of_le hk z) hk)
  · intro k q hk hq K hK
    obtain ⟨y, m, T⟩ := q
    obtain ⟨e1, e2, h3, k3, R, r1, r2⟩ := hq
    have e1 : y = wv b k := e1
    have e2 : m = nI (rps (wts b k)).length := e2
    have h3 : TkF T tg x ad f g v hist sl (txs (wts b k)) := h3
    have k3 : RK ar S tg T tg := k3
    have r1 : AF T ar 24 R := r1
    subst e1; subst e2
    show wpb_L_writes_14 _ _ _ _ _ _ (nI k) (wv b k) (nI (rps (wts b k)).length) T
    unfold wpb_L_writes_14
    have hle := rps_wts_le b k
    have htl := txs_len (wts b k)
    rw [wts_len] at htl
    have hok1 := wt1_ok (wv b k)
    have hwv : wv b (k + 1) = wv b k / nI 5 + nI 1013 * (nI k + nI 1) := rfl
    have hts : txs (wts b (k + 1)) = txs (wts b k) ++ tx1 (wt1 (wv b k)) := txs_snoc _ _
    have hrl := rps_wts_len b k
    have hrs := rps_wts b k
    -- the rest of a round, its press and its number known
    have go : ∀ p t, (p, t) = wt1 (wv b k) → wpk_L_writes_82 x ar (nI k) (wv b k) (nI (rps (wts b k)).length) T (nI p) K (nI t) := by
      intro p t ept
      rw [← ept] at hok1 hts hrl hrs
      obtain ⟨hp, ht1, ht9⟩ := hok1
      have hp : p < 12 := hp
      have ht1 : 1 ≤ t := ht1
      have ht9 : t ≤ 9 := ht9
      have hrl : (rps (wts b (k + 1))).length = (rps (wts b k)).length + t := hrl
      have hrs : rps (wts b (k + 1)) = rps (wts b k) ++ List.replicate t p := hrs
      have fin : ∀ T2, TkF T2 tg x ad f g v hist sl (txs (wts b (k + 1))) → CK 40 T tg T2 tg → wpk_L_writes_129 ar (nI k) (wv b k) (nI (rps (wts b k)).length) (nI p) (nI t) K T2 := fun T2 h4 c4 => by
        have r3 : AF T2 ar 24 R := r1.fr (c4 ar r1.live har).2
        refine wq_w132 (by omega) ht9 r3 r2 (fun S5 R5 a5 b5 f5 => ?_)
        rw [← hwv, nI_add, ← hrl]
        rw [← hrs] at b5
        refine hK _ ⟨rfl, rfl, ?_, ?_, R5, a5, b5⟩
        · exact h4.keep (fun q hq hq2 => ⟨f5 q (fun e => by rw [e] at hq2; omega), rfl⟩)
        · exact (k3.tr (RK.ck c4)).tr (RK.one a5.live f5)
      have mid : ∀ T2 ch, ch = (if p < 6 then 97 + p else 65 + p - 6) → TkF T2 tg x ad f g v hist sl (txs (wts b k) ++ [ch]) → CK 40 T tg T2 tg → wpk_L_writes_112 x ar (nI k) (wv b k) (nI (rps (wts b k)).length) (nI p) (nI t) K T2 := fun T2 ch ech h4 c4 => by
        unfold wpk_L_writes_112
        have hts : txs (wts b (k + 1)) = txs (wts b k) ++ ((if p < 6 then 97 + p else 65 + p - 6) :: (if 1 < t then [48 + t] else [])) := hts
        rw [← ech] at hts
        by_cases c1 : 1 < t
        · rw [if_pos c1] at hts
          refine br_f (nI_ge c1 (by omega)) (rc_of h4.2.1 ?_)
          rw [nI_add]
          refine tk_write1 h4 (by omega) (by omega) (by rw [List.length_append]; show (txs (wts b k)).length + 1 < 40; omega) (fun r S5 h5 c5 => fin S5 ?_ (c4.tr c5))
          rw [hts]
          rw [List.append_assoc] at h5
          exact h5
        · rw [if_neg c1] at hts
          refine br_t (nI_le (by omega) (by decide)) (fin T2 ?_ c4)
          rw [hts]
          exact h4
      unfold wpk_L_writes_82
      by_cases c0 : p < 6
      · refine br_f (nle_ge c0 (by decide)) (rc_of h3.2.1 ?_)
        rw [nI_add]
        exact tk_write1 h3 (by omega) (by omega) (by omega) (fun r S4 h4 c4 => mid S4 _ (by rw [if_pos c0]) h4 c4)
      · refine br_t (nI_le (by omega) (by omega)) (rc_of h3.2.1 ?_)
        rw [nI_add, pk_sub (by omega)]
        exact tk_write1 h3 (by omega) (by omega) (by omega) (fun r S4 h4 c4 => mid S4 _ (by rw [if_neg c0]) h4 c4)
    refine wq_low (by decide) (by decide) ?_
    rw [nI_add]
    refine br_f (nI_ge hk (by omega)) (wq_low (by decide) (by decide) (wq_low (by decide) (by decide) ?_))
    have l3 := lw_lt (x := wv b k >>> (nI 4 &&& 31)) (n := 3) (by decide)
    have l6 := lw_lt (x := wv b k >>> (nI 9 &&& 31)) (n := 6) (by decide)
    rcases Nat.eq_zero_or_pos (lw (wv b k >>> (nI 4 &&& 31)) 3) with z | z
    · refine br_t (by rw [z]; decide) (wq_low (by decide) (by decide) ?_)
      rcases Nat.eq_zero_or_pos (lw (wv b k >>> (nI 9 &&& 31)) 6) with z2 | z2
      · refine br_t (by rw [z2]; decide) (wq_low (by decide) (by decide) ?_)
        intro i59 e59
        rw [e59, nI_add]
        refine go _ _ ?_
        unfold wt1
        rw [if_pos z, if_pos z2]
      · refine br_f (nI_ne0 z2 (by omega)) (wq_low (by decide) (by decide) ?_)
        intro i57 e57
        rw [e57, nI_add]
        refine go _ _ ?_
        unfold wt1
        rw [if_pos z, if_neg (by omega)]
    · refine br_f (nI_nle z (by omega)) (go _ _ ?_)
      unfold wt1
      rw [if_neg (by omega)]
end LW
