section LAWC0
variable {p : Program} {l : Launch} {e : Env} {s : State} {m : MethodId} {below : List Frame} {meth : Method} {c : Code} {b L x mm : Nat} {xs : Nat → Int32} {D : va_G} {Y : Nat → ClassId} {i : Int32} {S : PS} {H : Heap} {locs : List Loc} {cells slots : Nat} {Q : State → Prop} {ls : Array Slot}
set_option maxHeartbeats 4000000 in
set_option maxRecDepth 100000 in
theorem lc_put (C : CX p m c cL_law 4 s #[Value.ref b] wsL_law RL D Y) (hX : va_X b L xs s s.heap) (hbl : b < s.heap.size) (hO : HO D Y (LA s) s.heap S H locs) (hl : lv_has ls 4 [(0, .ref b), (1, .ref x), (2, .ref mm), (3, .int i)]) (h1 : vp_in (i + Int32.ofInt 1) L) (h2 : vp_in (i + Int32.ofInt 2) L) (h3 : vp_in (i + Int32.ofInt 3) L) (h0c : cells ≤ room_1.cells ∧ slots ≤ room_1.slots) (hc : cells + 15 ≤ room_1.cells ∧ slots + 175 ≤ room_1.slots) (hi : INV S x mm) (kk : ∀ (S2 : PS) (H2 : Heap) (locs2 : List Loc), INV S2 x mm → HO D Y (LA s) s.heap S2 H2 locs2 → W p l e room_1 s m #[Value.ref b] below meth c H2 locs2 (cells + 15) (slots + 175) Q (F0 m 930 ls [])) : W p l e room_1 s m #[Value.ref b] below meth c H locs cells slots Q (F0 m 152 ls []) := by
  obtain ⟨hx, hb, hml, hown, hts⟩ := C.1
  refine lv_aload_n hx hb dL_law_152 rfl (lv_at hl 1 rfl) ?_
  refine ld_arg C hX hbl hO hl h1 dL_law_153 dL_law_154 dL_law_155 dL_law_156 dL_law_157 ?_
  refine ld_arg C hX hbl hO hl h2 dL_law_158 dL_law_159 dL_law_160 dL_law_161 dL_law_162 ?_
  have h := eq_put (S := S) (x := x) (m := mm) (y := (xs (i + Int32.ofInt 1).toNatClampNeg)) (z := (xs (i + Int32.ofInt 2).toNatClampNeg)) hi
  obtain ⟨fs, ex⟩ := hi.cx
  refine cV_wi (As := [.int (xs (i + Int32.ofInt 1).toNatClampNeg), .int (xs (i + Int32.ofInt 2).toNatClampNeg)]) (rest := []) (n := 2) C hO (fun L0 => c_X7_put l D Y L0 S H.size x ((xs (i + Int32.ofInt 1).toNatClampNeg)) ((xs (i + Int32.ofInt 2).toNatClampNeg)) _ h) 5 rfl ex (cwV 2 hts gL_law_X7_put rfl rfl rfl ⟨rfl, hdS_X7_put⟩ ⟨Nat.le_of_ble_eq_true rfl, Nat.le_of_ble_eq_true rfl⟩) rfl hl.1 rfl (Nat.le_of_ble_eq_true rfl) dL_law_163 hc (fun r S1 H1 locs1 h hO => ?_)
  refine lv_aload_n hx hb dL_law_166 rfl (lv_at hl 2 rfl) ?_
  refine ld_arg C hX hbl hO hl h1 dL_law_167 dL_law_168 dL_law_169 dL_law_170 dL_law_171 ?_
  refine ld_arg C hX hbl hO hl h2 dL_law_172 dL_law_173 dL_law_174 dL_law_175 dL_law_176 ?_
  obtain ⟨fs2, e2, h⟩ := h
  refine cV_wi (As := [.int (xs (i + Int32.ofInt 1).toNatClampNeg), .int (xs (i + Int32.ofInt 2).toNatClampNeg)]) (rest := [.int r]) (n := 2) C hO (fun L0 => c_X8_put l D Y L0 S1 H1.size mm ((xs (i + Int32.ofInt 1).toNatClampNeg)) ((xs (i + Int32.ofInt 2).toNatClampNeg)) _ h) 6 rfl e2 (cwV 2 hts gL_law_X8_put rfl rfl rfl ⟨rfl, hdS_X8_put⟩ ⟨Nat.le_of_ble_eq_true rfl, Nat.le_of_ble_eq_true rfl⟩) rfl hl.1 rfl (Nat.le_of_ble_eq_true rfl) dL_law_177 hc (fun r2 S2 H2 locs2 h hO => ?_)
  refine lv_icmp_eq (tgt := 930) hx hb dL_law_180 (by decide) (fun _ => ?_) (fun c => absurd h.1 c)
  exact kk S2 H2 locs2 h.2 hO
set_option maxHeartbeats 4000000 in
set_option maxRecDepth 100000 in
theorem lc_tie (C : CX p m c cL_law 4 s #[Value.ref b] wsL_law RL D Y) (hX : va_X b L xs s s.heap) (hbl : b < s.heap.size) (hO : HO D Y (LA s) s.heap S H locs) (hl : lv_has ls 4 [(0, .ref b), (1, .ref x), (2, .ref mm), (3, .int i)]) (h1 : vp_in (i + Int32.ofInt 1) L) (h2 : vp_in (i + Int32.ofInt 2) L) (h3 : vp_in (i + Int32.ofInt 3) L) (h0c : cells ≤ room_1.cells ∧ slots ≤ room_1.slots) (hc : cells + 15 ≤ room_1.cells ∧ slots + 175 ≤ room_1.slots) (hi : INV S x mm) (kk : ∀ (S2 : PS) (H2 : Heap) (locs2 : List Loc), INV S2 x mm → HO D Y (LA s) s.heap S2 H2 locs2 → W p l e room_1 s m #[Value.ref b] below meth c H2 locs2 (cells + 15) (slots + 175) Q (F0 m 930 ls [])) : W p l e room_1 s m #[Value.ref b] below meth c H locs cells slots Q (F0 m 185 ls []) := by
  obtain ⟨hx, hb, hml, hown, hts⟩ := C.1
  refine lv_aload_n hx hb dL_law_185 rfl (lv_at hl 1 rfl) ?_
  refine ld_arg C hX hbl hO hl h1 dL_law_186 dL_law_187 dL_law_188 dL_law_189 dL_law_190 ?_
  refine ld_arg C hX hbl hO hl h2 dL_law_191 dL_law_192 dL_law_193 dL_law_194 dL_law_195 ?_
  have h := eq_tie (S := S) (x := x) (m := mm) (y := (xs (i + Int32.ofInt 1).toNatClampNeg)) (z := (xs (i + Int32.ofInt 2).toNatClampNeg)) hi
  obtain ⟨fs, ex⟩ := hi.cx
  refine cV_wi (As := [.int (xs (i + Int32.ofInt 1).toNatClampNeg), .int (xs (i + Int32.ofInt 2).toNatClampNeg)]) (rest := []) (n := 2) C hO (fun L0 => c_X7_tie l D Y L0 S H.size x ((xs (i + Int32.ofInt 1).toNatClampNeg)) ((xs (i + Int32.ofInt 2).toNatClampNeg)) _ h) 5 rfl ex (cwV 2 hts gL_law_X7_tie rfl rfl rfl ⟨rfl, hdS_X7_tie⟩ ⟨Nat.le_of_ble_eq_true rfl, Nat.le_of_ble_eq_true rfl⟩) rfl hl.1 rfl (Nat.le_of_ble_eq_true rfl) dL_law_196 hc (fun r S1 H1 locs1 h hO => ?_)
  refine lv_aload_n hx hb dL_law_199 rfl (lv_at hl 2 rfl) ?_
  refine ld_arg C hX hbl hO hl h1 dL_law_200 dL_law_201 dL_law_202 dL_law_203 dL_law_204 ?_
  refine ld_arg C hX hbl hO hl h2 dL_law_205 dL_law_206 dL_law_207 dL_law_208 dL_law_209 ?_
  obtain ⟨fs2, e2, h⟩ := h
  refine cV_wi (As := [.int (xs (i + Int32.ofInt 1).toNatClampNeg), .int (xs (i + Int32.ofInt 2).toNatClampNeg)]) (rest := [.int r]) (n := 2) C hO (fun L0 => c_X8_tie l D Y L0 S1 H1.size mm ((xs (i + Int32.ofInt 1).toNatClampNeg)) ((xs (i + Int32.ofInt 2).toNatClampNeg)) _ h) 6 rfl e2 (cwV 2 hts gL_law_X8_tie rfl rfl rfl ⟨rfl, hdS_X8_tie⟩ ⟨Nat.le_of_ble_eq_true rfl, Nat.le_of_ble_eq_true rfl⟩) rfl hl.1 rfl (Nat.le_of_ble_eq_true rfl) dL_law_210 hc (fun r2 S2 H2 locs2 h hO => ?_)
  refine lv_icmp_eq (tgt := 930) hx hb dL_law_213 (by decide) (fun _ => ?_) (fun c => absurd h.1 c)
  exact kk S2 H2 locs2 h.2 hO
set_option maxHeartbeats 4000000 in
set_option maxRecDepth 100000 in
theorem lc_read (C : CX p m c cL_law 4 s #[Value.ref b] wsL_law RL D Y) (hX : va_X b L xs s s.heap) (hbl : b < s.heap.size) (hO : HO D Y (LA s) s.heap S H locs) (hl : lv_has ls 4 [(0, .ref b), (1, .ref x), (2, .ref mm), (3, .int i)]) (h1 : vp_in (i + Int32.ofInt 1) L) (h2 : vp_in (i + Int32.ofInt 2) L) (h3 : vp_in (i + Int32.ofInt 3) L) (h0c : cells ≤ room_1.cells ∧ slots ≤ room_1.slots) (hc : cells + 15 ≤ room_1.cells ∧ slots + 175 ≤ room_1.slots) (hi : INV S x mm) (kk : ∀ (S2 : PS) (H2 : Heap) (locs2 : List Loc), INV S2 x mm → HO D Y (LA s) s.heap S2 H2 locs2 → W p l e room_1 s m #[Value.ref b] below meth c H2 locs2 (cells + 15) (slots + 175) Q (F0 m 930 ls [])) : W p l e room_1 s m #[Value.ref b] below meth c H locs cells slots Q (F0 m 218 ls []) := by
  obtain ⟨hx, hb, hml, hown, hts⟩ := C.1
  refine lv_aload_n hx hb dL_law_218 rfl (lv_at hl 1 rfl) ?_
  refine ld_arg C hX hbl hO hl h1 dL_law_219 dL_law_220 dL_law_221 dL_law_222 dL_law_223 ?_
  have h := eq_read (S := S) (x := x) (m := mm) (y := (xs (i + Int32.ofInt 1).toNatClampNeg)) hi
  obtain ⟨fs, ex⟩ := hi.cx
  refine cV_wi (As := [.int (xs (i + Int32.ofInt 1).toNatClampNeg)]) (rest := []) (n := 1) C hO (fun L0 => c_X7_read l D Y L0 S H.size x ((xs (i + Int32.ofInt 1).toNatClampNeg)) _ h) 5 rfl ex (cwV 1 hts gL_law_X7_read rfl rfl rfl ⟨rfl, hdS_X7_read⟩ ⟨Nat.le_of_ble_eq_true rfl, Nat.le_of_ble_eq_true rfl⟩) rfl hl.1 rfl (Nat.le_of_ble_eq_true rfl) dL_law_224 hc (fun r S1 H1 locs1 h hO => ?_)
  refine lv_aload_n hx hb dL_law_227 rfl (lv_at hl 2 rfl) ?_
  refine ld_arg C hX hbl hO hl h1 dL_law_228 dL_law_229 dL_law_230 dL_law_231 dL_law_232 ?_
  obtain ⟨fs2, e2, h⟩ := h
  refine cV_wi (As := [.int (xs (i + Int32.ofInt 1).toNatClampNeg)]) (rest := [.int r]) (n := 1) C hO (fun L0 => c_X8_read l D Y L0 S1 H1.size mm ((xs (i + Int32.ofInt 1).toNatClampNeg)) _ h) 6 rfl e2 (cwV 1 hts gL_law_X8_read rfl rfl rfl ⟨rfl, hdS_X8_read⟩ ⟨Nat.le_of_ble_eq_true rfl, Nat.le_of_ble_eq_true rfl⟩) rfl hl.1 rfl (Nat.le_of_ble_eq_true rfl) dL_law_233 hc (fun r2 S2 H2 locs2 h hO => ?_)
  refine lv_icmp_eq (tgt := 930) hx hb dL_law_236 (by decide) (fun _ => ?_) (fun c => absurd h.1 c)
  exact kk S2 H2 locs2 h.2 hO
set_option maxHeartbeats 4000000 in
set_option maxRecDepth 100000 in
theorem lc_compose (C : CX p m c cL_law 4 s #[Value.ref b] wsL_law RL D Y) (hX : va_X b L xs s s.heap) (hbl : b < s.heap.size) (hO : HO D Y (LA s) s.heap S H locs) (hl : lv_has ls 4 [(0, .ref b), (1, .ref x), (2, .ref mm), (3, .int i)]) (h1 : vp_in (i + Int32.ofInt 1) L) (h2 : vp_in (i + Int32.ofInt 2) L) (h3 : vp_in (i + Int32.ofInt 3) L) (h0c : cells ≤ room_1.cells ∧ slots ≤ room_1.slots) (hc : cells + 15 ≤ room_1.cells ∧ slots + 175 ≤ room_1.slots) (hi : INV S x mm) (kk : ∀ (S2 : PS) (H2 : Heap) (locs2 : List Loc), INV S2 x mm → HO D Y (LA s) s.heap S2 H2 locs2 → W p l e room_1 s m #[Value.ref b] below meth c H2 locs2 (cells + 15) (slots + 175) Q (F0 m 930 ls [])) : W p l e room_1 s m #[Value.ref b] below meth c H locs cells slots Q (F0 m 241 ls []) := by
  obtain ⟨hx, hb, hml, hown, hts⟩ := C.1
  refine lv_aload_n hx hb dL_law_241 rfl (lv_at hl 1 rfl) ?_
  refine ld_arg C hX hbl hO hl h1 dL_law_242 dL_law_243 dL_law_244 dL_law_245 dL_law_246 ?_
  refine ld_arg C hX hbl hO hl h2 dL_law_247 dL_law_248 dL_law_249 dL_law_250 dL_law_251 ?_
  refine ld_arg C hX hbl hO hl h3 dL_law_252 dL_law_253 dL_law_254 dL_law_255 dL_law_256 ?_
  have h := eq_compose (S := S) (x := x) (m := mm) (y := (xs (i + Int32.ofInt 1).toNatClampNeg)) (z := (xs (i + Int32.ofInt 2).toNatClampNeg)) (u := (xs (i + Int32.ofInt 3).toNatClampNeg)) hi
  obtain ⟨fs, ex⟩ := hi.cx
  refine cV_wi (As := [.int (xs (i + Int32.ofInt 1).toNatClampNeg), .int (xs (i + Int32.ofInt 2).toNatClampNeg), .int (xs (i + Int32.ofInt 3).toNatClampNeg)]) (rest := []) (n := 3) C hO (fun L0 => c_X7_compose l D Y L0 S H.size x ((xs (i + Int32.ofInt 1).toNatClampNeg)) ((xs (i + Int32.ofInt 2).toNatClampNeg)) ((xs (i + Int32.ofInt 3).toNatClampNeg)) _ h) 5 rfl ex (cwV 3 hts gL_law_X7_compose rfl rfl rfl ⟨rfl, hdS_X7_compose⟩ ⟨Nat.le_of_ble_eq_true rfl, Nat.le_of_ble_eq_true rfl⟩) rfl hl.1 rfl (Nat.le_of_ble_eq_true rfl) dL_law_257 hc (fun r S1 H1 locs1 h hO => ?_)
  refine lv_aload_n hx hb dL_law_260 rfl (lv_at hl 2 rfl) ?_
  refine ld_arg C hX hbl hO hl h1 dL_law_261 dL_law_262 dL_law_263 dL_law_264 dL_law_265 ?_
  refine ld_arg C hX hbl hO hl h2 dL_law_266 dL_law_267 dL_law_268 dL_law_269 dL_law_270 ?_
  refine ld_arg C hX hbl hO hl h3 dL_law_271 dL_law_272 dL_law_273 dL_law_274 dL_law_275 ?_
  obtain ⟨fs2, e2, h⟩ := h
  refine cV_wi (As := [.int (xs (i + Int32.ofInt 1).toNatClampNeg), .int (xs (i + Int32.ofInt 2).toNatClampNeg), .int (xs (i + Int32.ofInt 3).toNatClampNeg)]) (rest := [.int r]) (n := 3) C hO (fun L0 => c_X8_compose l D Y L0 S1 H1.size mm ((xs (i + Int32.ofInt 1).toNatClampNeg)) ((xs (i + Int32.ofInt 2).toNatClampNeg)) ((xs (i + Int32.ofInt 3).toNatClampNeg)) _ h) 6 rfl e2 (cwV 3 hts gL_law_X8_compose rfl rfl rfl ⟨rfl, hdS_X8_compose⟩ ⟨Nat.le_of_ble_eq_true rfl, Nat.le_of_ble_eq_true rfl⟩) rfl hl.1 rfl (Nat.le_of_ble_eq_true rfl) dL_law_276 hc (fun r2 S2 H2 locs2 h hO => ?_)
  refine lv_icmp_eq (tgt := 930) hx hb dL_law_279 (by decide) (fun _ => ?_) (fun c => absurd h.1 c)
  exact kk S2 H2 locs2 h.2 hO
set_option maxHeartbeats 4000000 in
set_option maxRecDepth 100000 in
theorem lc_turnRound (C : CX p m c cL_law 4 s #[Value.ref b] wsL_law RL D Y) (hX : va_X b L xs s s.heap) (hbl : b < s.heap.size) (hO : HO D Y (LA s) s.heap S H locs) (hl : lv_has ls 4 [(0, .ref b), (1, .ref x), (2, .ref mm), (3, .int i)]) (h1 : vp_in (i + Int32.ofInt 1) L) (h2 : vp_in (i + Int32.ofInt 2) L) (h3 : vp_in (i + Int32.ofInt 3) L) (h0c : cells ≤ room_1.cells ∧ slots ≤ room_1.slots) (hc : cells + 15 ≤ room_1.cells ∧ slots + 175 ≤ room_1.slots) (hi : INV S x mm) (kk : ∀ (S2 : PS) (H2 : Heap) (locs2 : List Loc), INV S2 x mm → HO D Y (LA s) s.heap S2 H2 locs2 → W p l e room_1 s m #[Value.ref b] below meth c H2 locs2 (cells + 15) (slots + 175) Q (F0 m 930 ls [])) : W p l e room_1 s m #[Value.ref b] below meth c H locs cells slots Q (F0 m 284 ls []) := by
  obtain ⟨hx, hb, hml, hown, hts⟩ := C.1
  refine lv_aload_n hx hb dL_law_284 rfl (lv_at hl 1 rfl) ?_
  refine ld_arg C hX hbl hO hl h1 dL_law_285 dL_law_286 dL_law_287 dL_law_288 dL_law_289 ?_
  refine ld_arg C hX hbl hO hl h2 dL_law_290 dL_law_291 dL_law_292 dL_law_293 dL_law_294 ?_
  have h := eq_turnRound (S := S) (x := x) (m := mm) (y := (xs (i + Int32.ofInt 1).toNatClampNeg)) (z := (xs (i + Int32.ofInt 2).toNatClampNeg)) hi
  obtain ⟨fs, ex⟩ := hi.cx
  refine cV_wi (As := [.int (xs (i + Int32.ofInt 1).toNatClampNeg), .int (xs (i + Int32.ofInt 2).toNatClampNeg)]) (rest := []) (n := 2) C hO (fun L0 => c_X7_turnRound l D Y L0 S H.size x ((xs (i + Int32.ofInt 1).toNatClampNeg)) ((xs (i + Int32.ofInt 2).toNatClampNeg)) _ h) 5 rfl ex (cwV 2 hts gL_law_X7_turnRound rfl rfl rfl ⟨rfl, hdS_X7_turnRound⟩ ⟨Nat.le_of_ble_eq_true rfl, Nat.le_of_ble_eq_true rfl⟩) rfl hl.1 rfl (Nat.le_of_ble_eq_true rfl) dL_law_295 hc (fun r S1 H1 locs1 h hO => ?_)
  refine lv_aload_n hx hb dL_law_298 rfl (lv_at hl 2 rfl) ?_
  refine ld_arg C hX hbl hO hl h1 dL_law_299 dL_law_300 dL_law_301 dL_law_302 dL_law_303 ?_
  refine ld_arg C hX hbl hO hl h2 dL_law_304 dL_law_305 dL_law_306 dL_law_307 dL_law_308 ?_
  obtain ⟨fs2, e2, h⟩ := h
  refine cV_wi (As := [.int (xs (i + Int32.ofInt 1).toNatClampNeg), .int (xs (i + Int32.ofInt 2).toNatClampNeg)]) (rest := [.int r]) (n := 2) C hO (fun L0 => c_X8_turnRound l D Y L0 S1 H1.size mm ((xs (i + Int32.ofInt 1).toNatClampNeg)) ((xs (i + Int32.ofInt 2).toNatClampNeg)) _ h) 6 rfl e2 (cwV 2 hts gL_law_X8_turnRound rfl rfl rfl ⟨rfl, hdS_X8_turnRound⟩ ⟨Nat.le_of_ble_eq_true rfl, Nat.le_of_ble_eq_true rfl⟩) rfl hl.1 rfl (Nat.le_of_ble_eq_true rfl) dL_law_309 hc (fun r2 S2 H2 locs2 h hO => ?_)
  refine lv_icmp_eq (tgt := 930) hx hb dL_law_312 (by decide) (fun _ => ?_) (fun c => absurd h.1 c)
  exact kk S2 H2 locs2 h.2 hO
set_option maxHeartbeats 4000000 in
set_option maxRecDepth 100000 in
theorem lc_repeat (C : CX p m c cL_law 4 s #[Value.ref b] wsL_law RL D Y) (hX : va_X b L xs s s.heap) (hbl : b < s.heap.size) (hO : HO D Y (LA s) s.heap S H locs) (hl : lv_has ls 4 [(0, .ref b), (1, .ref x), (2, .ref mm), (3, .int i)]) (h1 : vp_in (i + Int32.ofInt 1) L) (h2 : vp_in (i + Int32.ofInt 2) L) (h3 : vp_in (i + Int32.ofInt 3) L) (h0c : cells ≤ room_1.cells ∧ slots ≤ room_1.slots) (hc : cells + 15 ≤ room_1.cells ∧ slots + 175 ≤ room_1.slots) (hi : INV S x mm) (kk : ∀ (S2 : PS) (H2 : Heap) (locs2 : List Loc), INV S2 x mm → HO D Y (LA s) s.heap S2 H2 locs2 → W p l e room_1 s m #[Value.ref b] below meth c H2 locs2 (cells + 15) (slots + 175) Q (F0 m 930 ls [])) : W p l e room_1 s m #[Value.ref b] below meth c H locs cells slots Q (F0 m 317 ls []) := by
  obtain ⟨hx, hb, hml, hown, hts⟩ := C.1
  refine lv_aload_n hx hb dL_law_317 rfl (lv_at hl 1 rfl) ?_
  refine ld_arg C hX hbl hO hl h1 dL_law_318 dL_law_319 dL_law_320 dL_law_321 dL_law_322 ?_
  refine ld_arg C hX hbl hO hl h2 dL_law_323 dL_law_324 dL_law_325 dL_law_326 dL_law_327 ?_
  refine ld_arg C hX hbl hO hl h3 dL_law_328 dL_law_329 dL_law_330 dL_law_331 dL_law_332 ?_
  have h := eq_repeat (S := S) (x := x) (m := mm) (y := (xs (i + Int32.ofInt 1).toNatClampNeg)) (z := (xs (i + Int32.ofInt 2).toNatClampNeg)) (u := (xs (i + Int32.ofInt 3).toNatClampNeg)) hi
  obtain ⟨fs, ex⟩ := hi.cx
  refine cV_wi (As := [.int (xs (i + Int32.ofInt 1).toNatClampNeg), .int (xs (i + Int32.ofInt 2).toNatClampNeg), .int (xs (i + Int32.ofInt 3).toNatClampNeg)]) (rest := []) (n := 3) C hO (fun L0 => c_X7_repeat l D Y L0 S H.size x ((xs (i + Int32.ofInt 1).toNatClampNeg)) ((xs (i + Int32.ofInt 2).toNatClampNeg)) ((xs (i + Int32.ofInt 3).toNatClampNeg)) _ h) 5 rfl ex (cwV 3 hts gL_law_X7_repeat rfl rfl rfl ⟨rfl, hdS_X7_repeat⟩ ⟨Nat.le_of_ble_eq_true rfl, Nat.le_of_ble_eq_true rfl⟩) rfl hl.1 rfl (Nat.le_of_ble_eq_true rfl) dL_law_333 hc (fun r S1 H1 locs1 h hO => ?_)
  refine lv_aload_n hx hb dL_law_336 rfl (lv_at hl 2 rfl) ?_
  refine ld_arg C hX hbl hO hl h1 dL_law_337 dL_law_338 dL_law_339 dL_law_340 dL_law_341 ?_
  refine ld_arg C hX hbl hO hl h2 dL_law_342 dL_law_343 dL_law_344 dL_law_345 dL_law_346 ?_
  refine ld_arg C hX hbl hO hl h3 dL_law_347 dL_law_348 dL_law_349 dL_law_350 dL_law_351 ?_
  obtain ⟨fs2, e2, h⟩ := h
  refine cV_wi (As := [.int (xs (i + Int32.ofInt 1).toNatClampNeg), .int (xs (i + Int32.ofInt 2).toNatClampNeg), .int (xs (i + Int32.ofInt 3).toNatClampNeg)]) (rest := [.int r]) (n := 3) C hO (fun L0 => c_X8_repeat l D Y L0 S1 H1.size mm ((xs (i + Int32.ofInt 1).toNatClampNeg)) ((xs (i + Int32.ofInt 2).toNatClampNeg)) ((xs (i + Int32.ofInt 3).toNatClampNeg)) _ h) 6 rfl e2 (cwV 3 hts gL_law_X8_repeat rfl rfl rfl ⟨rfl, hdS_X8_repeat⟩ ⟨Nat.le_of_ble_eq_true rfl, Nat.le_of_ble_eq_true rfl⟩) rfl hl.1 rfl (Nat.le_of_ble_eq_true rfl) dL_law_352 hc (fun r2 S2 H2 locs2 h hO => ?_)
  refine lv_icmp_eq (tgt := 930) hx hb dL_law_355 (by decide) (fun _ => ?_) (fun c => absurd h.1 c)
  exact kk S2 H2 locs2 h.2 hO
set_option maxHeartbeats 4000000 in
set_option maxRecDepth 100000 in
theorem lc_weave (C : CX p m c cL_law 4 s #[Value.ref b] wsL_law RL D Y) (hX : va_X b L xs s s.heap) (hbl : b < s.heap.size) (hO : HO D Y (LA s) s.heap S H locs) (hl : lv_has ls 4 [(0, .ref b), (1, .ref x), (2, .ref mm), (3, .int i)]) (h1 : vp_in (i + Int32.ofInt 1) L) (h2 : vp_in (i + Int32.ofInt 2) L) (h3 : vp_in (i + Int32.ofInt 3) L) (h0c : cells ≤ room_1.cells ∧ slots ≤ room_1.slots) (hc : cells + 15 ≤ room_1.cells ∧ slots + 175 ≤ room_1.slots) (hi : INV S x mm) (kk : ∀ (S2 : PS) (H2 : Heap) (locs2 : List Loc), INV S2 x mm → HO D Y (LA s) s.heap S2 H2 locs2 → W p l e room_1 s m #[Value.ref b] below meth c H2 locs2 (cells + 15) (slots + 175) Q (F0 m 930 ls [])) : W p l e room_1 s m #[Value.ref b] below meth c H locs cells slots Q (F0 m 360 ls []) := by
  obtain ⟨hx, hb, hml, hown, hts⟩ := C.1
  refine lv_aload_n hx hb dL_law_360 rfl (lv_at hl 1 rfl) ?_
  refine ld_arg C hX hbl hO hl h1 dL_law_361 dL_law_362 dL_law_363 dL_law_364 dL_law_365 ?_
  refine ld_arg C hX hbl hO hl h2 dL_law_366 dL_law_367 dL_law_368 dL_law_369 dL_law_370 ?_
  have h := eq_weave (S := S) (x := x) (m := mm) (y := (xs (i + Int32.ofInt 1).toNatClampNeg)) (z := (xs (i + Int32.ofInt 2).toNatClampNeg)) hi
  obtain ⟨fs, ex⟩ := hi.cx
  refine cV_wi (As := [.int (xs (i + Int32.ofInt 1).toNatClampNeg), .int (xs (i + Int32.ofInt 2).toNatClampNeg)]) (rest := []) (n := 2) C hO (fun L0 => c_X7_weave l D Y L0 S H.size x ((xs (i + Int32.ofInt 1).toNatClampNeg)) ((xs (i + Int32.ofInt 2).toNatClampNeg)) _ h) 5 rfl ex (cwV 2 hts gL_law_X7_weave rfl rfl rfl ⟨rfl, hdS_X7_weave⟩ ⟨Nat.le_of_ble_eq_true rfl, Nat.le_of_ble_eq_true rfl⟩) rfl hl.1 rfl (Nat.le_of_ble_eq_true rfl) dL_law_371 hc (fun r S1 H1 locs1 h hO => ?_)
  refine lv_aload_n hx hb dL_law_374 rfl (lv_at hl 2 rfl) ?_
  refine ld_arg C hX hbl hO hl h1 dL_law_375 dL_law_376 dL_law_377 dL_law_378 dL_law_379 ?_
  refine ld_arg C hX hbl hO hl h2 dL_law_380 dL_law_381 dL_law_382 dL_law_383 dL_law_384 ?_
  obtain ⟨fs2, e2, h⟩ := h
  refine cV_wi (As := [.int (xs (i + Int32.ofInt 1).toNatClampNeg), .int (xs (i + Int32.ofInt 2).toNatClampNeg)]) (rest := [.int r]) (n := 2) C hO (fun L0 => c_X8_weave l D Y L0 S1 H1.size mm ((xs (i + Int32.ofInt 1).toNatClampNeg)) ((xs (i + Int32.ofInt 2).toNatClampNeg)) _ h) 6 rfl e2 (cwV 2 hts gL_law_X8_weave rfl rfl rfl ⟨rfl, hdS_X8_weave⟩ ⟨Nat.le_of_ble_eq_true rfl, Nat.le_of_ble_eq_true rfl⟩) rfl hl.1 rfl (Nat.le_of_ble_eq_true rfl) dL_law_385 hc (fun r2 S2 H2 locs2 h hO => ?_)
  refine lv_icmp_eq (tgt := 930) hx hb dL_law_388 (by decide) (fun _ => ?_) (fun c => absurd h.1 c)
  exact kk S2 H2 locs2 h.2 hO
set_option maxHeartbeats 4000000 in
set_option maxRecDepth 100000 in
theorem lc_dye (C : CX p m c cL_law 4 s #[Value.ref b] wsL_law RL D Y) (hX : va_X b L xs s s.heap) (hbl : b < s.heap.size) (hO : HO D Y (LA s) s.heap S H locs) (hl : lv_has ls 4 [(0, .ref b), (1, .ref x), (2, .ref mm), (3, .int i)]) (h1 : vp_in (i + Int32.ofInt 1) L) (h2 : vp_in (i + Int32.ofInt 2) L) (h3 : vp_in (i + Int32.ofInt 3) L) (h0c : cells ≤ room_1.cells ∧ slots ≤ room_1.slots) (hc : cells + 15 ≤ room_1.cells ∧ slots + 175 ≤ room_1.slots) (hi : INV S x mm) (kk : ∀ (S2 : PS) (H2 : Heap) (locs2 : List Loc), INV S2 x mm → HO D Y (LA s) s.heap S2 H2 locs2 → W p l e room_1 s m #[Value.ref b] below meth c H2 locs2 (cells + 15) (slots + 175) Q (F0 m 930 ls [])) : W p l e room_1 s m #[Value.ref b] below meth c H locs cells slots Q (F0 m 393 ls []) := by
  obtain ⟨hx, hb, hml, hown, hts⟩ := C.1
  refine lv_aload_n hx hb dL_law_393 rfl (lv_at hl 1 rfl) ?_
  refine ld_arg C hX hbl hO hl h1 dL_law_394 dL_law_395 dL_law_396 dL_law_397 dL_law_398 ?_
  refine ld_arg C hX hbl hO hl h2 dL_law_399 dL_law_400 dL_law_401 dL_law_402 dL_law_403 ?_
  have h := eq_dye (S := S) (x := x) (m := mm) (y := (xs (i + Int32.ofInt 1).toNatClampNeg)) (z := (xs (i + Int32.ofInt 2).toNatClampNeg)) hi
  obtain ⟨fs, ex⟩ := hi.cx
  refine cV_wi (As := [.int (xs (i + Int32.ofInt 1).toNatClampNeg), .int (xs (i + Int32.ofInt 2).toNatClampNeg)]) (rest := []) (n := 2) C hO (fun L0 => c_X7_dye l D Y L0 S H.size x ((xs (i + Int32.ofInt 1).toNatClampNeg)) ((xs (i + Int32.ofInt 2).toNatClampNeg)) _ h) 5 rfl ex (cwV 2 hts gL_law_X7_dye rfl rfl rfl ⟨rfl, hdS_X7_dye⟩ ⟨Nat.le_of_ble_eq_true rfl, Nat.le_of_ble_eq_true rfl⟩) rfl hl.1 rfl (Nat.le_of_ble_eq_true rfl) dL_law_404 hc (fun r S1 H1 locs1 h hO => ?_)
  refine lv_aload_n hx hb dL_law_407 rfl (lv_at hl 2 rfl) ?_
  refine ld_arg C hX hbl hO hl h1 dL_law_408 dL_law_409 dL_law_410 dL_law_411 dL_law_412 ?_
  refine ld_arg C hX hbl hO hl h2 dL_law_413 dL_law_414 dL_law_415 dL_law_416 dL_law_417 ?_
  obtain ⟨fs2, e2, h⟩ := h
  refine cV_wi (As := [.int (xs (i + Int32.ofInt 1).toNatClampNeg), .int (xs (i + Int32.ofInt 2).toNatClampNeg)]) (rest := [.int r]) (n := 2) C hO (fun L0 => c_X8_dye l D Y L0 S1 H1.size mm ((xs (i + Int32.ofInt 1).toNatClampNeg)) ((xs (i + Int32.ofInt 2).toNatClampNeg)) _ h) 6 rfl e2 (cwV 2 hts gL_law_X8_dye rfl rfl rfl ⟨rfl, hdS_X8_dye⟩ ⟨Nat.le_of_ble_eq_true rfl, Nat.le_of_ble_eq_true rfl⟩) rfl hl.1 rfl (Nat.le_of_ble_eq_true rfl) dL_law_418 hc (fun r2 S2 H2 locs2 h hO => ?_)
  refine lv_icmp_eq (tgt := 930) hx hb dL_law_421 (by decide) (fun _ => ?_) (fun c => absurd h.1 c)
  exact kk S2 H2 locs2 h.2 hO
set_option maxHeartbeats 4000000 in
set_option maxRecDepth 100000 in
theorem lc_place (C : CX p m c cL_law 4 s #[Value.ref b] wsL_law RL D Y) (hX : va_X b L xs s s.heap) (hbl : b < s.heap.size) (hO : HO D Y (LA s) s.heap S H locs) (hl : lv_has ls 4 [(0, .ref b), (1, .ref x), (2, .ref mm), (3, .int i)]) (h1 : vp_in (i + Int32.ofInt 1) L) (h2 : vp_in (i + Int32.ofInt 2) L) (h3 : vp_in (i + Int32.ofInt 3) L) (h0c : cells ≤ room_1.cells ∧ slots ≤ room_1.slots) (hc : cells + 15 ≤ room_1.cells ∧ slots + 175 ≤ room_1.slots) (hi : INV S x mm) (kk : ∀ (S2 : PS) (H2 : Heap) (locs2 : List Loc), INV S2 x mm → HO D Y (LA s) s.heap S2 H2 locs2 → W p l e room_1 s m #[Value.ref b] below meth c H2 locs2 (cells + 15) (slots + 175) Q (F0 m 930 ls [])) : W p l e room_1 s m #[Value.ref b] below meth c H locs cells slots Q (F0 m 426 ls []) := by
  obtain ⟨hx, hb, hml, hown, hts⟩ := C.1
  refine lv_aload_n hx hb dL_law_426 rfl (lv_at hl 1 rfl) ?_
  refine ld_arg C hX hbl hO hl h1 dL_law_427 dL_law_428 dL_law_429 dL_law_430 dL_law_431 ?_
  refine ld_arg C hX hbl hO hl h2 dL_law_432 dL_law_433 dL_law_434 dL_law_435 dL_law_436 ?_
  have h := eq_place (S := S) (x := x) (m := mm) (y := (xs (i + Int32.ofInt 1).toNatClampNeg)) (z := (xs (i + Int32.ofInt 2).toNatClampNeg)) hi
  obtain ⟨fs, ex⟩ := hi.cx
  refine cV_ri (As := [.int (xs (i + Int32.ofInt 1).toNatClampNeg), .int (xs (i + Int32.ofInt 2).toNatClampNeg)]) (rest := []) (n := 2) C hO (fun L0 => c_X7_place l D Y L0 S H.size x ((xs (i + Int32.ofInt 1).toNatClampNeg)) ((xs (i + Int32.ofInt 2).toNatClampNeg)) _ h) 5 rfl ex (cwV 2 hts gL_law_X7_place rfl rfl rfl ⟨rfl, hdS_X7_place⟩ ⟨Nat.le_of_ble_eq_true rfl, Nat.le_of_ble_eq_true rfl⟩) rfl hl.1 rfl (Nat.le_of_ble_eq_true rfl) dL_law_437 h0c (fun r h => ?_)
  refine lv_aload_n hx hb dL_law_440 rfl (lv_at hl 2 rfl) ?_
  refine ld_arg C hX hbl hO hl h1 dL_law_441 dL_law_442 dL_law_443 dL_law_444 dL_law_445 ?_
  refine ld_arg C hX hbl hO hl h2 dL_law_446 dL_law_447 dL_law_448 dL_law_449 dL_law_450 ?_
  obtain ⟨fs2, e2⟩ := hi.cm
  refine cV_ri (As := [.int (xs (i + Int32.ofInt 1).toNatClampNeg), .int (xs (i + Int32.ofInt 2).toNatClampNeg)]) (rest := [.int r]) (n := 2) C hO (fun L0 => c_X8_place l D Y L0 S H.size mm ((xs (i + Int32.ofInt 1).toNatClampNeg)) ((xs (i + Int32.ofInt 2).toNatClampNeg)) _ h) 6 rfl e2 (cwV 2 hts gL_law_X8_place rfl rfl rfl ⟨rfl, hdS_X8_place⟩ ⟨Nat.le_of_ble_eq_true rfl, Nat.le_of_ble_eq_true rfl⟩) rfl hl.1 rfl (Nat.le_of_ble_eq_true rfl) dL_law_451 h0c (fun r2 h => ?_)
  refine lv_icmp_eq (tgt := 930) hx hb dL_law_454 (by decide) (fun _ => ?_) (fun c => absurd h c)
  refine W.widen (k := cells + 15) (n := slots + 175) (Nat.le_add_right _ _) (Nat.le_add_right _ _) ?_
  exact kk S H locs hi hO
end LAWC0
