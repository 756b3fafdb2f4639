/-! the law: its cases (written by lawcases.py) -/
set_option maxHeartbeats 4000000 in
set_option maxRecDepth 100000 in
theorem lc_0 {p : Program} {l : Launch} {e : Env} {s : State} {m : MethodId} {args : Array Value} {below : List Frame} {meth : Method} {c : Code} {H : Heap} {locs : List Loc} {cells slots : Nat} {Q : State → Prop} {ls : Array Slot} {E : EE} {Bx Bm : Nat → Nat} {u : SX} {τ : SM} {b L i : Nat} {xs : Nat → Int32} (C0 : cx wsL_law cL_law 4 ret RL E p s m args meth c) (hX : va_X b L xs s s.heap) (hbl : b < s.heap.size) (hl : lv_has ls 4 [(0, .ref b), (1, .ref (Bx 0)), (2, .ref (Bm 0)), (3, .int (nI i))]) (hi : i + 5 < L) (hL : L ≤ 384) (hR : Rel u τ) (hW : LW E Bx Bm u τ s H locs) (h1 : cells ≤ 298) (h2 : slots ≤ 5938) (kk : ∀ (Bx' : Nat → Nat) (u' : SX) (τ' : SM) (H1 : Heap) (locs1 : List Loc) (cells1 slots1 : Nat), Bx' 0 = Bx 0 → Rel u' τ' → LW E Bx' Bm u' τ' s H1 locs1 → cells1 ≤ cells + 2 → slots1 ≤ slots + 62 → W p l e room_1 s m args below meth c H1 locs1 cells1 slots1 Q (F0 m 1062 ls [])) : W p l e room_1 s m args below meth c H locs cells slots Q (F0 m 164 ls []) := by
  obtain ⟨hx, hb, -⟩ := id C0
  obtain ⟨r, u1, τ1, g1, g2, g3⟩ := q_republic hR (xs (i + 1)) (xs (i + 2)) (xs (i + 3)) (xs (i + 4))
  refine lv_aload_n hx hb dL_law_164 rfl (lv_at hl 1 rfl) ?_
  refine ld5 (k := 1) C0 hX hbl hW.2.2.2.2.2.2 hl hL (by omega) (by decide) dL_law_165 dL_law_166 dL_law_167 dL_law_168 dL_law_169 rfl ?_
  refine ld5 (k := 2) C0 hX hbl hW.2.2.2.2.2.2 hl hL (by omega) (by decide) dL_law_170 dL_law_171 dL_law_172 dL_law_173 dL_law_174 rfl ?_
  refine ld5 (k := 3) C0 hX hbl hW.2.2.2.2.2.2 hl hL (by omega) (by decide) dL_law_175 dL_law_176 dL_law_177 dL_law_178 dL_law_179 rfl ?_
  refine ld5 (k := 4) C0 hX hbl hW.2.2.2.2.2.2 hl hL (by omega) (by decide) dL_law_180 dL_law_181 dL_law_182 dL_law_183 dL_law_184 rfl ?_
  refine xI (rest := []) (n := 4) C0 hW (tX4_republic E (AXL s Bm) Bx hW.2.1 hW.2.2.1 g1) gL_law_X4_republic rfl rfl (by decide +kernel) rfl hl.1 rfl rfl (Nat.le_of_ble_eq_true rfl) (by omega) (by omega) dL_law_185 (fun H locs hW => ?_)
  refine lv_aload_n hx hb dL_law_188 rfl (lv_at hl 2 rfl) ?_
  refine ld5 (k := 1) C0 hX hbl hW.2.2.2.2.2.2 hl hL (by omega) (by decide) dL_law_189 dL_law_190 dL_law_191 dL_law_192 dL_law_193 rfl ?_
  refine ld5 (k := 2) C0 hX hbl hW.2.2.2.2.2.2 hl hL (by omega) (by decide) dL_law_194 dL_law_195 dL_law_196 dL_law_197 dL_law_198 rfl ?_
  refine ld5 (k := 3) C0 hX hbl hW.2.2.2.2.2.2 hl hL (by omega) (by decide) dL_law_199 dL_law_200 dL_law_201 dL_law_202 dL_law_203 rfl ?_
  refine ld5 (k := 4) C0 hX hbl hW.2.2.2.2.2.2 hl hL (by omega) (by decide) dL_law_204 dL_law_205 dL_law_206 dL_law_207 dL_law_208 rfl ?_
  refine mI (rest := [.int r]) (n := 4) C0 hW (tX5_republic E Bm hW.2.2.2.2.1 g2) gL_law_X5_republic rfl rfl (by decide +kernel) rfl hl.1 rfl rfl (Nat.le_of_ble_eq_true rfl) (by omega) (by omega) dL_law_209 (fun H locs hW => ?_)
  exact lv_icmp_eq (tgt := 1062) hx hb dL_law_212 (by decide) (fun _ => kk Bx u1 τ1 H locs cells slots rfl g3 hW (by omega) (by omega)) (fun h => absurd rfl h)
set_option maxHeartbeats 4000000 in
set_option maxRecDepth 100000 in
theorem lc_1 {p : Program} {l : Launch} {e : Env} {s : State} {m : MethodId} {args : Array Value} {below : List Frame} {meth : Method} {c : Code} {H : Heap} {locs : List Loc} {cells slots : Nat} {Q : State → Prop} {ls : Array Slot} {E : EE} {Bx Bm : Nat → Nat} {u : SX} {τ : SM} {b L i : Nat} {xs : Nat → Int32} (C0 : cx wsL_law cL_law 4 ret RL E p s m args meth c) (hX : va_X b L xs s s.heap) (hbl : b < s.heap.size) (hl : lv_has ls 4 [(0, .ref b), (1, .ref (Bx 0)), (2, .ref (Bm 0)), (3, .int (nI i))]) (hi : i + 5 < L) (hL : L ≤ 384) (hR : Rel u τ) (hW : LW E Bx Bm u τ s H locs) (h1 : cells ≤ 298) (h2 : slots ≤ 5938) (kk : ∀ (Bx' : Nat → Nat) (u' : SX) (τ' : SM) (H1 : Heap) (locs1 : List Loc) (cells1 slots1 : Nat), Bx' 0 = Bx 0 → Rel u' τ' → LW E Bx' Bm u' τ' s H1 locs1 → cells1 ≤ cells + 2 → slots1 ≤ slots + 62 → W p l e room_1 s m args below meth c H1 locs1 cells1 slots1 Q (F0 m 1062 ls [])) : W p l e room_1 s m args below meth c H locs cells slots Q (F0 m 217 ls []) := by
  obtain ⟨hx, hb, -⟩ := id C0
  obtain ⟨r, g1, g2⟩ := q_ofCitizen hR (xs (i + 1)) (xs (i + 2))
  refine lv_aload_n hx hb dL_law_217 rfl (lv_at hl 1 rfl) ?_
  refine ld5 (k := 1) C0 hX hbl hW.2.2.2.2.2.2 hl hL (by omega) (by decide) dL_law_218 dL_law_219 dL_law_220 dL_law_221 dL_law_222 rfl ?_
  refine ld5 (k := 2) C0 hX hbl hW.2.2.2.2.2.2 hl hL (by omega) (by decide) dL_law_223 dL_law_224 dL_law_225 dL_law_226 dL_law_227 rfl ?_
  refine xrI (rest := []) (n := 2) C0 hW (tX4_ofCitizen E Bx g1) gL_law_X4_ofCitizen rfl rfl (by decide +kernel) rfl hl.1 rfl rfl (Nat.le_of_ble_eq_true rfl) (by omega) (by omega) dL_law_228 ?_
  refine lv_aload_n hx hb dL_law_231 rfl (lv_at hl 2 rfl) ?_
  refine ld5 (k := 1) C0 hX hbl hW.2.2.2.2.2.2 hl hL (by omega) (by decide) dL_law_232 dL_law_233 dL_law_234 dL_law_235 dL_law_236 rfl ?_
  refine ld5 (k := 2) C0 hX hbl hW.2.2.2.2.2.2 hl hL (by omega) (by decide) dL_law_237 dL_law_238 dL_law_239 dL_law_240 dL_law_241 rfl ?_
  refine mrI (rest := [.int r]) (n := 2) C0 hW (tX5_ofCitizen E Bm g2) gL_law_X5_ofCitizen rfl rfl (by decide +kernel) rfl hl.1 rfl rfl (Nat.le_of_ble_eq_true rfl) (by omega) (by omega) dL_law_242 ?_
  exact lv_icmp_eq (tgt := 1062) hx hb dL_law_245 (by decide) (fun _ => kk Bx u τ H locs cells slots rfl hR hW (by omega) (by omega)) (fun h => absurd rfl h)
set_option maxHeartbeats 4000000 in
set_option maxRecDepth 100000 in
theorem lc_2 {p : Program} {l : Launch} {e : Env} {s : State} {m : MethodId} {args : Array Value} {below : List Frame} {meth : Method} {c : Code} {H : Heap} {locs : List Loc} {cells slots : Nat} {Q : State → Prop} {ls : Array Slot} {E : EE} {Bx Bm : Nat → Nat} {u : SX} {τ : SM} {b L i : Nat} {xs : Nat → Int32} (C0 : cx wsL_law cL_law 4 ret RL E p s m args meth c) (hX : va_X b L xs s s.heap) (hbl : b < s.heap.size) (hl : lv_has ls 4 [(0, .ref b), (1, .ref (Bx 0)), (2, .ref (Bm 0)), (3, .int (nI i))]) (hi : i + 5 < L) (hL : L ≤ 384) (hR : Rel u τ) (hW : LW E Bx Bm u τ s H locs) (h1 : cells ≤ 298) (h2 : slots ≤ 5938) (kk : ∀ (Bx' : Nat → Nat) (u' : SX) (τ' : SM) (H1 : Heap) (locs1 : List Loc) (cells1 slots1 : Nat), Bx' 0 = Bx 0 → Rel u' τ' → LW E Bx' Bm u' τ' s H1 locs1 → cells1 ≤ cells + 2 → slots1 ≤ slots + 62 → W p l e room_1 s m args below meth c H1 locs1 cells1 slots1 Q (F0 m 1062 ls [])) : W p l e room_1 s m args below meth c H locs cells slots Q (F0 m 250 ls []) := by
  obtain ⟨hx, hb, -⟩ := id C0
  obtain ⟨r, u1, τ1, g1, g2, g3⟩ := q_drawn hR (xs (i + 1))
  refine lv_aload_n hx hb dL_law_250 rfl (lv_at hl 1 rfl) ?_
  refine ld5 (k := 1) C0 hX hbl hW.2.2.2.2.2.2 hl hL (by omega) (by decide) dL_law_251 dL_law_252 dL_law_253 dL_law_254 dL_law_255 rfl ?_
  refine xI (rest := []) (n := 1) C0 hW (tX4_drawn E (AXL s Bm) Bx hW.2.1 hW.2.2.1 g1) gL_law_X4_drawn rfl rfl (by decide +kernel) rfl hl.1 rfl rfl (Nat.le_of_ble_eq_true rfl) (by omega) (by omega) dL_law_256 (fun H locs hW => ?_)
  refine lv_aload_n hx hb dL_law_259 rfl (lv_at hl 2 rfl) ?_
  refine ld5 (k := 1) C0 hX hbl hW.2.2.2.2.2.2 hl hL (by omega) (by decide) dL_law_260 dL_law_261 dL_law_262 dL_law_263 dL_law_264 rfl ?_
  refine mI (rest := [.int r]) (n := 1) C0 hW (tX5_drawn E Bm hW.2.2.2.2.1 g2) gL_law_X5_drawn rfl rfl (by decide +kernel) rfl hl.1 rfl rfl (Nat.le_of_ble_eq_true rfl) (by omega) (by omega) dL_law_265 (fun H locs hW => ?_)
  exact lv_icmp_eq (tgt := 1062) hx hb dL_law_268 (by decide) (fun _ => kk Bx u1 τ1 H locs cells slots rfl g3 hW (by omega) (by omega)) (fun h => absurd rfl h)
set_option maxHeartbeats 4000000 in
set_option maxRecDepth 100000 in
theorem lc_3 {p : Program} {l : Launch} {e : Env} {s : State} {m : MethodId} {args : Array Value} {below : List Frame} {meth : Method} {c : Code} {H : Heap} {locs : List Loc} {cells slots : Nat} {Q : State → Prop} {ls : Array Slot} {E : EE} {Bx Bm : Nat → Nat} {u : SX} {τ : SM} {b L i : Nat} {xs : Nat → Int32} (C0 : cx wsL_law cL_law 4 ret RL E p s m args meth c) (hX : va_X b L xs s s.heap) (hbl : b < s.heap.size) (hl : lv_has ls 4 [(0, .ref b), (1, .ref (Bx 0)), (2, .ref (Bm 0)), (3, .int (nI i))]) (hi : i + 5 < L) (hL : L ≤ 384) (hR : Rel u τ) (hW : LW E Bx Bm u τ s H locs) (h1 : cells ≤ 298) (h2 : slots ≤ 5938) (kk : ∀ (Bx' : Nat → Nat) (u' : SX) (τ' : SM) (H1 : Heap) (locs1 : List Loc) (cells1 slots1 : Nat), Bx' 0 = Bx 0 → Rel u' τ' → LW E Bx' Bm u' τ' s H1 locs1 → cells1 ≤ cells + 2 → slots1 ≤ slots + 62 → W p l e room_1 s m args below meth c H1 locs1 cells1 slots1 Q (F0 m 1062 ls [])) : W p l e room_1 s m args below meth c H locs cells slots Q (F0 m 273 ls []) := by
  obtain ⟨hx, hb, -⟩ := id C0
  obtain ⟨r, u1, τ1, g1, g2, g3⟩ := q_price hR (xs (i + 1))
  refine lv_aload_n hx hb dL_law_273 rfl (lv_at hl 1 rfl) ?_
  refine ld5 (k := 1) C0 hX hbl hW.2.2.2.2.2.2 hl hL (by omega) (by decide) dL_law_274 dL_law_275 dL_law_276 dL_law_277 dL_law_278 rfl ?_
  refine xI (rest := []) (n := 1) C0 hW (tX4_price E (AXL s Bm) Bx hW.2.1 hW.2.2.1 g1) gL_law_X4_price rfl rfl (by decide +kernel) rfl hl.1 rfl rfl (Nat.le_of_ble_eq_true rfl) (by omega) (by omega) dL_law_279 (fun H locs hW => ?_)
  refine lv_aload_n hx hb dL_law_282 rfl (lv_at hl 2 rfl) ?_
  refine ld5 (k := 1) C0 hX hbl hW.2.2.2.2.2.2 hl hL (by omega) (by decide) dL_law_283 dL_law_284 dL_law_285 dL_law_286 dL_law_287 rfl ?_
  refine mI (rest := [.int r]) (n := 1) C0 hW (tX5_price E Bm hW.2.2.2.2.1 g2) gL_law_X5_price rfl rfl (by decide +kernel) rfl hl.1 rfl rfl (Nat.le_of_ble_eq_true rfl) (by omega) (by omega) dL_law_288 (fun H locs hW => ?_)
  exact lv_icmp_eq (tgt := 1062) hx hb dL_law_291 (by decide) (fun _ => kk Bx u1 τ1 H locs cells slots rfl g3 hW (by omega) (by omega)) (fun h => absurd rfl h)
set_option maxHeartbeats 4000000 in
set_option maxRecDepth 100000 in
theorem lc_4 {p : Program} {l : Launch} {e : Env} {s : State} {m : MethodId} {args : Array Value} {below : List Frame} {meth : Method} {c : Code} {H : Heap} {locs : List Loc} {cells slots : Nat} {Q : State → Prop} {ls : Array Slot} {E : EE} {Bx Bm : Nat → Nat} {u : SX} {τ : SM} {b L i : Nat} {xs : Nat → Int32} (C0 : cx wsL_law cL_law 4 ret RL E p s m args meth c) (hX : va_X b L xs s s.heap) (hbl : b < s.heap.size) (hl : lv_has ls 4 [(0, .ref b), (1, .ref (Bx 0)), (2, .ref (Bm 0)), (3, .int (nI i))]) (hi : i + 5 < L) (hL : L ≤ 384) (hR : Rel u τ) (hW : LW E Bx Bm u τ s H locs) (h1 : cells ≤ 298) (h2 : slots ≤ 5938) (kk : ∀ (Bx' : Nat → Nat) (u' : SX) (τ' : SM) (H1 : Heap) (locs1 : List Loc) (cells1 slots1 : Nat), Bx' 0 = Bx 0 → Rel u' τ' → LW E Bx' Bm u' τ' s H1 locs1 → cells1 ≤ cells + 2 → slots1 ≤ slots + 62 → W p l e room_1 s m args below meth c H1 locs1 cells1 slots1 Q (F0 m 1062 ls [])) : W p l e room_1 s m args below meth c H locs cells slots Q (F0 m 296 ls []) := by
  obtain ⟨hx, hb, -⟩ := id C0
  by_cases q : xs (i + 2) = 0
  · obtain ⟨r, u1, τ1, g1, g2, g3⟩ := q_wish hR (xs (i + 1)) false
    refine lv_aload_n hx hb dL_law_296 rfl (lv_at hl 1 rfl) ?_
    refine ld5 (k := 1) C0 hX hbl hW.2.2.2.2.2.2 hl hL (by omega) (by decide) dL_law_297 dL_law_298 dL_law_299 dL_law_300 dL_law_301 rfl ?_
    refine ld5 (k := 2) C0 hX hbl hW.2.2.2.2.2.2 hl hL (by omega) (by decide) dL_law_302 dL_law_303 dL_law_304 dL_law_305 dL_law_306 rfl ?_
    refine lv_if_eq (tgt := 314) hx hb dL_law_307 (by decide) (fun _ => ?_) (fun h => absurd q h)
    refine lv_iconst (v := nI (i01 false)) hx hb dL_law_314 (by decide) ?_
    refine xI (rest := []) (n := 2) C0 hW (tX4_wish E (AXL s Bm) Bx hW.2.1 hW.2.2.1 g1) gL_law_X4_wish rfl rfl (by decide +kernel) rfl hl.1 rfl rfl (Nat.le_of_ble_eq_true rfl) (by omega) (by omega) dL_law_315 (fun H locs hW => ?_)
    refine lv_aload_n hx hb dL_law_318 rfl (lv_at hl 2 rfl) ?_
    refine ld5 (k := 1) C0 hX hbl hW.2.2.2.2.2.2 hl hL (by omega) (by decide) dL_law_319 dL_law_320 dL_law_321 dL_law_322 dL_law_323 rfl ?_
    refine ld5 (k := 2) C0 hX hbl hW.2.2.2.2.2.2 hl hL (by omega) (by decide) dL_law_324 dL_law_325 dL_law_326 dL_law_327 dL_law_328 rfl ?_
    refine lv_if_eq (tgt := 336) hx hb dL_law_329 (by decide) (fun _ => ?_) (fun h => absurd q h)
    refine lv_iconst (v := nI (i01 false)) hx hb dL_law_336 (by decide) ?_
    refine mI (rest := [.int r]) (n := 2) C0 hW (tX5_wish E Bm hW.2.2.2.2.1 g2) gL_law_X5_wish rfl rfl (by decide +kernel) rfl hl.1 rfl rfl (Nat.le_of_ble_eq_true rfl) (by omega) (by omega) dL_law_337 (fun H locs hW => ?_)
    exact lv_icmp_eq (tgt := 1062) hx hb dL_law_340 (by decide) (fun _ => kk Bx u1 τ1 H locs cells slots rfl g3 hW (by omega) (by omega)) (fun h => absurd rfl h)
  · obtain ⟨r, u1, τ1, g1, g2, g3⟩ := q_wish hR (xs (i + 1)) true
    refine lv_aload_n hx hb dL_law_296 rfl (lv_at hl 1 rfl) ?_
    refine ld5 (k := 1) C0 hX hbl hW.2.2.2.2.2.2 hl hL (by omega) (by decide) dL_law_297 dL_law_298 dL_law_299 dL_law_300 dL_law_301 rfl ?_
    refine ld5 (k := 2) C0 hX hbl hW.2.2.2.2.2.2 hl hL (by omega) (by decide) dL_law_302 dL_law_303 dL_law_304 dL_law_305 dL_law_306 rfl ?_
    refine lv_if_eq (tgt := 314) hx hb dL_law_307 (by decide) (fun h => absurd h q) (fun _ => ?_)
    refine lv_iconst (v := nI (i01 true)) hx hb dL_law_310 (by decide) ?_
    refine lv_goto (tgt := 315) hx hb dL_law_311 (by decide) ?_
    refine xI (rest := []) (n := 2) C0 hW (tX4_wish E (AXL s Bm) Bx hW.2.1 hW.2.2.1 g1) gL_law_X4_wish rfl rfl (by decide +kernel) rfl hl.1 rfl rfl (Nat.le_of_ble_eq_true rfl) (by omega) (by omega) dL_law_315 (fun H locs hW => ?_)
    refine lv_aload_n hx hb dL_law_318 rfl (lv_at hl 2 rfl) ?_
    refine ld5 (k := 1) C0 hX hbl hW.2.2.2.2.2.2 hl hL (by omega) (by decide) dL_law_319 dL_law_320 dL_law_321 dL_law_322 dL_law_323 rfl ?_
    refine ld5 (k := 2) C0 hX hbl hW.2.2.2.2.2.2 hl hL (by omega) (by decide) dL_law_324 dL_law_325 dL_law_326 dL_law_327 dL_law_328 rfl ?_
    refine lv_if_eq (tgt := 336) hx hb dL_law_329 (by decide) (fun h => absurd h q) (fun _ => ?_)
    refine lv_iconst (v := nI (i01 true)) hx hb dL_law_332 (by decide) ?_
    refine lv_goto (tgt := 337) hx hb dL_law_333 (by decide) ?_
    refine mI (rest := [.int r]) (n := 2) C0 hW (tX5_wish E Bm hW.2.2.2.2.1 g2) gL_law_X5_wish rfl rfl (by decide +kernel) rfl hl.1 rfl rfl (Nat.le_of_ble_eq_true rfl) (by omega) (by omega) dL_law_337 (fun H locs hW => ?_)
    exact lv_icmp_eq (tgt := 1062) hx hb dL_law_340 (by decide) (fun _ => kk Bx u1 τ1 H locs cells slots rfl g3 hW (by omega) (by omega)) (fun h => absurd rfl h)
set_option maxHeartbeats 4000000 in
set_option maxRecDepth 100000 in
theorem lc_5 {p : Program} {l : Launch} {e : Env} {s : State} {m : MethodId} {args : Array Value} {below : List Frame} {meth : Method} {c : Code} {H : Heap} {locs : List Loc} {cells slots : Nat} {Q : State → Prop} {ls : Array Slot} {E : EE} {Bx Bm : Nat → Nat} {u : SX} {τ : SM} {b L i : Nat} {xs : Nat → Int32} (C0 : cx wsL_law cL_law 4 ret RL E p s m args meth c) (hX : va_X b L xs s s.heap) (hbl : b < s.heap.size) (hl : lv_has ls 4 [(0, .ref b), (1, .ref (Bx 0)), (2, .ref (Bm 0)), (3, .int (nI i))]) (hi : i + 5 < L) (hL : L ≤ 384) (hR : Rel u τ) (hW : LW E Bx Bm u τ s H locs) (h1 : cells ≤ 298) (h2 : slots ≤ 5938) (kk : ∀ (Bx' : Nat → Nat) (u' : SX) (τ' : SM) (H1 : Heap) (locs1 : List Loc) (cells1 slots1 : Nat), Bx' 0 = Bx 0 → Rel u' τ' → LW E Bx' Bm u' τ' s H1 locs1 → cells1 ≤ cells + 2 → slots1 ≤ slots + 62 → W p l e room_1 s m args below meth c H1 locs1 cells1 slots1 Q (F0 m 1062 ls [])) : W p l e room_1 s m args below meth c H locs cells slots Q (F0 m 345 ls []) := by
  obtain ⟨hx, hb, -⟩ := id C0
  obtain ⟨r, u1, τ1, g1, g2, g3⟩ := q_draw hR (xs (i + 1)) (xs (i + 2)) (xs (i + 3)) (xs (i + 4)) (xs (i + 5))
  refine lv_aload_n hx hb dL_law_345 rfl (lv_at hl 1 rfl) ?_
  refine ld5 (k := 1) C0 hX hbl hW.2.2.2.2.2.2 hl hL (by omega) (by decide) dL_law_346 dL_law_347 dL_law_348 dL_law_349 dL_law_350 rfl ?_
  refine ld5 (k := 2) C0 hX hbl hW.2.2.2.2.2.2 hl hL (by omega) (by decide) dL_law_351 dL_law_352 dL_law_353 dL_law_354 dL_law_355 rfl ?_
  refine ld5 (k := 3) C0 hX hbl hW.2.2.2.2.2.2 hl hL (by omega) (by decide) dL_law_356 dL_law_357 dL_law_358 dL_law_359 dL_law_360 rfl ?_
  refine ld5 (k := 4) C0 hX hbl hW.2.2.2.2.2.2 hl hL (by omega) (by decide) dL_law_361 dL_law_362 dL_law_363 dL_law_364 dL_law_365 rfl ?_
  refine ld5 (k := 5) C0 hX hbl hW.2.2.2.2.2.2 hl hL (by omega) (by decide) dL_law_366 dL_law_367 dL_law_368 dL_law_369 dL_law_370 rfl ?_
  refine xI (rest := []) (n := 5) C0 hW (tX4_draw E (AXL s Bm) Bx hW.2.1 hW.2.2.1 g1) gL_law_X4_draw rfl rfl (by decide +kernel) rfl hl.1 rfl rfl (Nat.le_of_ble_eq_true rfl) (by omega) (by omega) dL_law_371 (fun H locs hW => ?_)
  refine lv_aload_n hx hb dL_law_374 rfl (lv_at hl 2 rfl) ?_
  refine ld5 (k := 1) C0 hX hbl hW.2.2.2.2.2.2 hl hL (by omega) (by decide) dL_law_375 dL_law_376 dL_law_377 dL_law_378 dL_law_379 rfl ?_
  refine ld5 (k := 2) C0 hX hbl hW.2.2.2.2.2.2 hl hL (by omega) (by decide) dL_law_380 dL_law_381 dL_law_382 dL_law_383 dL_law_384 rfl ?_
  refine ld5 (k := 3) C0 hX hbl hW.2.2.2.2.2.2 hl hL (by omega) (by decide) dL_law_385 dL_law_386 dL_law_387 dL_law_388 dL_law_389 rfl ?_
  refine ld5 (k := 4) C0 hX hbl hW.2.2.2.2.2.2 hl hL (by omega) (by decide) dL_law_390 dL_law_391 dL_law_392 dL_law_393 dL_law_394 rfl ?_
  refine ld5 (k := 5) C0 hX hbl hW.2.2.2.2.2.2 hl hL (by omega) (by decide) dL_law_395 dL_law_396 dL_law_397 dL_law_398 dL_law_399 rfl ?_
  refine mI (rest := [.int r]) (n := 5) C0 hW (tX5_draw E Bm hW.2.2.2.2.1 g2) gL_law_X5_draw rfl rfl (by decide +kernel) rfl hl.1 rfl rfl (Nat.le_of_ble_eq_true rfl) (by omega) (by omega) dL_law_400 (fun H locs hW => ?_)
  exact lv_icmp_eq (tgt := 1062) hx hb dL_law_403 (by decide) (fun _ => kk Bx u1 τ1 H locs cells slots rfl g3 hW (by omega) (by omega)) (fun h => absurd rfl h)
set_option maxHeartbeats 4000000 in
set_option maxRecDepth 100000 in
theorem lc_6 {p : Program} {l : Launch} {e : Env} {s : State} {m : MethodId} {args : Array Value} {below : List Frame} {meth : Method} {c : Code} {H : Heap} {locs : List Loc} {cells slots : Nat} {Q : State → Prop} {ls : Array Slot} {E : EE} {Bx Bm : Nat → Nat} {u : SX} {τ : SM} {b L i : Nat} {xs : Nat → Int32} (C0 : cx wsL_law cL_law 4 ret RL E p s m args meth c) (hX : va_X b L xs s s.heap) (hbl : b < s.heap.size) (hl : lv_has ls 4 [(0, .ref b), (1, .ref (Bx 0)), (2, .ref (Bm 0)), (3, .int (nI i))]) (hi : i + 5 < L) (hL : L ≤ 384) (hR : Rel u τ) (hW : LW E Bx Bm u τ s H locs) (h1 : cells ≤ 298) (h2 : slots ≤ 5938) (kk : ∀ (Bx' : Nat → Nat) (u' : SX) (τ' : SM) (H1 : Heap) (locs1 : List Loc) (cells1 slots1 : Nat), Bx' 0 = Bx 0 → Rel u' τ' → LW E Bx' Bm u' τ' s H1 locs1 → cells1 ≤ cells + 2 → slots1 ≤ slots + 62 → W p l e room_1 s m args below meth c H1 locs1 cells1 slots1 Q (F0 m 1062 ls [])) : W p l e room_1 s m args below meth c H locs cells slots Q (F0 m 408 ls []) := by
  obtain ⟨hx, hb, -⟩ := id C0
  obtain ⟨r, u1, g1, g2, g3⟩ := q_rules hR (xs (i + 1)) (xs (i + 2))
  refine lv_aload_n hx hb dL_law_408 rfl (lv_at hl 1 rfl) ?_
  refine ld5 (k := 1) C0 hX hbl hW.2.2.2.2.2.2 hl hL (by omega) (by decide) dL_law_409 dL_law_410 dL_law_411 dL_law_412 dL_law_413 rfl ?_
  refine ld5 (k := 2) C0 hX hbl hW.2.2.2.2.2.2 hl hL (by omega) (by decide) dL_law_414 dL_law_415 dL_law_416 dL_law_417 dL_law_418 rfl ?_
  refine xL (rest := []) (n := 2) C0 hW (tX4_rules E (AXL s Bm) Bx hW.2.1 hW.2.2.1 g1) gL_law_X4_rules rfl rfl (by decide +kernel) rfl hl.1 rfl rfl (Nat.le_of_ble_eq_true rfl) (by omega) (by omega) dL_law_419 (fun H locs hW => ?_)
  refine lv_aload_n hx hb dL_law_422 rfl (lv_at hl 2 rfl) ?_
  refine ld5 (k := 1) C0 hX hbl hW.2.2.2.2.2.2 hl hL (by omega) (by decide) dL_law_423 dL_law_424 dL_law_425 dL_law_426 dL_law_427 rfl ?_
  refine ld5 (k := 2) C0 hX hbl hW.2.2.2.2.2.2 hl hL (by omega) (by decide) dL_law_428 dL_law_429 dL_law_430 dL_law_431 dL_law_432 rfl ?_
  refine mrL (rest := [.long r]) (n := 2) C0 hW (tX5_rules E Bm g2) gL_law_X5_rules rfl rfl (by decide +kernel) rfl hl.1 rfl rfl (Nat.le_of_ble_eq_true rfl) (by omega) (by omega) dL_law_433 ?_
  refine W.lcmp hx hb dL_law_436 ?_
  exact lv_if_eq (tgt := 1062) hx hb dL_law_437 (by decide) (fun _ => kk Bx u1 τ H locs cells slots rfl g3 hW (by omega) (by omega)) (fun h => absurd ((lg_cmp_eq _ _).mpr rfl) h)
set_option maxHeartbeats 4000000 in
set_option maxRecDepth 100000 in
theorem lc_7 {p : Program} {l : Launch} {e : Env} {s : State} {m : MethodId} {args : Array Value} {below : List Frame} {meth : Method} {c : Code} {H : Heap} {locs : List Loc} {cells slots : Nat} {Q : State → Prop} {ls : Array Slot} {E : EE} {Bx Bm : Nat → Nat} {u : SX} {τ : SM} {b L i : Nat} {xs : Nat → Int32} (C0 : cx wsL_law cL_law 4 ret RL E p s m args meth c) (hX : va_X b L xs s s.heap) (hbl : b < s.heap.size) (hl : lv_has ls 4 [(0, .ref b), (1, .ref (Bx 0)), (2, .ref (Bm 0)), (3, .int (nI i))]) (hi : i + 5 < L) (hL : L ≤ 384) (hR : Rel u τ) (hW : LW E Bx Bm u τ s H locs) (h1 : cells ≤ 298) (h2 : slots ≤ 5938) (kk : ∀ (Bx' : Nat → Nat) (u' : SX) (τ' : SM) (H1 : Heap) (locs1 : List Loc) (cells1 slots1 : Nat), Bx' 0 = Bx 0 → Rel u' τ' → LW E Bx' Bm u' τ' s H1 locs1 → cells1 ≤ cells + 2 → slots1 ≤ slots + 62 → W p l e room_1 s m args below meth c H1 locs1 cells1 slots1 Q (F0 m 1062 ls [])) : W p l e room_1 s m args below meth c H locs cells slots Q (F0 m 442 ls []) := by
  obtain ⟨hx, hb, -⟩ := id C0
  obtain ⟨r, u1, g1, g2, g3⟩ := q_just hR (xs (i + 1)) (xs (i + 2))
  refine lv_aload_n hx hb dL_law_442 rfl (lv_at hl 1 rfl) ?_
  refine ld5 (k := 1) C0 hX hbl hW.2.2.2.2.2.2 hl hL (by omega) (by decide) dL_law_443 dL_law_444 dL_law_445 dL_law_446 dL_law_447 rfl ?_
  refine ld5 (k := 2) C0 hX hbl hW.2.2.2.2.2.2 hl hL (by omega) (by decide) dL_law_448 dL_law_449 dL_law_450 dL_law_451 dL_law_452 rfl ?_
  refine xL (rest := []) (n := 2) C0 hW (tX4_just E (AXL s Bm) Bx hW.2.1 hW.2.2.1 g1) gL_law_X4_just rfl rfl (by decide +kernel) rfl hl.1 rfl rfl (Nat.le_of_ble_eq_true rfl) (by omega) (by omega) dL_law_453 (fun H locs hW => ?_)
  refine lv_aload_n hx hb dL_law_456 rfl (lv_at hl 2 rfl) ?_
  refine ld5 (k := 1) C0 hX hbl hW.2.2.2.2.2.2 hl hL (by omega) (by decide) dL_law_457 dL_law_458 dL_law_459 dL_law_460 dL_law_461 rfl ?_
  refine ld5 (k := 2) C0 hX hbl hW.2.2.2.2.2.2 hl hL (by omega) (by decide) dL_law_462 dL_law_463 dL_law_464 dL_law_465 dL_law_466 rfl ?_
  refine mrL (rest := [.long r]) (n := 2) C0 hW (tX5_just E Bm g2) gL_law_X5_just rfl rfl (by decide +kernel) rfl hl.1 rfl rfl (Nat.le_of_ble_eq_true rfl) (by omega) (by omega) dL_law_467 ?_
  refine W.lcmp hx hb dL_law_470 ?_
  exact lv_if_eq (tgt := 1062) hx hb dL_law_471 (by decide) (fun _ => kk Bx u1 τ H locs cells slots rfl g3 hW (by omega) (by omega)) (fun h => absurd ((lg_cmp_eq _ _).mpr rfl) h)
set_option maxHeartbeats 4000000 in
set_option maxRecDepth 100000 in
theorem lc_8 {p : Program} {l : Launch} {e : Env} {s : State} {m : MethodId} {args : Array Value} {below : List Frame} {meth : Method} {c : Code} {H : Heap} {locs : List Loc} {cells slots : Nat} {Q : State → Prop} {ls : Array Slot} {E : EE} {Bx Bm : Nat → Nat} {u : SX} {τ : SM} {b L i : Nat} {xs : Nat → Int32} (C0 : cx wsL_law cL_law 4 ret RL E p s m args meth c) (hX : va_X b L xs s s.heap) (hbl : b < s.heap.size) (hl : lv_has ls 4 [(0, .ref b), (1, .ref (Bx 0)), (2, .ref (Bm 0)), (3, .int (nI i))]) (hi : i + 5 < L) (hL : L ≤ 384) (hR : Rel u τ) (hW : LW E Bx Bm u τ s H locs) (h1 : cells ≤ 298) (h2 : slots ≤ 5938) (kk : ∀ (Bx' : Nat → Nat) (u' : SX) (τ' : SM) (H1 : Heap) (locs1 : List Loc) (cells1 slots1 : Nat), Bx' 0 = Bx 0 → Rel u' τ' → LW E Bx' Bm u' τ' s H1 locs1 → cells1 ≤ cells + 2 → slots1 ≤ slots + 62 → W p l e room_1 s m args below meth c H1 locs1 cells1 slots1 Q (F0 m 1062 ls [])) : W p l e room_1 s m args below meth c H locs cells slots Q (F0 m 476 ls []) := by
  obtain ⟨hx, hb, -⟩ := id C0
  obtain ⟨r, u1, g1, g2, g3⟩ := q_mean hR (xs (i + 1))
  refine lv_aload_n hx hb dL_law_476 rfl (lv_at hl 1 rfl) ?_
  refine ld5 (k := 1) C0 hX hbl hW.2.2.2.2.2.2 hl hL (by omega) (by decide) dL_law_477 dL_law_478 dL_law_479 dL_law_480 dL_law_481 rfl ?_
  refine xL (rest := []) (n := 1) C0 hW (tX4_mean E (AXL s Bm) Bx hW.2.1 hW.2.2.1 g1) gL_law_X4_mean rfl rfl (by decide +kernel) rfl hl.1 rfl rfl (Nat.le_of_ble_eq_true rfl) (by omega) (by omega) dL_law_482 (fun H locs hW => ?_)
  refine lv_aload_n hx hb dL_law_485 rfl (lv_at hl 2 rfl) ?_
  refine ld5 (k := 1) C0 hX hbl hW.2.2.2.2.2.2 hl hL (by omega) (by decide) dL_law_486 dL_law_487 dL_law_488 dL_law_489 dL_law_490 rfl ?_
  refine mrL (rest := [.long r]) (n := 1) C0 hW (tX5_mean E Bm g2) gL_law_X5_mean rfl rfl (by decide +kernel) rfl hl.1 rfl rfl (Nat.le_of_ble_eq_true rfl) (by omega) (by omega) dL_law_491 ?_
  refine W.lcmp hx hb dL_law_494 ?_
  exact lv_if_eq (tgt := 1062) hx hb dL_law_495 (by decide) (fun _ => kk Bx u1 τ H locs cells slots rfl g3 hW (by omega) (by omega)) (fun h => absurd ((lg_cmp_eq _ _).mpr rfl) h)
set_option maxHeartbeats 4000000 in
set_option maxRecDepth 100000 in
theorem lc_9 {p : Program} {l : Launch} {e : Env} {s : State} {m : MethodId} {args : Array Value} {below : List Frame} {meth : Method} {c : Code} {H : Heap} {locs : List Loc} {cells slots : Nat} {Q : State → Prop} {ls : Array Slot} {E : EE} {Bx Bm : Nat → Nat} {u : SX} {τ : SM} {b L i : Nat} {xs : Nat → Int32} (C0 : cx wsL_law cL_law 4 ret RL E p s m args meth c) (hX : va_X b L xs s s.heap) (hbl : b < s.heap.size) (hl : lv_has ls 4 [(0, .ref b), (1, .ref (Bx 0)), (2, .ref (Bm 0)), (3, .int (nI i))]) (hi : i + 5 < L) (hL : L ≤ 384) (hR : Rel u τ) (hW : LW E Bx Bm u τ s H locs) (h1 : cells ≤ 298) (h2 : slots ≤ 5938) (kk : ∀ (Bx' : Nat → Nat) (u' : SX) (τ' : SM) (H1 : Heap) (locs1 : List Loc) (cells1 slots1 : Nat), Bx' 0 = Bx 0 → Rel u' τ' → LW E Bx' Bm u' τ' s H1 locs1 → cells1 ≤ cells + 2 → slots1 ≤ slots + 62 → W p l e room_1 s m args below meth c H1 locs1 cells1 slots1 Q (F0 m 1062 ls [])) : W p l e room_1 s m args below meth c H locs cells slots Q (F0 m 500 ls []) := by
  obtain ⟨hx, hb, -⟩ := id C0
  obtain ⟨r, u1, g1, g2, g3⟩ := q_passes hR (xs (i + 1))
  refine lv_aload_n hx hb dL_law_500 rfl (lv_at hl 1 rfl) ?_
  refine ld5 (k := 1) C0 hX hbl hW.2.2.2.2.2.2 hl hL (by omega) (by decide) dL_law_501 dL_law_502 dL_law_503 dL_law_504 dL_law_505 rfl ?_
  refine xL (rest := []) (n := 1) C0 hW (tX4_passes E (AXL s Bm) Bx hW.2.1 hW.2.2.1 g1) gL_law_X4_passes rfl rfl (by decide +kernel) rfl hl.1 rfl rfl (Nat.le_of_ble_eq_true rfl) (by omega) (by omega) dL_law_506 (fun H locs hW => ?_)
  refine lv_aload_n hx hb dL_law_509 rfl (lv_at hl 2 rfl) ?_
  refine ld5 (k := 1) C0 hX hbl hW.2.2.2.2.2.2 hl hL (by omega) (by decide) dL_law_510 dL_law_511 dL_law_512 dL_law_513 dL_law_514 rfl ?_
  refine mrL (rest := [.long r]) (n := 1) C0 hW (tX5_passes E Bm g2) gL_law_X5_passes rfl rfl (by decide +kernel) rfl hl.1 rfl rfl (Nat.le_of_ble_eq_true rfl) (by omega) (by omega) dL_law_515 ?_
  refine W.lcmp hx hb dL_law_518 ?_
  exact lv_if_eq (tgt := 1062) hx hb dL_law_519 (by decide) (fun _ => kk Bx u1 τ H locs cells slots rfl g3 hW (by omega) (by omega)) (fun h => absurd ((lg_cmp_eq _ _).mpr rfl) h)
set_option maxHeartbeats 4000000 in
set_option maxRecDepth 100000 in
theorem lc_10 {p : Program} {l : Launch} {e : Env} {s : State} {m : MethodId} {args : Array Value} {below : List Frame} {meth : Method} {c : Code} {H : Heap} {locs : List Loc} {cells slots : Nat} {Q : State → Prop} {ls : Array Slot} {E : EE} {Bx Bm : Nat → Nat} {u : SX} {τ : SM} {b L i : Nat} {xs : Nat → Int32} (C0 : cx wsL_law cL_law 4 ret RL E p s m args meth c) (hX : va_X b L xs s s.heap) (hbl : b < s.heap.size) (hl : lv_has ls 4 [(0, .ref b), (1, .ref (Bx 0)), (2, .ref (Bm 0)), (3, .int (nI i))]) (hi : i + 5 < L) (hL : L ≤ 384) (hR : Rel u τ) (hW : LW E Bx Bm u τ s H locs) (h1 : cells ≤ 298) (h2 : slots ≤ 5938) (kk : ∀ (Bx' : Nat → Nat) (u' : SX) (τ' : SM) (H1 : Heap) (locs1 : List Loc) (cells1 slots1 : Nat), Bx' 0 = Bx 0 → Rel u' τ' → LW E Bx' Bm u' τ' s H1 locs1 → cells1 ≤ cells + 2 → slots1 ≤ slots + 62 → W p l e room_1 s m args below meth c H1 locs1 cells1 slots1 Q (F0 m 1062 ls [])) : W p l e room_1 s m args below meth c H locs cells slots Q (F0 m 524 ls []) := by
  obtain ⟨hx, hb, -⟩ := id C0
  obtain ⟨r, u1, g1, g2, g3⟩ := q_buy hR (xs (i + 1)) (xs (i + 2)) (xs (i + 3))
  refine lv_aload_n hx hb dL_law_524 rfl (lv_at hl 1 rfl) ?_
  refine ld5 (k := 1) C0 hX hbl hW.2.2.2.2.2.2 hl hL (by omega) (by decide) dL_law_525 dL_law_526 dL_law_527 dL_law_528 dL_law_529 rfl ?_
  refine ld5 (k := 2) C0 hX hbl hW.2.2.2.2.2.2 hl hL (by omega) (by decide) dL_law_530 dL_law_531 dL_law_532 dL_law_533 dL_law_534 rfl ?_
  refine ld5 (k := 3) C0 hX hbl hW.2.2.2.2.2.2 hl hL (by omega) (by decide) dL_law_535 dL_law_536 dL_law_537 dL_law_538 dL_law_539 rfl ?_
  refine xI (rest := []) (n := 3) C0 hW (tX4_buy E (AXL s Bm) Bx hW.2.1 hW.2.2.1 g1) gL_law_X4_buy rfl rfl (by decide +kernel) rfl hl.1 rfl rfl (Nat.le_of_ble_eq_true rfl) (by omega) (by omega) dL_law_540 (fun H locs hW => ?_)
  refine lv_aload_n hx hb dL_law_543 rfl (lv_at hl 2 rfl) ?_
  refine ld5 (k := 1) C0 hX hbl hW.2.2.2.2.2.2 hl hL (by omega) (by decide) dL_law_544 dL_law_545 dL_law_546 dL_law_547 dL_law_548 rfl ?_
  refine ld5 (k := 2) C0 hX hbl hW.2.2.2.2.2.2 hl hL (by omega) (by decide) dL_law_549 dL_law_550 dL_law_551 dL_law_552 dL_law_553 rfl ?_
  refine ld5 (k := 3) C0 hX hbl hW.2.2.2.2.2.2 hl hL (by omega) (by decide) dL_law_554 dL_law_555 dL_law_556 dL_law_557 dL_law_558 rfl ?_
  refine mrI (rest := [.int r]) (n := 3) C0 hW (tX5_buy E Bm g2) gL_law_X5_buy rfl rfl (by decide +kernel) rfl hl.1 rfl rfl (Nat.le_of_ble_eq_true rfl) (by omega) (by omega) dL_law_559 ?_
  exact lv_icmp_eq (tgt := 1062) hx hb dL_law_562 (by decide) (fun _ => kk Bx u1 τ H locs cells slots rfl g3 hW (by omega) (by omega)) (fun h => absurd rfl h)
set_option maxHeartbeats 4000000 in
set_option maxRecDepth 100000 in
theorem lc_11 {p : Program} {l : Launch} {e : Env} {s : State} {m : MethodId} {args : Array Value} {below : List Frame} {meth : Method} {c : Code} {H : Heap} {locs : List Loc} {cells slots : Nat} {Q : State → Prop} {ls : Array Slot} {E : EE} {Bx Bm : Nat → Nat} {u : SX} {τ : SM} {b L i : Nat} {xs : Nat → Int32} (C0 : cx wsL_law cL_law 4 ret RL E p s m args meth c) (hX : va_X b L xs s s.heap) (hbl : b < s.heap.size) (hl : lv_has ls 4 [(0, .ref b), (1, .ref (Bx 0)), (2, .ref (Bm 0)), (3, .int (nI i))]) (hi : i + 5 < L) (hL : L ≤ 384) (hR : Rel u τ) (hW : LW E Bx Bm u τ s H locs) (h1 : cells ≤ 298) (h2 : slots ≤ 5938) (kk : ∀ (Bx' : Nat → Nat) (u' : SX) (τ' : SM) (H1 : Heap) (locs1 : List Loc) (cells1 slots1 : Nat), Bx' 0 = Bx 0 → Rel u' τ' → LW E Bx' Bm u' τ' s H1 locs1 → cells1 ≤ cells + 2 → slots1 ≤ slots + 62 → W p l e room_1 s m args below meth c H1 locs1 cells1 slots1 Q (F0 m 1062 ls [])) : W p l e room_1 s m args below meth c H locs cells slots Q (F0 m 567 ls []) := by
  obtain ⟨hx, hb, -⟩ := id C0
  obtain ⟨r, u1, τ1, g1, g2, g3⟩ := q_lend hR (xs (i + 1))
  refine lv_aload_n hx hb dL_law_567 rfl (lv_at hl 1 rfl) ?_
  refine ld5 (k := 1) C0 hX hbl hW.2.2.2.2.2.2 hl hL (by omega) (by decide) dL_law_568 dL_law_569 dL_law_570 dL_law_571 dL_law_572 rfl ?_
  refine xI (rest := []) (n := 1) C0 hW (tX4_lend E (AXL s Bm) Bx hW.2.1 hW.2.2.1 g1) gL_law_X4_lend rfl rfl (by decide +kernel) rfl hl.1 rfl rfl (Nat.le_of_ble_eq_true rfl) (by omega) (by omega) dL_law_573 (fun H locs hW => ?_)
  refine lv_aload_n hx hb dL_law_576 rfl (lv_at hl 2 rfl) ?_
  refine ld5 (k := 1) C0 hX hbl hW.2.2.2.2.2.2 hl hL (by omega) (by decide) dL_law_577 dL_law_578 dL_law_579 dL_law_580 dL_law_581 rfl ?_
  refine mI (rest := [.int r]) (n := 1) C0 hW (tX5_lend E Bm hW.2.2.2.2.1 g2) gL_law_X5_lend rfl rfl (by decide +kernel) rfl hl.1 rfl rfl (Nat.le_of_ble_eq_true rfl) (by omega) (by omega) dL_law_582 (fun H locs hW => ?_)
  exact lv_icmp_eq (tgt := 1062) hx hb dL_law_585 (by decide) (fun _ => kk Bx u1 τ1 H locs cells slots rfl g3 hW (by omega) (by omega)) (fun h => absurd rfl h)
set_option maxHeartbeats 4000000 in
set_option maxRecDepth 100000 in
theorem lc_12 {p : Program} {l : Launch} {e : Env} {s : State} {m : MethodId} {args : Array Value} {below : List Frame} {meth : Method} {c : Code} {H : Heap} {locs : List Loc} {cells slots : Nat} {Q : State → Prop} {ls : Array Slot} {E : EE} {Bx Bm : Nat → Nat} {u : SX} {τ : SM} {b L i : Nat} {xs : Nat → Int32} (C0 : cx wsL_law cL_law 4 ret RL E p s m args meth c) (hX : va_X b L xs s s.heap) (hbl : b < s.heap.size) (hl : lv_has ls 4 [(0, .ref b), (1, .ref (Bx 0)), (2, .ref (Bm 0)), (3, .int (nI i))]) (hi : i + 5 < L) (hL : L ≤ 384) (hR : Rel u τ) (hW : LW E Bx Bm u τ s H locs) (h1 : cells ≤ 298) (h2 : slots ≤ 5938) (kk : ∀ (Bx' : Nat → Nat) (u' : SX) (τ' : SM) (H1 : Heap) (locs1 : List Loc) (cells1 slots1 : Nat), Bx' 0 = Bx 0 → Rel u' τ' → LW E Bx' Bm u' τ' s H1 locs1 → cells1 ≤ cells + 2 → slots1 ≤ slots + 62 → W p l e room_1 s m args below meth c H1 locs1 cells1 slots1 Q (F0 m 1062 ls [])) : W p l e room_1 s m args below meth c H locs cells slots Q (F0 m 590 ls []) := by
  obtain ⟨hx, hb, -⟩ := id C0
  obtain ⟨r, u1, τ1, g1, g2, g3⟩ := q_least hR (xs (i + 1))
  refine lv_aload_n hx hb dL_law_590 rfl (lv_at hl 1 rfl) ?_
  refine ld5 (k := 1) C0 hX hbl hW.2.2.2.2.2.2 hl hL (by omega) (by decide) dL_law_591 dL_law_592 dL_law_593 dL_law_594 dL_law_595 rfl ?_
  refine xI (rest := []) (n := 1) C0 hW (tX4_least E (AXL s Bm) Bx hW.2.1 hW.2.2.1 g1) gL_law_X4_least rfl rfl (by decide +kernel) rfl hl.1 rfl rfl (Nat.le_of_ble_eq_true rfl) (by omega) (by omega) dL_law_596 (fun H locs hW => ?_)
  refine lv_aload_n hx hb dL_law_599 rfl (lv_at hl 2 rfl) ?_
  refine ld5 (k := 1) C0 hX hbl hW.2.2.2.2.2.2 hl hL (by omega) (by decide) dL_law_600 dL_law_601 dL_law_602 dL_law_603 dL_law_604 rfl ?_
  refine mI (rest := [.int r]) (n := 1) C0 hW (tX5_least E Bm hW.2.2.2.2.1 g2) gL_law_X5_least rfl rfl (by decide +kernel) rfl hl.1 rfl rfl (Nat.le_of_ble_eq_true rfl) (by omega) (by omega) dL_law_605 (fun H locs hW => ?_)
  exact lv_icmp_eq (tgt := 1062) hx hb dL_law_608 (by decide) (fun _ => kk Bx u1 τ1 H locs cells slots rfl g3 hW (by omega) (by omega)) (fun h => absurd rfl h)
set_option maxHeartbeats 4000000 in
set_option maxRecDepth 100000 in
theorem lc_13 {p : Program} {l : Launch} {e : Env} {s : State} {m : MethodId} {args : Array Value} {below : List Frame} {meth : Method} {c : Code} {H : Heap} {locs : List Loc} {cells slots : Nat} {Q : State → Prop} {ls : Array Slot} {E : EE} {Bx Bm : Nat → Nat} {u : SX} {τ : SM} {b L i : Nat} {xs : Nat → Int32} (C0 : cx wsL_law cL_law 4 ret RL E p s m args meth c) (hX : va_X b L xs s s.heap) (hbl : b < s.heap.size) (hl : lv_has ls 4 [(0, .ref b), (1, .ref (Bx 0)), (2, .ref (Bm 0)), (3, .int (nI i))]) (hi : i + 5 < L) (hL : L ≤ 384) (hR : Rel u τ) (hW : LW E Bx Bm u τ s H locs) (h1 : cells ≤ 298) (h2 : slots ≤ 5938) (kk : ∀ (Bx' : Nat → Nat) (u' : SX) (τ' : SM) (H1 : Heap) (locs1 : List Loc) (cells1 slots1 : Nat), Bx' 0 = Bx 0 → Rel u' τ' → LW E Bx' Bm u' τ' s H1 locs1 → cells1 ≤ cells + 2 → slots1 ≤ slots + 62 → W p l e room_1 s m args below meth c H1 locs1 cells1 slots1 Q (F0 m 1062 ls [])) : W p l e room_1 s m args below meth c H locs cells slots Q (F0 m 613 ls []) := by
  obtain ⟨hx, hb, -⟩ := id C0
  obtain ⟨r, u1, τ1, g1, g2, g3⟩ := q_reading hR (xs (i + 1))
  refine lv_aload_n hx hb dL_law_613 rfl (lv_at hl 1 rfl) ?_
  refine ld5 (k := 1) C0 hX hbl hW.2.2.2.2.2.2 hl hL (by omega) (by decide) dL_law_614 dL_law_615 dL_law_616 dL_law_617 dL_law_618 rfl ?_
  refine xI (rest := []) (n := 1) C0 hW (tX4_reading E (AXL s Bm) Bx hW.2.1 hW.2.2.1 g1) gL_law_X4_reading rfl rfl (by decide +kernel) rfl hl.1 rfl rfl (Nat.le_of_ble_eq_true rfl) (by omega) (by omega) dL_law_619 (fun H locs hW => ?_)
  refine lv_aload_n hx hb dL_law_622 rfl (lv_at hl 2 rfl) ?_
  refine ld5 (k := 1) C0 hX hbl hW.2.2.2.2.2.2 hl hL (by omega) (by decide) dL_law_623 dL_law_624 dL_law_625 dL_law_626 dL_law_627 rfl ?_
  refine mI (rest := [.int r]) (n := 1) C0 hW (tX5_reading E Bm hW.2.2.2.2.1 g2) gL_law_X5_reading rfl rfl (by decide +kernel) rfl hl.1 rfl rfl (Nat.le_of_ble_eq_true rfl) (by omega) (by omega) dL_law_628 (fun H locs hW => ?_)
  exact lv_icmp_eq (tgt := 1062) hx hb dL_law_631 (by decide) (fun _ => kk Bx u1 τ1 H locs cells slots rfl g3 hW (by omega) (by omega)) (fun h => absurd rfl h)
set_option maxHeartbeats 4000000 in
set_option maxRecDepth 100000 in
theorem lc_14 {p : Program} {l : Launch} {e : Env} {s : State} {m : MethodId} {args : Array Value} {below : List Frame} {meth : Method} {c : Code} {H : Heap} {locs : List Loc} {cells slots : Nat} {Q : State → Prop} {ls : Array Slot} {E : EE} {Bx Bm : Nat → Nat} {u : SX} {τ : SM} {b L i : Nat} {xs : Nat → Int32} (C0 : cx wsL_law cL_law 4 ret RL E p s m args meth c) (hX : va_X b L xs s s.heap) (hbl : b < s.heap.size) (hl : lv_has ls 4 [(0, .ref b), (1, .ref (Bx 0)), (2, .ref (Bm 0)), (3, .int (nI i))]) (hi : i + 5 < L) (hL : L ≤ 384) (hR : Rel u τ) (hW : LW E Bx Bm u τ s H locs) (h1 : cells ≤ 298) (h2 : slots ≤ 5938) (kk : ∀ (Bx' : Nat → Nat) (u' : SX) (τ' : SM) (H1 : Heap) (locs1 : List Loc) (cells1 slots1 : Nat), Bx' 0 = Bx 0 → Rel u' τ' → LW E Bx' Bm u' τ' s H1 locs1 → cells1 ≤ cells + 2 → slots1 ≤ slots + 62 → W p l e room_1 s m args below meth c H1 locs1 cells1 slots1 Q (F0 m 1062 ls [])) : W p l e room_1 s m args below meth c H locs cells slots Q (F0 m 636 ls []) := by
  obtain ⟨hx, hb, -⟩ := id C0
  obtain ⟨r, u1, τ1, g1, g2, g3⟩ := q_back hR (xs (i + 1))
  refine lv_aload_n hx hb dL_law_636 rfl (lv_at hl 1 rfl) ?_
  refine ld5 (k := 1) C0 hX hbl hW.2.2.2.2.2.2 hl hL (by omega) (by decide) dL_law_637 dL_law_638 dL_law_639 dL_law_640 dL_law_641 rfl ?_
  refine xI (rest := []) (n := 1) C0 hW (tX4_back E (AXL s Bm) Bx hW.2.1 hW.2.2.1 g1) gL_law_X4_back rfl rfl (by decide +kernel) rfl hl.1 rfl rfl (Nat.le_of_ble_eq_true rfl) (by omega) (by omega) dL_law_642 (fun H locs hW => ?_)
  refine lv_aload_n hx hb dL_law_645 rfl (lv_at hl 2 rfl) ?_
  refine ld5 (k := 1) C0 hX hbl hW.2.2.2.2.2.2 hl hL (by omega) (by decide) dL_law_646 dL_law_647 dL_law_648 dL_law_649 dL_law_650 rfl ?_
  refine mI (rest := [.int r]) (n := 1) C0 hW (tX5_back E Bm hW.2.2.2.2.1 g2) gL_law_X5_back rfl rfl (by decide +kernel) rfl hl.1 rfl rfl (Nat.le_of_ble_eq_true rfl) (by omega) (by omega) dL_law_651 (fun H locs hW => ?_)
  exact lv_icmp_eq (tgt := 1062) hx hb dL_law_654 (by decide) (fun _ => kk Bx u1 τ1 H locs cells slots rfl g3 hW (by omega) (by omega)) (fun h => absurd rfl h)
set_option maxHeartbeats 4000000 in
set_option maxRecDepth 100000 in
theorem lc_15 {p : Program} {l : Launch} {e : Env} {s : State} {m : MethodId} {args : Array Value} {below : List Frame} {meth : Method} {c : Code} {H : Heap} {locs : List Loc} {cells slots : Nat} {Q : State → Prop} {ls : Array Slot} {E : EE} {Bx Bm : Nat → Nat} {u : SX} {τ : SM} {b L i : Nat} {xs : Nat → Int32} (C0 : cx wsL_law cL_law 4 ret RL E p s m args meth c) (hX : va_X b L xs s s.heap) (hbl : b < s.heap.size) (hl : lv_has ls 4 [(0, .ref b), (1, .ref (Bx 0)), (2, .ref (Bm 0)), (3, .int (nI i))]) (hi : i + 5 < L) (hL : L ≤ 384) (hR : Rel u τ) (hW : LW E Bx Bm u τ s H locs) (h1 : cells ≤ 298) (h2 : slots ≤ 5938) (kk : ∀ (Bx' : Nat → Nat) (u' : SX) (τ' : SM) (H1 : Heap) (locs1 : List Loc) (cells1 slots1 : Nat), Bx' 0 = Bx 0 → Rel u' τ' → LW E Bx' Bm u' τ' s H1 locs1 → cells1 ≤ cells + 2 → slots1 ≤ slots + 62 → W p l e room_1 s m args below meth c H1 locs1 cells1 slots1 Q (F0 m 1062 ls [])) : W p l e room_1 s m args below meth c H locs cells slots Q (F0 m 659 ls []) := by
  obtain ⟨hx, hb, -⟩ := id C0
  obtain ⟨r, u1, τ1, g1, g2, g3⟩ := q_tickets hR (xs (i + 1))
  refine lv_aload_n hx hb dL_law_659 rfl (lv_at hl 1 rfl) ?_
  refine ld5 (k := 1) C0 hX hbl hW.2.2.2.2.2.2 hl hL (by omega) (by decide) dL_law_660 dL_law_661 dL_law_662 dL_law_663 dL_law_664 rfl ?_
  refine xI (rest := []) (n := 1) C0 hW (tX4_tickets E (AXL s Bm) Bx hW.2.1 hW.2.2.1 g1) gL_law_X4_tickets rfl rfl (by decide +kernel) rfl hl.1 rfl rfl (Nat.le_of_ble_eq_true rfl) (by omega) (by omega) dL_law_665 (fun H locs hW => ?_)
  refine lv_aload_n hx hb dL_law_668 rfl (lv_at hl 2 rfl) ?_
  refine ld5 (k := 1) C0 hX hbl hW.2.2.2.2.2.2 hl hL (by omega) (by decide) dL_law_669 dL_law_670 dL_law_671 dL_law_672 dL_law_673 rfl ?_
  refine mI (rest := [.int r]) (n := 1) C0 hW (tX5_tickets E Bm hW.2.2.2.2.1 g2) gL_law_X5_tickets rfl rfl (by decide +kernel) rfl hl.1 rfl rfl (Nat.le_of_ble_eq_true rfl) (by omega) (by omega) dL_law_674 (fun H locs hW => ?_)
  exact lv_icmp_eq (tgt := 1062) hx hb dL_law_677 (by decide) (fun _ => kk Bx u1 τ1 H locs cells slots rfl g3 hW (by omega) (by omega)) (fun h => absurd rfl h)
set_option maxHeartbeats 4000000 in
set_option maxRecDepth 100000 in
theorem lc_16 {p : Program} {l : Launch} {e : Env} {s : State} {m : MethodId} {args : Array Value} {below : List Frame} {meth : Method} {c : Code} {H : Heap} {locs : List Loc} {cells slots : Nat} {Q : State → Prop} {ls : Array Slot} {E : EE} {Bx Bm : Nat → Nat} {u : SX} {τ : SM} {b L i : Nat} {xs : Nat → Int32} (C0 : cx wsL_law cL_law 4 ret RL E p s m args meth c) (hX : va_X b L xs s s.heap) (hbl : b < s.heap.size) (hl : lv_has ls 4 [(0, .ref b), (1, .ref (Bx 0)), (2, .ref (Bm 0)), (3, .int (nI i))]) (hi : i + 5 < L) (hL : L ≤ 384) (hR : Rel u τ) (hW : LW E Bx Bm u τ s H locs) (h1 : cells ≤ 298) (h2 : slots ≤ 5938) (kk : ∀ (Bx' : Nat → Nat) (u' : SX) (τ' : SM) (H1 : Heap) (locs1 : List Loc) (cells1 slots1 : Nat), Bx' 0 = Bx 0 → Rel u' τ' → LW E Bx' Bm u' τ' s H1 locs1 → cells1 ≤ cells + 2 → slots1 ≤ slots + 62 → W p l e room_1 s m args below meth c H1 locs1 cells1 slots1 Q (F0 m 1062 ls [])) : W p l e room_1 s m args below meth c H locs cells slots Q (F0 m 682 ls []) := by
  obtain ⟨hx, hb, -⟩ := id C0
  obtain ⟨r, u1, τ1, g1, g2, g3⟩ := q_kinds hR (xs (i + 1))
  refine lv_aload_n hx hb dL_law_682 rfl (lv_at hl 1 rfl) ?_
  refine ld5 (k := 1) C0 hX hbl hW.2.2.2.2.2.2 hl hL (by omega) (by decide) dL_law_683 dL_law_684 dL_law_685 dL_law_686 dL_law_687 rfl ?_
  refine xI (rest := []) (n := 1) C0 hW (tX4_kinds E (AXL s Bm) Bx hW.2.1 hW.2.2.1 g1) gL_law_X4_kinds rfl rfl (by decide +kernel) rfl hl.1 rfl rfl (Nat.le_of_ble_eq_true rfl) (by omega) (by omega) dL_law_688 (fun H locs hW => ?_)
  refine lv_aload_n hx hb dL_law_691 rfl (lv_at hl 2 rfl) ?_
  refine ld5 (k := 1) C0 hX hbl hW.2.2.2.2.2.2 hl hL (by omega) (by decide) dL_law_692 dL_law_693 dL_law_694 dL_law_695 dL_law_696 rfl ?_
  refine mI (rest := [.int r]) (n := 1) C0 hW (tX5_kinds E Bm hW.2.2.2.2.1 g2) gL_law_X5_kinds rfl rfl (by decide +kernel) rfl hl.1 rfl rfl (Nat.le_of_ble_eq_true rfl) (by omega) (by omega) dL_law_697 (fun H locs hW => ?_)
  exact lv_icmp_eq (tgt := 1062) hx hb dL_law_700 (by decide) (fun _ => kk Bx u1 τ1 H locs cells slots rfl g3 hW (by omega) (by omega)) (fun h => absurd rfl h)
set_option maxHeartbeats 4000000 in
set_option maxRecDepth 100000 in
theorem lc_17 {p : Program} {l : Launch} {e : Env} {s : State} {m : MethodId} {args : Array Value} {below : List Frame} {meth : Method} {c : Code} {H : Heap} {locs : List Loc} {cells slots : Nat} {Q : State → Prop} {ls : Array Slot} {E : EE} {Bx Bm : Nat → Nat} {u : SX} {τ : SM} {b L i : Nat} {xs : Nat → Int32} (C0 : cx wsL_law cL_law 4 ret RL E p s m args meth c) (hX : va_X b L xs s s.heap) (hbl : b < s.heap.size) (hl : lv_has ls 4 [(0, .ref b), (1, .ref (Bx 0)), (2, .ref (Bm 0)), (3, .int (nI i))]) (hi : i + 5 < L) (hL : L ≤ 384) (hR : Rel u τ) (hW : LW E Bx Bm u τ s H locs) (h1 : cells ≤ 298) (h2 : slots ≤ 5938) (kk : ∀ (Bx' : Nat → Nat) (u' : SX) (τ' : SM) (H1 : Heap) (locs1 : List Loc) (cells1 slots1 : Nat), Bx' 0 = Bx 0 → Rel u' τ' → LW E Bx' Bm u' τ' s H1 locs1 → cells1 ≤ cells + 2 → slots1 ≤ slots + 62 → W p l e room_1 s m args below meth c H1 locs1 cells1 slots1 Q (F0 m 1062 ls [])) : W p l e room_1 s m args below meth c H locs cells slots Q (F0 m 705 ls []) := by
  obtain ⟨hx, hb, -⟩ := id C0
  obtain ⟨r, u1, τ1, g1, g2, g3⟩ := q_counts hR 
  refine lv_aload_n hx hb dL_law_705 rfl (lv_at hl 1 rfl) ?_
  refine xI (rest := []) (n := 0) C0 hW (tX4_counts E (AXL s Bm) Bx hW.2.1 hW.2.2.1 g1) gL_law_X4_counts rfl rfl (by decide +kernel) rfl hl.1 rfl rfl (Nat.le_of_ble_eq_true rfl) (by omega) (by omega) dL_law_706 (fun H locs hW => ?_)
  refine lv_aload_n hx hb dL_law_709 rfl (lv_at hl 2 rfl) ?_
  refine mI (rest := [.int r]) (n := 0) C0 hW (tX5_counts E Bm hW.2.2.2.2.1 g2) gL_law_X5_counts rfl rfl (by decide +kernel) rfl hl.1 rfl rfl (Nat.le_of_ble_eq_true rfl) (by omega) (by omega) dL_law_710 (fun H locs hW => ?_)
  exact lv_icmp_eq (tgt := 1062) hx hb dL_law_713 (by decide) (fun _ => kk Bx u1 τ1 H locs cells slots rfl g3 hW (by omega) (by omega)) (fun h => absurd rfl h)
set_option maxHeartbeats 4000000 in
set_option maxRecDepth 100000 in
theorem lc_18 {p : Program} {l : Launch} {e : Env} {s : State} {m : MethodId} {args : Array Value} {below : List Frame} {meth : Method} {c : Code} {H : Heap} {locs : List Loc} {cells slots : Nat} {Q : State → Prop} {ls : Array Slot} {E : EE} {Bx Bm : Nat → Nat} {u : SX} {τ : SM} {b L i : Nat} {xs : Nat → Int32} (C0 : cx wsL_law cL_law 4 ret RL E p s m args meth c) (hX : va_X b L xs s s.heap) (hbl : b < s.heap.size) (hl : lv_has ls 4 [(0, .ref b), (1, .ref (Bx 0)), (2, .ref (Bm 0)), (3, .int (nI i))]) (hi : i + 5 < L) (hL : L ≤ 384) (hR : Rel u τ) (hW : LW E Bx Bm u τ s H locs) (h1 : cells ≤ 298) (h2 : slots ≤ 5938) (kk : ∀ (Bx' : Nat → Nat) (u' : SX) (τ' : SM) (H1 : Heap) (locs1 : List Loc) (cells1 slots1 : Nat), Bx' 0 = Bx 0 → Rel u' τ' → LW E Bx' Bm u' τ' s H1 locs1 → cells1 ≤ cells + 2 → slots1 ≤ slots + 62 → W p l e room_1 s m args below meth c H1 locs1 cells1 slots1 Q (F0 m 1062 ls [])) : W p l e room_1 s m args below meth c H locs cells slots Q (F0 m 718 ls []) := by
  obtain ⟨hx, hb, -⟩ := id C0
  obtain ⟨r, u1, τ1, g1, g2, g3⟩ := q_sheet hR (xs (i + 1)) (xs (i + 2)) (xs (i + 3))
  refine lv_aload_n hx hb dL_law_718 rfl (lv_at hl 1 rfl) ?_
  refine ld5 (k := 1) C0 hX hbl hW.2.2.2.2.2.2 hl hL (by omega) (by decide) dL_law_719 dL_law_720 dL_law_721 dL_law_722 dL_law_723 rfl ?_
  refine ld5 (k := 2) C0 hX hbl hW.2.2.2.2.2.2 hl hL (by omega) (by decide) dL_law_724 dL_law_725 dL_law_726 dL_law_727 dL_law_728 rfl ?_
  refine ld5 (k := 3) C0 hX hbl hW.2.2.2.2.2.2 hl hL (by omega) (by decide) dL_law_729 dL_law_730 dL_law_731 dL_law_732 dL_law_733 rfl ?_
  refine xI (rest := []) (n := 3) C0 hW (tX4_sheet E (AXL s Bm) Bx hW.2.1 hW.2.2.1 g1) gL_law_X4_sheet rfl rfl (by decide +kernel) rfl hl.1 rfl rfl (Nat.le_of_ble_eq_true rfl) (by omega) (by omega) dL_law_734 (fun H locs hW => ?_)
  refine lv_aload_n hx hb dL_law_737 rfl (lv_at hl 2 rfl) ?_
  refine ld5 (k := 1) C0 hX hbl hW.2.2.2.2.2.2 hl hL (by omega) (by decide) dL_law_738 dL_law_739 dL_law_740 dL_law_741 dL_law_742 rfl ?_
  refine ld5 (k := 2) C0 hX hbl hW.2.2.2.2.2.2 hl hL (by omega) (by decide) dL_law_743 dL_law_744 dL_law_745 dL_law_746 dL_law_747 rfl ?_
  refine ld5 (k := 3) C0 hX hbl hW.2.2.2.2.2.2 hl hL (by omega) (by decide) dL_law_748 dL_law_749 dL_law_750 dL_law_751 dL_law_752 rfl ?_
  refine mI (rest := [.int r]) (n := 3) C0 hW (tX5_sheet E Bm hW.2.2.2.2.1 g2) gL_law_X5_sheet rfl rfl (by decide +kernel) rfl hl.1 rfl rfl (Nat.le_of_ble_eq_true rfl) (by omega) (by omega) dL_law_753 (fun H locs hW => ?_)
  exact lv_icmp_eq (tgt := 1062) hx hb dL_law_756 (by decide) (fun _ => kk Bx u1 τ1 H locs cells slots rfl g3 hW (by omega) (by omega)) (fun h => absurd rfl h)
set_option maxHeartbeats 4000000 in
set_option maxRecDepth 100000 in
theorem lc_19 {p : Program} {l : Launch} {e : Env} {s : State} {m : MethodId} {args : Array Value} {below : List Frame} {meth : Method} {c : Code} {H : Heap} {locs : List Loc} {cells slots : Nat} {Q : State → Prop} {ls : Array Slot} {E : EE} {Bx Bm : Nat → Nat} {u : SX} {τ : SM} {b L i : Nat} {xs : Nat → Int32} (C0 : cx wsL_law cL_law 4 ret RL E p s m args meth c) (hX : va_X b L xs s s.heap) (hbl : b < s.heap.size) (hl : lv_has ls 4 [(0, .ref b), (1, .ref (Bx 0)), (2, .ref (Bm 0)), (3, .int (nI i))]) (hi : i + 5 < L) (hL : L ≤ 384) (hR : Rel u τ) (hW : LW E Bx Bm u τ s H locs) (h1 : cells ≤ 298) (h2 : slots ≤ 5938) (kk : ∀ (Bx' : Nat → Nat) (u' : SX) (τ' : SM) (H1 : Heap) (locs1 : List Loc) (cells1 slots1 : Nat), Bx' 0 = Bx 0 → Rel u' τ' → LW E Bx' Bm u' τ' s H1 locs1 → cells1 ≤ cells + 2 → slots1 ≤ slots + 62 → W p l e room_1 s m args below meth c H1 locs1 cells1 slots1 Q (F0 m 1062 ls [])) : W p l e room_1 s m args below meth c H locs cells slots Q (F0 m 761 ls []) := by
  obtain ⟨hx, hb, -⟩ := id C0
  obtain ⟨r, u1, τ1, g1, g2, g3⟩ := q_lose hR (xs (i + 1))
  refine lv_aload_n hx hb dL_law_761 rfl (lv_at hl 1 rfl) ?_
  refine ld5 (k := 1) C0 hX hbl hW.2.2.2.2.2.2 hl hL (by omega) (by decide) dL_law_762 dL_law_763 dL_law_764 dL_law_765 dL_law_766 rfl ?_
  refine xI (rest := []) (n := 1) C0 hW (tX4_lose E (AXL s Bm) Bx hW.2.1 hW.2.2.1 g1) gL_law_X4_lose rfl rfl (by decide +kernel) rfl hl.1 rfl rfl (Nat.le_of_ble_eq_true rfl) (by omega) (by omega) dL_law_767 (fun H locs hW => ?_)
  refine lv_aload_n hx hb dL_law_770 rfl (lv_at hl 2 rfl) ?_
  refine ld5 (k := 1) C0 hX hbl hW.2.2.2.2.2.2 hl hL (by omega) (by decide) dL_law_771 dL_law_772 dL_law_773 dL_law_774 dL_law_775 rfl ?_
  refine mI (rest := [.int r]) (n := 1) C0 hW (tX5_lose E Bm hW.2.2.2.2.1 g2) gL_law_X5_lose rfl rfl (by decide +kernel) rfl hl.1 rfl rfl (Nat.le_of_ble_eq_true rfl) (by omega) (by omega) dL_law_776 (fun H locs hW => ?_)
  exact lv_icmp_eq (tgt := 1062) hx hb dL_law_779 (by decide) (fun _ => kk Bx u1 τ1 H locs cells slots rfl g3 hW (by omega) (by omega)) (fun h => absurd rfl h)
set_option maxHeartbeats 4000000 in
set_option maxRecDepth 100000 in
theorem lc_20 {p : Program} {l : Launch} {e : Env} {s : State} {m : MethodId} {args : Array Value} {below : List Frame} {meth : Method} {c : Code} {H : Heap} {locs : List Loc} {cells slots : Nat} {Q : State → Prop} {ls : Array Slot} {E : EE} {Bx Bm : Nat → Nat} {u : SX} {τ : SM} {b L i : Nat} {xs : Nat → Int32} (C0 : cx wsL_law cL_law 4 ret RL E p s m args meth c) (hX : va_X b L xs s s.heap) (hbl : b < s.heap.size) (hl : lv_has ls 4 [(0, .ref b), (1, .ref (Bx 0)), (2, .ref (Bm 0)), (3, .int (nI i))]) (hi : i + 5 < L) (hL : L ≤ 384) (hR : Rel u τ) (hW : LW E Bx Bm u τ s H locs) (h1 : cells ≤ 298) (h2 : slots ≤ 5938) (kk : ∀ (Bx' : Nat → Nat) (u' : SX) (τ' : SM) (H1 : Heap) (locs1 : List Loc) (cells1 slots1 : Nat), Bx' 0 = Bx 0 → Rel u' τ' → LW E Bx' Bm u' τ' s H1 locs1 → cells1 ≤ cells + 2 → slots1 ≤ slots + 62 → W p l e room_1 s m args below meth c H1 locs1 cells1 slots1 Q (F0 m 1062 ls [])) : W p l e room_1 s m args below meth c H locs cells slots Q (F0 m 784 ls []) := by
  obtain ⟨hx, hb, -⟩ := id C0
  obtain ⟨r, u1, τ1, g1, g2, g3⟩ := q_put hR (xs (i + 1)) (xs (i + 2)) (xs (i + 3))
  refine lv_aload_n hx hb dL_law_784 rfl (lv_at hl 1 rfl) ?_
  refine ld5 (k := 1) C0 hX hbl hW.2.2.2.2.2.2 hl hL (by omega) (by decide) dL_law_785 dL_law_786 dL_law_787 dL_law_788 dL_law_789 rfl ?_
  refine ld5 (k := 2) C0 hX hbl hW.2.2.2.2.2.2 hl hL (by omega) (by decide) dL_law_790 dL_law_791 dL_law_792 dL_law_793 dL_law_794 rfl ?_
  refine ld5 (k := 3) C0 hX hbl hW.2.2.2.2.2.2 hl hL (by omega) (by decide) dL_law_795 dL_law_796 dL_law_797 dL_law_798 dL_law_799 rfl ?_
  refine xI (rest := []) (n := 3) C0 hW (tX4_put E (AXL s Bm) Bx hW.2.1 hW.2.2.1 g1) gL_law_X4_put rfl rfl (by decide +kernel) rfl hl.1 rfl rfl (Nat.le_of_ble_eq_true rfl) (by omega) (by omega) dL_law_800 (fun H locs hW => ?_)
  refine lv_aload_n hx hb dL_law_803 rfl (lv_at hl 2 rfl) ?_
  refine ld5 (k := 1) C0 hX hbl hW.2.2.2.2.2.2 hl hL (by omega) (by decide) dL_law_804 dL_law_805 dL_law_806 dL_law_807 dL_law_808 rfl ?_
  refine ld5 (k := 2) C0 hX hbl hW.2.2.2.2.2.2 hl hL (by omega) (by decide) dL_law_809 dL_law_810 dL_law_811 dL_law_812 dL_law_813 rfl ?_
  refine ld5 (k := 3) C0 hX hbl hW.2.2.2.2.2.2 hl hL (by omega) (by decide) dL_law_814 dL_law_815 dL_law_816 dL_law_817 dL_law_818 rfl ?_
  refine mI (rest := [.int r]) (n := 3) C0 hW (tX5_put E Bm hW.2.2.2.2.1 g2) gL_law_X5_put rfl rfl (by decide +kernel) rfl hl.1 rfl rfl (Nat.le_of_ble_eq_true rfl) (by omega) (by omega) dL_law_819 (fun H locs hW => ?_)
  exact lv_icmp_eq (tgt := 1062) hx hb dL_law_822 (by decide) (fun _ => kk Bx u1 τ1 H locs cells slots rfl g3 hW (by omega) (by omega)) (fun h => absurd rfl h)
set_option maxHeartbeats 4000000 in
set_option maxRecDepth 100000 in
theorem lc_21 {p : Program} {l : Launch} {e : Env} {s : State} {m : MethodId} {args : Array Value} {below : List Frame} {meth : Method} {c : Code} {H : Heap} {locs : List Loc} {cells slots : Nat} {Q : State → Prop} {ls : Array Slot} {E : EE} {Bx Bm : Nat → Nat} {u : SX} {τ : SM} {b L i : Nat} {xs : Nat → Int32} (C0 : cx wsL_law cL_law 4 ret RL E p s m args meth c) (hX : va_X b L xs s s.heap) (hbl : b < s.heap.size) (hl : lv_has ls 4 [(0, .ref b), (1, .ref (Bx 0)), (2, .ref (Bm 0)), (3, .int (nI i))]) (hi : i + 5 < L) (hL : L ≤ 384) (hR : Rel u τ) (hW : LW E Bx Bm u τ s H locs) (h1 : cells ≤ 298) (h2 : slots ≤ 5938) (kk : ∀ (Bx' : Nat → Nat) (u' : SX) (τ' : SM) (H1 : Heap) (locs1 : List Loc) (cells1 slots1 : Nat), Bx' 0 = Bx 0 → Rel u' τ' → LW E Bx' Bm u' τ' s H1 locs1 → cells1 ≤ cells + 2 → slots1 ≤ slots + 62 → W p l e room_1 s m args below meth c H1 locs1 cells1 slots1 Q (F0 m 1062 ls [])) : W p l e room_1 s m args below meth c H locs cells slots Q (F0 m 827 ls []) := by
  obtain ⟨hx, hb, -⟩ := id C0
  obtain ⟨r, u1, τ1, g1, g2, g3⟩ := q_cell hR (xs (i + 1)) (xs (i + 2)) (xs (i + 3))
  refine lv_aload_n hx hb dL_law_827 rfl (lv_at hl 1 rfl) ?_
  refine ld5 (k := 1) C0 hX hbl hW.2.2.2.2.2.2 hl hL (by omega) (by decide) dL_law_828 dL_law_829 dL_law_830 dL_law_831 dL_law_832 rfl ?_
  refine ld5 (k := 2) C0 hX hbl hW.2.2.2.2.2.2 hl hL (by omega) (by decide) dL_law_833 dL_law_834 dL_law_835 dL_law_836 dL_law_837 rfl ?_
  refine ld5 (k := 3) C0 hX hbl hW.2.2.2.2.2.2 hl hL (by omega) (by decide) dL_law_838 dL_law_839 dL_law_840 dL_law_841 dL_law_842 rfl ?_
  refine xL (rest := []) (n := 3) C0 hW (tX4_cell E (AXL s Bm) Bx hW.2.1 hW.2.2.1 g1) gL_law_X4_cell rfl rfl (by decide +kernel) rfl hl.1 rfl rfl (Nat.le_of_ble_eq_true rfl) (by omega) (by omega) dL_law_843 (fun H locs hW => ?_)
  refine lv_aload_n hx hb dL_law_846 rfl (lv_at hl 2 rfl) ?_
  refine ld5 (k := 1) C0 hX hbl hW.2.2.2.2.2.2 hl hL (by omega) (by decide) dL_law_847 dL_law_848 dL_law_849 dL_law_850 dL_law_851 rfl ?_
  refine ld5 (k := 2) C0 hX hbl hW.2.2.2.2.2.2 hl hL (by omega) (by decide) dL_law_852 dL_law_853 dL_law_854 dL_law_855 dL_law_856 rfl ?_
  refine ld5 (k := 3) C0 hX hbl hW.2.2.2.2.2.2 hl hL (by omega) (by decide) dL_law_857 dL_law_858 dL_law_859 dL_law_860 dL_law_861 rfl ?_
  refine mL (rest := [.long r]) (n := 3) C0 hW (tX5_cell E Bm hW.2.2.2.2.1 g2) gL_law_X5_cell rfl rfl (by decide +kernel) rfl hl.1 rfl rfl (Nat.le_of_ble_eq_true rfl) (by omega) (by omega) dL_law_862 (fun H locs hW => ?_)
  refine W.lcmp hx hb dL_law_865 ?_
  exact lv_if_eq (tgt := 1062) hx hb dL_law_866 (by decide) (fun _ => kk Bx u1 τ1 H locs cells slots rfl g3 hW (by omega) (by omega)) (fun h => absurd ((lg_cmp_eq _ _).mpr rfl) h)
set_option maxHeartbeats 4000000 in
set_option maxRecDepth 100000 in
theorem lc_22 {p : Program} {l : Launch} {e : Env} {s : State} {m : MethodId} {args : Array Value} {below : List Frame} {meth : Method} {c : Code} {H : Heap} {locs : List Loc} {cells slots : Nat} {Q : State → Prop} {ls : Array Slot} {E : EE} {Bx Bm : Nat → Nat} {u : SX} {τ : SM} {b L i : Nat} {xs : Nat → Int32} (C0 : cx wsL_law cL_law 4 ret RL E p s m args meth c) (hX : va_X b L xs s s.heap) (hbl : b < s.heap.size) (hl : lv_has ls 4 [(0, .ref b), (1, .ref (Bx 0)), (2, .ref (Bm 0)), (3, .int (nI i))]) (hi : i + 5 < L) (hL : L ≤ 384) (hR : Rel u τ) (hW : LW E Bx Bm u τ s H locs) (h1 : cells ≤ 298) (h2 : slots ≤ 5938) (kk : ∀ (Bx' : Nat → Nat) (u' : SX) (τ' : SM) (H1 : Heap) (locs1 : List Loc) (cells1 slots1 : Nat), Bx' 0 = Bx 0 → Rel u' τ' → LW E Bx' Bm u' τ' s H1 locs1 → cells1 ≤ cells + 2 → slots1 ≤ slots + 62 → W p l e room_1 s m args below meth c H1 locs1 cells1 slots1 Q (F0 m 1062 ls [])) : W p l e room_1 s m args below meth c H locs cells slots Q (F0 m 871 ls []) := by
  obtain ⟨hx, hb, -⟩ := id C0
  obtain ⟨r, u1, τ1, g1, g2, g3⟩ := q_copy hR (xs (i + 1)) (xs (i + 2)) (xs (i + 3)) (xs (i + 4)) (xs (i + 5))
  refine lv_aload_n hx hb dL_law_871 rfl (lv_at hl 1 rfl) ?_
  refine ld5 (k := 1) C0 hX hbl hW.2.2.2.2.2.2 hl hL (by omega) (by decide) dL_law_872 dL_law_873 dL_law_874 dL_law_875 dL_law_876 rfl ?_
  refine ld5 (k := 2) C0 hX hbl hW.2.2.2.2.2.2 hl hL (by omega) (by decide) dL_law_877 dL_law_878 dL_law_879 dL_law_880 dL_law_881 rfl ?_
  refine ld5 (k := 3) C0 hX hbl hW.2.2.2.2.2.2 hl hL (by omega) (by decide) dL_law_882 dL_law_883 dL_law_884 dL_law_885 dL_law_886 rfl ?_
  refine ld5 (k := 4) C0 hX hbl hW.2.2.2.2.2.2 hl hL (by omega) (by decide) dL_law_887 dL_law_888 dL_law_889 dL_law_890 dL_law_891 rfl ?_
  refine ld5 (k := 5) C0 hX hbl hW.2.2.2.2.2.2 hl hL (by omega) (by decide) dL_law_892 dL_law_893 dL_law_894 dL_law_895 dL_law_896 rfl ?_
  refine xI (rest := []) (n := 5) C0 hW (tX4_copy E (AXL s Bm) Bx hW.2.1 hW.2.2.1 g1) gL_law_X4_copy rfl rfl (by decide +kernel) rfl hl.1 rfl rfl (Nat.le_of_ble_eq_true rfl) (by omega) (by omega) dL_law_897 (fun H locs hW => ?_)
  refine lv_aload_n hx hb dL_law_900 rfl (lv_at hl 2 rfl) ?_
  refine ld5 (k := 1) C0 hX hbl hW.2.2.2.2.2.2 hl hL (by omega) (by decide) dL_law_901 dL_law_902 dL_law_903 dL_law_904 dL_law_905 rfl ?_
  refine ld5 (k := 2) C0 hX hbl hW.2.2.2.2.2.2 hl hL (by omega) (by decide) dL_law_906 dL_law_907 dL_law_908 dL_law_909 dL_law_910 rfl ?_
  refine ld5 (k := 3) C0 hX hbl hW.2.2.2.2.2.2 hl hL (by omega) (by decide) dL_law_911 dL_law_912 dL_law_913 dL_law_914 dL_law_915 rfl ?_
  refine ld5 (k := 4) C0 hX hbl hW.2.2.2.2.2.2 hl hL (by omega) (by decide) dL_law_916 dL_law_917 dL_law_918 dL_law_919 dL_law_920 rfl ?_
  refine ld5 (k := 5) C0 hX hbl hW.2.2.2.2.2.2 hl hL (by omega) (by decide) dL_law_921 dL_law_922 dL_law_923 dL_law_924 dL_law_925 rfl ?_
  refine mI (rest := [.int r]) (n := 5) C0 hW (tX5_copy E Bm hW.2.2.2.2.1 g2) gL_law_X5_copy rfl rfl (by decide +kernel) rfl hl.1 rfl rfl (Nat.le_of_ble_eq_true rfl) (by omega) (by omega) dL_law_926 (fun H locs hW => ?_)
  exact lv_icmp_eq (tgt := 1062) hx hb dL_law_929 (by decide) (fun _ => kk Bx u1 τ1 H locs cells slots rfl g3 hW (by omega) (by omega)) (fun h => absurd rfl h)
set_option maxHeartbeats 4000000 in
set_option maxRecDepth 100000 in
theorem lc_23 {p : Program} {l : Launch} {e : Env} {s : State} {m : MethodId} {args : Array Value} {below : List Frame} {meth : Method} {c : Code} {H : Heap} {locs : List Loc} {cells slots : Nat} {Q : State → Prop} {ls : Array Slot} {E : EE} {Bx Bm : Nat → Nat} {u : SX} {τ : SM} {b L i : Nat} {xs : Nat → Int32} (C0 : cx wsL_law cL_law 4 ret RL E p s m args meth c) (hX : va_X b L xs s s.heap) (hbl : b < s.heap.size) (hl : lv_has ls 4 [(0, .ref b), (1, .ref (Bx 0)), (2, .ref (Bm 0)), (3, .int (nI i))]) (hi : i + 5 < L) (hL : L ≤ 384) (hR : Rel u τ) (hW : LW E Bx Bm u τ s H locs) (h1 : cells ≤ 298) (h2 : slots ≤ 5938) (kk : ∀ (Bx' : Nat → Nat) (u' : SX) (τ' : SM) (H1 : Heap) (locs1 : List Loc) (cells1 slots1 : Nat), Bx' 0 = Bx 0 → Rel u' τ' → LW E Bx' Bm u' τ' s H1 locs1 → cells1 ≤ cells + 2 → slots1 ≤ slots + 62 → W p l e room_1 s m args below meth c H1 locs1 cells1 slots1 Q (F0 m 1062 ls [])) : W p l e room_1 s m args below meth c H locs cells slots Q (F0 m 934 ls []) := by
  obtain ⟨hx, hb, -⟩ := id C0
  obtain ⟨r, u1, τ1, g1, g2, g3⟩ := q_tell hR (xs (i + 1))
  refine lv_aload_n hx hb dL_law_934 rfl (lv_at hl 1 rfl) ?_
  refine ld5 (k := 1) C0 hX hbl hW.2.2.2.2.2.2 hl hL (by omega) (by decide) dL_law_935 dL_law_936 dL_law_937 dL_law_938 dL_law_939 rfl ?_
  refine xI (rest := []) (n := 1) C0 hW (tX4_tell E (AXL s Bm) Bx hW.2.1 hW.2.2.1 g1) gL_law_X4_tell rfl rfl (by decide +kernel) rfl hl.1 rfl rfl (Nat.le_of_ble_eq_true rfl) (by omega) (by omega) dL_law_940 (fun H locs hW => ?_)
  refine lv_aload_n hx hb dL_law_943 rfl (lv_at hl 2 rfl) ?_
  refine ld5 (k := 1) C0 hX hbl hW.2.2.2.2.2.2 hl hL (by omega) (by decide) dL_law_944 dL_law_945 dL_law_946 dL_law_947 dL_law_948 rfl ?_
  refine mI (rest := [.int r]) (n := 1) C0 hW (tX5_tell E Bm hW.2.2.2.2.1 g2) gL_law_X5_tell rfl rfl (by decide +kernel) rfl hl.1 rfl rfl (Nat.le_of_ble_eq_true rfl) (by omega) (by omega) dL_law_949 (fun H locs hW => ?_)
  exact lv_icmp_eq (tgt := 1062) hx hb dL_law_952 (by decide) (fun _ => kk Bx u1 τ1 H locs cells slots rfl g3 hW (by omega) (by omega)) (fun h => absurd rfl h)
set_option maxHeartbeats 4000000 in
set_option maxRecDepth 100000 in
theorem lc_24 {p : Program} {l : Launch} {e : Env} {s : State} {m : MethodId} {args : Array Value} {below : List Frame} {meth : Method} {c : Code} {H : Heap} {locs : List Loc} {cells slots : Nat} {Q : State → Prop} {ls : Array Slot} {E : EE} {Bx Bm : Nat → Nat} {u : SX} {τ : SM} {b L i : Nat} {xs : Nat → Int32} (C0 : cx wsL_law cL_law 4 ret RL E p s m args meth c) (hX : va_X b L xs s s.heap) (hbl : b < s.heap.size) (hl : lv_has ls 4 [(0, .ref b), (1, .ref (Bx 0)), (2, .ref (Bm 0)), (3, .int (nI i))]) (hi : i + 5 < L) (hL : L ≤ 384) (hR : Rel u τ) (hW : LW E Bx Bm u τ s H locs) (h1 : cells ≤ 298) (h2 : slots ≤ 5938) (kk : ∀ (Bx' : Nat → Nat) (u' : SX) (τ' : SM) (H1 : Heap) (locs1 : List Loc) (cells1 slots1 : Nat), Bx' 0 = Bx 0 → Rel u' τ' → LW E Bx' Bm u' τ' s H1 locs1 → cells1 ≤ cells + 2 → slots1 ≤ slots + 62 → W p l e room_1 s m args below meth c H1 locs1 cells1 slots1 Q (F0 m 1062 ls [])) : W p l e room_1 s m args below meth c H locs cells slots Q (F0 m 957 ls []) := by
  obtain ⟨hx, hb, -⟩ := id C0
  obtain ⟨r, u1, τ1, g1, g2, g3⟩ := q_call hR (xs (i + 1))
  refine lv_aload_n hx hb dL_law_957 rfl (lv_at hl 1 rfl) ?_
  refine ld5 (k := 1) C0 hX hbl hW.2.2.2.2.2.2 hl hL (by omega) (by decide) dL_law_958 dL_law_959 dL_law_960 dL_law_961 dL_law_962 rfl ?_
  refine xI (rest := []) (n := 1) C0 hW (tX4_call E (AXL s Bm) Bx hW.2.1 hW.2.2.1 g1) gL_law_X4_call rfl rfl (by decide +kernel) rfl hl.1 rfl rfl (Nat.le_of_ble_eq_true rfl) (by omega) (by omega) dL_law_963 (fun H locs hW => ?_)
  refine lv_aload_n hx hb dL_law_966 rfl (lv_at hl 2 rfl) ?_
  refine ld5 (k := 1) C0 hX hbl hW.2.2.2.2.2.2 hl hL (by omega) (by decide) dL_law_967 dL_law_968 dL_law_969 dL_law_970 dL_law_971 rfl ?_
  refine mI (rest := [.int r]) (n := 1) C0 hW (tX5_call E Bm hW.2.2.2.2.1 g2) gL_law_X5_call rfl rfl (by decide +kernel) rfl hl.1 rfl rfl (Nat.le_of_ble_eq_true rfl) (by omega) (by omega) dL_law_972 (fun H locs hW => ?_)
  exact lv_icmp_eq (tgt := 1062) hx hb dL_law_975 (by decide) (fun _ => kk Bx u1 τ1 H locs cells slots rfl g3 hW (by omega) (by omega)) (fun h => absurd rfl h)
set_option maxHeartbeats 4000000 in
set_option maxRecDepth 100000 in
theorem lc_25 {p : Program} {l : Launch} {e : Env} {s : State} {m : MethodId} {args : Array Value} {below : List Frame} {meth : Method} {c : Code} {H : Heap} {locs : List Loc} {cells slots : Nat} {Q : State → Prop} {ls : Array Slot} {E : EE} {Bx Bm : Nat → Nat} {u : SX} {τ : SM} {b L i : Nat} {xs : Nat → Int32} (C0 : cx wsL_law cL_law 4 ret RL E p s m args meth c) (hX : va_X b L xs s s.heap) (hbl : b < s.heap.size) (hl : lv_has ls 4 [(0, .ref b), (1, .ref (Bx 0)), (2, .ref (Bm 0)), (3, .int (nI i))]) (hi : i + 5 < L) (hL : L ≤ 384) (hR : Rel u τ) (hW : LW E Bx Bm u τ s H locs) (h1 : cells ≤ 298) (h2 : slots ≤ 5938) (kk : ∀ (Bx' : Nat → Nat) (u' : SX) (τ' : SM) (H1 : Heap) (locs1 : List Loc) (cells1 slots1 : Nat), Bx' 0 = Bx 0 → Rel u' τ' → LW E Bx' Bm u' τ' s H1 locs1 → cells1 ≤ cells + 2 → slots1 ≤ slots + 62 → W p l e room_1 s m args below meth c H1 locs1 cells1 slots1 Q (F0 m 1062 ls [])) : W p l e room_1 s m args below meth c H locs cells slots Q (F0 m 980 ls []) := by
  obtain ⟨hx, hb, -⟩ := id C0
  obtain ⟨r, u1, τ1, g1, g2, g3⟩ := q_as hR (xs (i + 1)) (xs (i + 2))
  refine lv_aload_n hx hb dL_law_980 rfl (lv_at hl 1 rfl) ?_
  refine ld5 (k := 1) C0 hX hbl hW.2.2.2.2.2.2 hl hL (by omega) (by decide) dL_law_981 dL_law_982 dL_law_983 dL_law_984 dL_law_985 rfl ?_
  refine ld5 (k := 2) C0 hX hbl hW.2.2.2.2.2.2 hl hL (by omega) (by decide) dL_law_986 dL_law_987 dL_law_988 dL_law_989 dL_law_990 rfl ?_
  refine xI (rest := []) (n := 2) C0 hW (tX4_as E (AXL s Bm) Bx hW.2.1 hW.2.2.1 g1) gL_law_X4_as rfl rfl (by decide +kernel) rfl hl.1 rfl rfl (Nat.le_of_ble_eq_true rfl) (by omega) (by omega) dL_law_991 (fun H locs hW => ?_)
  refine lv_aload_n hx hb dL_law_994 rfl (lv_at hl 2 rfl) ?_
  refine ld5 (k := 1) C0 hX hbl hW.2.2.2.2.2.2 hl hL (by omega) (by decide) dL_law_995 dL_law_996 dL_law_997 dL_law_998 dL_law_999 rfl ?_
  refine ld5 (k := 2) C0 hX hbl hW.2.2.2.2.2.2 hl hL (by omega) (by decide) dL_law_1000 dL_law_1001 dL_law_1002 dL_law_1003 dL_law_1004 rfl ?_
  refine mI (rest := [.int r]) (n := 2) C0 hW (tX5_as E Bm hW.2.2.2.2.1 g2) gL_law_X5_as rfl rfl (by decide +kernel) rfl hl.1 rfl rfl (Nat.le_of_ble_eq_true rfl) (by omega) (by omega) dL_law_1005 (fun H locs hW => ?_)
  exact lv_icmp_eq (tgt := 1062) hx hb dL_law_1008 (by decide) (fun _ => kk Bx u1 τ1 H locs cells slots rfl g3 hW (by omega) (by omega)) (fun h => absurd rfl h)
set_option maxHeartbeats 4000000 in
set_option maxRecDepth 100000 in
theorem lc_26 {p : Program} {l : Launch} {e : Env} {s : State} {m : MethodId} {args : Array Value} {below : List Frame} {meth : Method} {c : Code} {H : Heap} {locs : List Loc} {cells slots : Nat} {Q : State → Prop} {ls : Array Slot} {E : EE} {Bx Bm : Nat → Nat} {u : SX} {τ : SM} {b L i : Nat} {xs : Nat → Int32} (C0 : cx wsL_law cL_law 4 ret RL E p s m args meth c) (hX : va_X b L xs s s.heap) (hbl : b < s.heap.size) (hl : lv_has ls 4 [(0, .ref b), (1, .ref (Bx 0)), (2, .ref (Bm 0)), (3, .int (nI i))]) (hi : i + 5 < L) (hL : L ≤ 384) (hR : Rel u τ) (hW : LW E Bx Bm u τ s H locs) (h1 : cells ≤ 298) (h2 : slots ≤ 5938) (kk : ∀ (Bx' : Nat → Nat) (u' : SX) (τ' : SM) (H1 : Heap) (locs1 : List Loc) (cells1 slots1 : Nat), Bx' 0 = Bx 0 → Rel u' τ' → LW E Bx' Bm u' τ' s H1 locs1 → cells1 ≤ cells + 2 → slots1 ≤ slots + 62 → W p l e room_1 s m args below meth c H1 locs1 cells1 slots1 Q (F0 m 1062 ls [])) : W p l e room_1 s m args below meth c H locs cells slots Q (F0 m 1013 ls []) := by
  obtain ⟨hx, hb, -⟩ := id C0
  obtain ⟨r, g1, g2⟩ := q_trace hR 
  refine lv_aload_n hx hb dL_law_1013 rfl (lv_at hl 1 rfl) ?_
  refine xrI (rest := []) (n := 0) C0 hW (tX4_trace E Bx g1) gL_law_X4_trace rfl rfl (by decide +kernel) rfl hl.1 rfl rfl (Nat.le_of_ble_eq_true rfl) (by omega) (by omega) dL_law_1014 ?_
  refine lv_aload_n hx hb dL_law_1017 rfl (lv_at hl 2 rfl) ?_
  refine mrI (rest := [.int r]) (n := 0) C0 hW (tX5_trace E Bm g2) gL_law_X5_trace rfl rfl (by decide +kernel) rfl hl.1 rfl rfl (Nat.le_of_ble_eq_true rfl) (by omega) (by omega) dL_law_1018 ?_
  exact lv_icmp_eq (tgt := 1062) hx hb dL_law_1021 (by decide) (fun _ => kk Bx u τ H locs cells slots rfl hR hW (by omega) (by omega)) (fun h => absurd rfl h)
set_option maxHeartbeats 4000000 in
set_option maxRecDepth 100000 in
theorem lc_27 {p : Program} {l : Launch} {e : Env} {s : State} {m : MethodId} {args : Array Value} {below : List Frame} {meth : Method} {c : Code} {H : Heap} {locs : List Loc} {cells slots : Nat} {Q : State → Prop} {ls : Array Slot} {E : EE} {Bx Bm : Nat → Nat} {u : SX} {τ : SM} {b L i : Nat} {xs : Nat → Int32} (C0 : cx wsL_law cL_law 4 ret RL E p s m args meth c) (hX : va_X b L xs s s.heap) (hbl : b < s.heap.size) (hl : lv_has ls 4 [(0, .ref b), (1, .ref (Bx 0)), (2, .ref (Bm 0)), (3, .int (nI i))]) (hi : i + 5 < L) (hL : L ≤ 384) (hR : Rel u τ) (hW : LW E Bx Bm u τ s H locs) (h1 : cells ≤ 298) (h2 : slots ≤ 5938) (kk : ∀ (Bx' : Nat → Nat) (u' : SX) (τ' : SM) (H1 : Heap) (locs1 : List Loc) (cells1 slots1 : Nat), Bx' 0 = Bx 0 → Rel u' τ' → LW E Bx' Bm u' τ' s H1 locs1 → cells1 ≤ cells + 2 → slots1 ≤ slots + 62 → W p l e room_1 s m args below meth c H1 locs1 cells1 slots1 Q (F0 m 1062 ls [])) : W p l e room_1 s m args below meth c H locs cells slots Q (F0 m 1026 ls []) := by
  obtain ⟨hx, hb, -⟩ := id C0
  obtain ⟨r, g1, g2⟩ := q_fault hR 
  refine lv_aload_n hx hb dL_law_1026 rfl (lv_at hl 1 rfl) ?_
  refine xrI (rest := []) (n := 0) C0 hW (tX4_fault E Bx g1) gL_law_X4_fault rfl rfl (by decide +kernel) rfl hl.1 rfl rfl (Nat.le_of_ble_eq_true rfl) (by omega) (by omega) dL_law_1027 ?_
  refine lv_aload_n hx hb dL_law_1030 rfl (lv_at hl 2 rfl) ?_
  refine mrI (rest := [.int r]) (n := 0) C0 hW (tX5_fault E Bm g2) gL_law_X5_fault rfl rfl (by decide +kernel) rfl hl.1 rfl rfl (Nat.le_of_ble_eq_true rfl) (by omega) (by omega) dL_law_1031 ?_
  exact lv_icmp_eq (tgt := 1062) hx hb dL_law_1034 (by decide) (fun _ => kk Bx u τ H locs cells slots rfl hR hW (by omega) (by omega)) (fun h => absurd rfl h)
set_option maxHeartbeats 4000000 in
set_option maxRecDepth 100000 in
theorem lc_28 {p : Program} {l : Launch} {e : Env} {s : State} {m : MethodId} {args : Array Value} {below : List Frame} {meth : Method} {c : Code} {H : Heap} {locs : List Loc} {cells slots : Nat} {Q : State → Prop} {ls : Array Slot} {E : EE} {Bx Bm : Nat → Nat} {u : SX} {τ : SM} {b L i : Nat} {xs : Nat → Int32} (C0 : cx wsL_law cL_law 4 ret RL E p s m args meth c) (hX : va_X b L xs s s.heap) (hbl : b < s.heap.size) (hl : lv_has ls 4 [(0, .ref b), (1, .ref (Bx 0)), (2, .ref (Bm 0)), (3, .int (nI i))]) (hi : i + 5 < L) (hL : L ≤ 384) (hR : Rel u τ) (hW : LW E Bx Bm u τ s H locs) (h1 : cells ≤ 298) (h2 : slots ≤ 5938) (kk : ∀ (Bx' : Nat → Nat) (u' : SX) (τ' : SM) (H1 : Heap) (locs1 : List Loc) (cells1 slots1 : Nat), Bx' 0 = Bx 0 → Rel u' τ' → LW E Bx' Bm u' τ' s H1 locs1 → cells1 ≤ cells + 2 → slots1 ≤ slots + 62 → W p l e room_1 s m args below meth c H1 locs1 cells1 slots1 Q (F0 m 1062 ls [])) : W p l e room_1 s m args below meth c H locs cells slots Q (F0 m 1039 ls []) := by
  obtain ⟨hx, hb, -⟩ := id C0
  obtain ⟨r, g1, g2⟩ := q_many hR (xs (i + 1))
  refine lv_aload_n hx hb dL_law_1039 rfl (lv_at hl 1 rfl) ?_
  refine ld5 (k := 1) C0 hX hbl hW.2.2.2.2.2.2 hl hL (by omega) (by decide) dL_law_1040 dL_law_1041 dL_law_1042 dL_law_1043 dL_law_1044 rfl ?_
  refine xrI (rest := []) (n := 1) C0 hW (tX4_many E Bx g1) gL_law_X4_many rfl rfl (by decide +kernel) rfl hl.1 rfl rfl (Nat.le_of_ble_eq_true rfl) (by omega) (by omega) dL_law_1045 ?_
  refine lv_aload_n hx hb dL_law_1048 rfl (lv_at hl 2 rfl) ?_
  refine ld5 (k := 1) C0 hX hbl hW.2.2.2.2.2.2 hl hL (by omega) (by decide) dL_law_1049 dL_law_1050 dL_law_1051 dL_law_1052 dL_law_1053 rfl ?_
  refine mrI (rest := [.int r]) (n := 1) C0 hW (tX5_many E Bm g2) gL_law_X5_many rfl rfl (by decide +kernel) rfl hl.1 rfl rfl (Nat.le_of_ble_eq_true rfl) (by omega) (by omega) dL_law_1054 ?_
  exact lv_icmp_eq (tgt := 1062) hx hb dL_law_1057 (by decide) (fun _ => kk Bx u τ H locs cells slots rfl hR hW (by omega) (by omega)) (fun h => absurd rfl h)
