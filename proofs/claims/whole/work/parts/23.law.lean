set_option maxRecDepth 100000 in
set_option maxHeartbeats 4000000 in
theorem law_0 {G : zG} {p : Program} {l : Launch} {e : Env} {s : State} {m : MethodId} {below : List Frame} {meth : Method} {c : Code} {Q : State → Prop} {b L : Nat} {xs : Nat → Int32} {i : Nat} (hC : zC G RL cL_law 4 ret p s m #[Value.ref b] meth c) (hX : va_X b L xs s s.heap) (hbl : b < s.heap.size) (hbA : ¬ zA G b) (hi : ∀ k, k < 5 → vp_in (nI i + nI k) L) {J : zW → Prop} (hJ : ∀ (w : zW), J w → ∀ (a1 : Int32), ∃ (r : Int32) (w1 : zW) (w2 : zW), f_X3_feed w a1 = some (r, w1) ∧ f_X4_feed w1 a1 = some (r, w2) ∧ J w2) {w : zW} (hw : J w) (kk : ∀ w2 : zW, J w2 → ZL G p l e room_1 s m #[Value.ref b] below meth c Q 4 1363 [(0, .ref b), (1, .ref (zad G 0)), (2, .ref (zad G 56)), (3, .int (nI i))] [] w2) : ZL G p l e room_1 s m #[Value.ref b] below meth c Q 4 208 [(0, .ref b), (1, .ref (zad G 0)), (2, .ref (zad G 56)), (3, .int (nI i))] [] w := by
  obtain ⟨r, w1, w2, h1, h2, h3⟩ := hJ w hw (xs (zx (nI i + 1)))
  refine x_aload_n hC dL_law_208 1 rfl rfl ?_
  refine x_aload_n hC dL_law_209 0 rfl rfl ?_
  refine x_iload_n hC dL_law_210 3 rfl rfl ?_
  refine x_iconst hC dL_law_211 (v := 1) rfl ?_
  refine x_iadd hC dL_law_212 ?_
  refine x_sld hC hX hbl hbA (hi 1 (by decide)) dL_law_213 ?_
  refine x_cvi (As := [.int (xs (zx (nI i + 1)))]) (rest := []) hC zo_bot rfl (c_X3_feed l G w (xs (zx (nI i + 1))) h1) zw_ml_L_13 zy_X3_feed ⟨(Nat.le_of_ble_eq_true rfl), (Nat.le_of_ble_eq_true rfl)⟩ ⟨rfl, rfl, (Nat.le_of_ble_eq_true rfl), (Nat.le_of_ble_eq_true rfl)⟩ rfl rfl (Nat.le_of_ble_eq_true rfl) dL_law_214 ?_
  refine x_aload_n hC dL_law_217 2 rfl rfl ?_
  refine x_aload_n hC dL_law_218 0 rfl rfl ?_
  refine x_iload_n hC dL_law_219 3 rfl rfl ?_
  refine x_iconst hC dL_law_220 (v := 1) rfl ?_
  refine x_iadd hC dL_law_221 ?_
  refine x_sld hC hX hbl hbA (hi 1 (by decide)) dL_law_222 ?_
  refine x_cvi (As := [.int (xs (zx (nI i + 1)))]) (rest := [.int r]) hC zo_mod rfl (c_X4_feed l G w1 (xs (zx (nI i + 1))) h2) zw_ml_L_17 zy_X4_feed ⟨(Nat.le_of_ble_eq_true rfl), (Nat.le_of_ble_eq_true rfl)⟩ ⟨rfl, rfl, (Nat.le_of_ble_eq_true rfl), (Nat.le_of_ble_eq_true rfl)⟩ rfl rfl (Nat.le_of_ble_eq_true rfl) dL_law_223 ?_
  refine x_icmp_eq (tgt := 1363) hC dL_law_226 (by decide) (fun _ => ?_) (fun h9 => absurd rfl h9)
  exact kk _ h3
set_option maxRecDepth 100000 in
set_option maxHeartbeats 4000000 in
theorem law_1 {G : zG} {p : Program} {l : Launch} {e : Env} {s : State} {m : MethodId} {below : List Frame} {meth : Method} {c : Code} {Q : State → Prop} {b L : Nat} {xs : Nat → Int32} {i : Nat} (hC : zC G RL cL_law 4 ret p s m #[Value.ref b] meth c) (hX : va_X b L xs s s.heap) (hbl : b < s.heap.size) (hbA : ¬ zA G b) (hi : ∀ k, k < 5 → vp_in (nI i + nI k) L) {J : zW → Prop} (hJ : ∀ (w : zW), J w → ∀ (a1 : Int32), ∃ (r : Int32) (w1 : zW) (w2 : zW), f_X3_end w a1 = some (r, w1) ∧ f_X4_end w1 a1 = some (r, w2) ∧ J w2) {w : zW} (hw : J w) (kk : ∀ w2 : zW, J w2 → ZL G p l e room_1 s m #[Value.ref b] below meth c Q 4 1363 [(0, .ref b), (1, .ref (zad G 0)), (2, .ref (zad G 56)), (3, .int (nI i))] [] w2) : ZL G p l e room_1 s m #[Value.ref b] below meth c Q 4 231 [(0, .ref b), (1, .ref (zad G 0)), (2, .ref (zad G 56)), (3, .int (nI i))] [] w := by
  obtain ⟨r, w1, w2, h1, h2, h3⟩ := hJ w hw (xs (zx (nI i + 1)))
  refine x_aload_n hC dL_law_231 1 rfl rfl ?_
  refine x_aload_n hC dL_law_232 0 rfl rfl ?_
  refine x_iload_n hC dL_law_233 3 rfl rfl ?_
  refine x_iconst hC dL_law_234 (v := 1) rfl ?_
  refine x_iadd hC dL_law_235 ?_
  refine x_sld hC hX hbl hbA (hi 1 (by decide)) dL_law_236 ?_
  refine x_cvi (As := [.int (xs (zx (nI i + 1)))]) (rest := []) hC zo_bot rfl (c_X3_end l G w (xs (zx (nI i + 1))) h1) zw_ml_L_18 zy_X3_end ⟨(Nat.le_of_ble_eq_true rfl), (Nat.le_of_ble_eq_true rfl)⟩ ⟨rfl, rfl, (Nat.le_of_ble_eq_true rfl), (Nat.le_of_ble_eq_true rfl)⟩ rfl rfl (Nat.le_of_ble_eq_true rfl) dL_law_237 ?_
  refine x_aload_n hC dL_law_240 2 rfl rfl ?_
  refine x_aload_n hC dL_law_241 0 rfl rfl ?_
  refine x_iload_n hC dL_law_242 3 rfl rfl ?_
  refine x_iconst hC dL_law_243 (v := 1) rfl ?_
  refine x_iadd hC dL_law_244 ?_
  refine x_sld hC hX hbl hbA (hi 1 (by decide)) dL_law_245 ?_
  refine x_cvi (As := [.int (xs (zx (nI i + 1)))]) (rest := [.int r]) hC zo_mod rfl (c_X4_end l G w1 (xs (zx (nI i + 1))) h2) zw_ml_L_21 zy_X4_end ⟨(Nat.le_of_ble_eq_true rfl), (Nat.le_of_ble_eq_true rfl)⟩ ⟨rfl, rfl, (Nat.le_of_ble_eq_true rfl), (Nat.le_of_ble_eq_true rfl)⟩ rfl rfl (Nat.le_of_ble_eq_true rfl) dL_law_246 ?_
  refine x_icmp_eq (tgt := 1363) hC dL_law_249 (by decide) (fun _ => ?_) (fun h9 => absurd rfl h9)
  exact kk _ h3
set_option maxRecDepth 100000 in
set_option maxHeartbeats 4000000 in
theorem law_2 {G : zG} {p : Program} {l : Launch} {e : Env} {s : State} {m : MethodId} {below : List Frame} {meth : Method} {c : Code} {Q : State → Prop} {b L : Nat} {xs : Nat → Int32} {i : Nat} (hC : zC G RL cL_law 4 ret p s m #[Value.ref b] meth c) (hX : va_X b L xs s s.heap) (hbl : b < s.heap.size) (hbA : ¬ zA G b) (hi : ∀ k, k < 5 → vp_in (nI i + nI k) L) {J : zW → Prop} (hJ : ∀ (w : zW), J w → ∀ (_ : Unit), ∃ (r : Int32) (w1 : zW) (w2 : zW), f_X3_text w = some (r, w1) ∧ f_X4_text w1 = some (r, w2) ∧ J w2) {w : zW} (hw : J w) (kk : ∀ w2 : zW, J w2 → ZL G p l e room_1 s m #[Value.ref b] below meth c Q 4 1363 [(0, .ref b), (1, .ref (zad G 0)), (2, .ref (zad G 56)), (3, .int (nI i))] [] w2) : ZL G p l e room_1 s m #[Value.ref b] below meth c Q 4 254 [(0, .ref b), (1, .ref (zad G 0)), (2, .ref (zad G 56)), (3, .int (nI i))] [] w := by
  obtain ⟨r, w1, w2, h1, h2, h3⟩ := hJ w hw ()
  refine x_aload_n hC dL_law_254 1 rfl rfl ?_
  refine x_cvi (As := []) (rest := []) hC zo_bot rfl (c_X3_text l G w h1) zw_ml_L_22 zy_X3_text ⟨(Nat.le_of_ble_eq_true rfl), (Nat.le_of_ble_eq_true rfl)⟩ ⟨rfl, rfl, (Nat.le_of_ble_eq_true rfl), (Nat.le_of_ble_eq_true rfl)⟩ rfl rfl (Nat.le_of_ble_eq_true rfl) dL_law_255 ?_
  refine x_aload_n hC dL_law_258 2 rfl rfl ?_
  refine x_cvi (As := []) (rest := [.int r]) hC zo_mod rfl (c_X4_text l G w1 h2) zw_ml_L_26 zy_X4_text ⟨(Nat.le_of_ble_eq_true rfl), (Nat.le_of_ble_eq_true rfl)⟩ ⟨rfl, rfl, (Nat.le_of_ble_eq_true rfl), (Nat.le_of_ble_eq_true rfl)⟩ rfl rfl (Nat.le_of_ble_eq_true rfl) dL_law_259 ?_
  refine x_icmp_eq (tgt := 1363) hC dL_law_262 (by decide) (fun _ => ?_) (fun h9 => absurd rfl h9)
  exact kk _ h3
set_option maxRecDepth 100000 in
set_option maxHeartbeats 4000000 in
theorem law_3 {G : zG} {p : Program} {l : Launch} {e : Env} {s : State} {m : MethodId} {below : List Frame} {meth : Method} {c : Code} {Q : State → Prop} {b L : Nat} {xs : Nat → Int32} {i : Nat} (hC : zC G RL cL_law 4 ret p s m #[Value.ref b] meth c) (hX : va_X b L xs s s.heap) (hbl : b < s.heap.size) (hbA : ¬ zA G b) (hi : ∀ k, k < 5 → vp_in (nI i + nI k) L) {J : zW → Prop} (hJ : ∀ (w : zW), J w → ∀ (_ : Unit), ∃ (r : Int32), f_X3_fault w = r ∧ f_X4_fault w = r ∧ J w) {w : zW} (hw : J w) (kk : ∀ w2 : zW, J w2 → ZL G p l e room_1 s m #[Value.ref b] below meth c Q 4 1363 [(0, .ref b), (1, .ref (zad G 0)), (2, .ref (zad G 56)), (3, .int (nI i))] [] w2) : ZL G p l e room_1 s m #[Value.ref b] below meth c Q 4 267 [(0, .ref b), (1, .ref (zad G 0)), (2, .ref (zad G 56)), (3, .int (nI i))] [] w := by
  obtain ⟨r, h1, h2, h3⟩ := hJ w hw ()
  refine x_aload_n hC dL_law_267 1 rfl rfl ?_
  refine x_cvi (As := []) (rest := []) hC zo_bot rfl (h1 ▸ c_X3_fault l G w) zw_ml_L_27 zy_X3_fault ⟨(Nat.le_of_ble_eq_true rfl), (Nat.le_of_ble_eq_true rfl)⟩ ⟨rfl, rfl, (Nat.le_of_ble_eq_true rfl), (Nat.le_of_ble_eq_true rfl)⟩ rfl rfl (Nat.le_of_ble_eq_true rfl) dL_law_268 ?_
  refine x_aload_n hC dL_law_271 2 rfl rfl ?_
  refine x_cvi (As := []) (rest := [.int r]) hC zo_mod rfl (h2 ▸ c_X4_fault l G w) zw_ml_L_30 zy_X4_fault ⟨(Nat.le_of_ble_eq_true rfl), (Nat.le_of_ble_eq_true rfl)⟩ ⟨rfl, rfl, (Nat.le_of_ble_eq_true rfl), (Nat.le_of_ble_eq_true rfl)⟩ rfl rfl (Nat.le_of_ble_eq_true rfl) dL_law_272 ?_
  refine x_icmp_eq (tgt := 1363) hC dL_law_275 (by decide) (fun _ => ?_) (fun h9 => absurd rfl h9)
  exact kk _ h3
set_option maxRecDepth 100000 in
set_option maxHeartbeats 4000000 in
theorem law_4 {G : zG} {p : Program} {l : Launch} {e : Env} {s : State} {m : MethodId} {below : List Frame} {meth : Method} {c : Code} {Q : State → Prop} {b L : Nat} {xs : Nat → Int32} {i : Nat} (hC : zC G RL cL_law 4 ret p s m #[Value.ref b] meth c) (hX : va_X b L xs s s.heap) (hbl : b < s.heap.size) (hbA : ¬ zA G b) (hi : ∀ k, k < 5 → vp_in (nI i + nI k) L) {J : zW → Prop} (hJ : ∀ (w : zW), J w → ∀ (a1 : Int32), ∃ (r : Int32), f_X3_rule w a1 = r ∧ f_X4_rule w a1 = some r ∧ J w) {w : zW} (hw : J w) (kk : ∀ w2 : zW, J w2 → ZL G p l e room_1 s m #[Value.ref b] below meth c Q 4 1363 [(0, .ref b), (1, .ref (zad G 0)), (2, .ref (zad G 56)), (3, .int (nI i))] [] w2) : ZL G p l e room_1 s m #[Value.ref b] below meth c Q 4 280 [(0, .ref b), (1, .ref (zad G 0)), (2, .ref (zad G 56)), (3, .int (nI i))] [] w := by
  obtain ⟨r, h1, h2, h3⟩ := hJ w hw (xs (zx (nI i + 1)))
  refine x_aload_n hC dL_law_280 1 rfl rfl ?_
  refine x_aload_n hC dL_law_281 0 rfl rfl ?_
  refine x_iload_n hC dL_law_282 3 rfl rfl ?_
  refine x_iconst hC dL_law_283 (v := 1) rfl ?_
  refine x_iadd hC dL_law_284 ?_
  refine x_sld hC hX hbl hbA (hi 1 (by decide)) dL_law_285 ?_
  refine x_cvi (As := [.int (xs (zx (nI i + 1)))]) (rest := []) hC zo_bot rfl (h1 ▸ c_X3_rule l G w (xs (zx (nI i + 1)))) zw_ml_L_31 zy_X3_rule ⟨(Nat.le_of_ble_eq_true rfl), (Nat.le_of_ble_eq_true rfl)⟩ ⟨rfl, rfl, (Nat.le_of_ble_eq_true rfl), (Nat.le_of_ble_eq_true rfl)⟩ rfl rfl (Nat.le_of_ble_eq_true rfl) dL_law_286 ?_
  refine x_aload_n hC dL_law_289 2 rfl rfl ?_
  refine x_aload_n hC dL_law_290 0 rfl rfl ?_
  refine x_iload_n hC dL_law_291 3 rfl rfl ?_
  refine x_iconst hC dL_law_292 (v := 1) rfl ?_
  refine x_iadd hC dL_law_293 ?_
  refine x_sld hC hX hbl hbA (hi 1 (by decide)) dL_law_294 ?_
  refine x_cvi (As := [.int (xs (zx (nI i + 1)))]) (rest := [.int r]) hC zo_mod rfl (c_X4_rule l G w (xs (zx (nI i + 1))) h2) zw_ml_L_34 zy_X4_rule ⟨(Nat.le_of_ble_eq_true rfl), (Nat.le_of_ble_eq_true rfl)⟩ ⟨rfl, rfl, (Nat.le_of_ble_eq_true rfl), (Nat.le_of_ble_eq_true rfl)⟩ rfl rfl (Nat.le_of_ble_eq_true rfl) dL_law_295 ?_
  refine x_icmp_eq (tgt := 1363) hC dL_law_298 (by decide) (fun _ => ?_) (fun h9 => absurd rfl h9)
  exact kk _ h3
set_option maxRecDepth 100000 in
set_option maxHeartbeats 4000000 in
theorem law_5 {G : zG} {p : Program} {l : Launch} {e : Env} {s : State} {m : MethodId} {below : List Frame} {meth : Method} {c : Code} {Q : State → Prop} {b L : Nat} {xs : Nat → Int32} {i : Nat} (hC : zC G RL cL_law 4 ret p s m #[Value.ref b] meth c) (hX : va_X b L xs s s.heap) (hbl : b < s.heap.size) (hbA : ¬ zA G b) (hi : ∀ k, k < 5 → vp_in (nI i + nI k) L) {J : zW → Prop} (hJ : ∀ (w : zW), J w → ∀ (a1 a2 : Int32), ∃ (r : Int32), f_X3_one w a1 a2 = some r ∧ f_X4_one w a1 a2 = some r ∧ J w) {w : zW} (hw : J w) (kk : ∀ w2 : zW, J w2 → ZL G p l e room_1 s m #[Value.ref b] below meth c Q 4 1363 [(0, .ref b), (1, .ref (zad G 0)), (2, .ref (zad G 56)), (3, .int (nI i))] [] w2) : ZL G p l e room_1 s m #[Value.ref b] below meth c Q 4 303 [(0, .ref b), (1, .ref (zad G 0)), (2, .ref (zad G 56)), (3, .int (nI i))] [] w := by
  obtain ⟨r, h1, h2, h3⟩ := hJ w hw (xs (zx (nI i + 1))) (xs (zx (nI i + 2)))
  refine x_aload_n hC dL_law_303 1 rfl rfl ?_
  refine x_aload_n hC dL_law_304 0 rfl rfl ?_
  refine x_iload_n hC dL_law_305 3 rfl rfl ?_
  refine x_iconst hC dL_law_306 (v := 1) rfl ?_
  refine x_iadd hC dL_law_307 ?_
  refine x_sld hC hX hbl hbA (hi 1 (by decide)) dL_law_308 ?_
  refine x_aload_n hC dL_law_309 0 rfl rfl ?_
  refine x_iload_n hC dL_law_310 3 rfl rfl ?_
  refine x_iconst hC dL_law_311 (v := 2) rfl ?_
  refine x_iadd hC dL_law_312 ?_
  refine x_sld hC hX hbl hbA (hi 2 (by decide)) dL_law_313 ?_
  refine x_cvi (As := [.int (xs (zx (nI i + 1))), .int (xs (zx (nI i + 2)))]) (rest := []) hC zo_bot rfl (c_X3_one l G w (xs (zx (nI i + 1))) (xs (zx (nI i + 2))) h1) zw_ml_L_35 zy_X3_one ⟨(Nat.le_of_ble_eq_true rfl), (Nat.le_of_ble_eq_true rfl)⟩ ⟨rfl, rfl, (Nat.le_of_ble_eq_true rfl), (Nat.le_of_ble_eq_true rfl)⟩ rfl rfl (Nat.le_of_ble_eq_true rfl) dL_law_314 ?_
  refine x_aload_n hC dL_law_317 2 rfl rfl ?_
  refine x_aload_n hC dL_law_318 0 rfl rfl ?_
  refine x_iload_n hC dL_law_319 3 rfl rfl ?_
  refine x_iconst hC dL_law_320 (v := 1) rfl ?_
  refine x_iadd hC dL_law_321 ?_
  refine x_sld hC hX hbl hbA (hi 1 (by decide)) dL_law_322 ?_
  refine x_aload_n hC dL_law_323 0 rfl rfl ?_
  refine x_iload_n hC dL_law_324 3 rfl rfl ?_
  refine x_iconst hC dL_law_325 (v := 2) rfl ?_
  refine x_iadd hC dL_law_326 ?_
  refine x_sld hC hX hbl hbA (hi 2 (by decide)) dL_law_327 ?_
  refine x_cvi (As := [.int (xs (zx (nI i + 1))), .int (xs (zx (nI i + 2)))]) (rest := [.int r]) hC zo_mod rfl (c_X4_one l G w (xs (zx (nI i + 1))) (xs (zx (nI i + 2))) h2) zw_ml_L_39 zy_X4_one ⟨(Nat.le_of_ble_eq_true rfl), (Nat.le_of_ble_eq_true rfl)⟩ ⟨rfl, rfl, (Nat.le_of_ble_eq_true rfl), (Nat.le_of_ble_eq_true rfl)⟩ rfl rfl (Nat.le_of_ble_eq_true rfl) dL_law_328 ?_
  refine x_icmp_eq (tgt := 1363) hC dL_law_331 (by decide) (fun _ => ?_) (fun h9 => absurd rfl h9)
  exact kk _ h3
set_option maxRecDepth 100000 in
set_option maxHeartbeats 4000000 in
theorem law_6 {G : zG} {p : Program} {l : Launch} {e : Env} {s : State} {m : MethodId} {below : List Frame} {meth : Method} {c : Code} {Q : State → Prop} {b L : Nat} {xs : Nat → Int32} {i : Nat} (hC : zC G RL cL_law 4 ret p s m #[Value.ref b] meth c) (hX : va_X b L xs s s.heap) (hbl : b < s.heap.size) (hbA : ¬ zA G b) (hi : ∀ k, k < 5 → vp_in (nI i + nI k) L) {J : zW → Prop} (hJ : ∀ (w : zW), J w → ∀ (a1 a2 : Int32), ∃ (r : Int32), f_X3_well w a1 a2 = some r ∧ f_X4_well w a1 a2 = some r ∧ J w) {w : zW} (hw : J w) (kk : ∀ w2 : zW, J w2 → ZL G p l e room_1 s m #[Value.ref b] below meth c Q 4 1363 [(0, .ref b), (1, .ref (zad G 0)), (2, .ref (zad G 56)), (3, .int (nI i))] [] w2) : ZL G p l e room_1 s m #[Value.ref b] below meth c Q 4 336 [(0, .ref b), (1, .ref (zad G 0)), (2, .ref (zad G 56)), (3, .int (nI i))] [] w := by
  obtain ⟨r, h1, h2, h3⟩ := hJ w hw (xs (zx (nI i + 1))) (xs (zx (nI i + 2)))
  refine x_aload_n hC dL_law_336 1 rfl rfl ?_
  refine x_aload_n hC dL_law_337 0 rfl rfl ?_
  refine x_iload_n hC dL_law_338 3 rfl rfl ?_
  refine x_iconst hC dL_law_339 (v := 1) rfl ?_
  refine x_iadd hC dL_law_340 ?_
  refine x_sld hC hX hbl hbA (hi 1 (by decide)) dL_law_341 ?_
  refine x_aload_n hC dL_law_342 0 rfl rfl ?_
  refine x_iload_n hC dL_law_343 3 rfl rfl ?_
  refine x_iconst hC dL_law_344 (v := 2) rfl ?_
  refine x_iadd hC dL_law_345 ?_
  refine x_sld hC hX hbl hbA (hi 2 (by decide)) dL_law_346 ?_
  refine x_cvi (As := [.int (xs (zx (nI i + 1))), .int (xs (zx (nI i + 2)))]) (rest := []) hC zo_bot rfl (c_X3_well l G w (xs (zx (nI i + 1))) (xs (zx (nI i + 2))) h1) zw_ml_L_40 zy_X3_well ⟨(Nat.le_of_ble_eq_true rfl), (Nat.le_of_ble_eq_true rfl)⟩ ⟨rfl, rfl, (Nat.le_of_ble_eq_true rfl), (Nat.le_of_ble_eq_true rfl)⟩ rfl rfl (Nat.le_of_ble_eq_true rfl) dL_law_347 ?_
  refine x_aload_n hC dL_law_350 2 rfl rfl ?_
  refine x_aload_n hC dL_law_351 0 rfl rfl ?_
  refine x_iload_n hC dL_law_352 3 rfl rfl ?_
  refine x_iconst hC dL_law_353 (v := 1) rfl ?_
  refine x_iadd hC dL_law_354 ?_
  refine x_sld hC hX hbl hbA (hi 1 (by decide)) dL_law_355 ?_
  refine x_aload_n hC dL_law_356 0 rfl rfl ?_
  refine x_iload_n hC dL_law_357 3 rfl rfl ?_
  refine x_iconst hC dL_law_358 (v := 2) rfl ?_
  refine x_iadd hC dL_law_359 ?_
  refine x_sld hC hX hbl hbA (hi 2 (by decide)) dL_law_360 ?_
  refine x_cvi (As := [.int (xs (zx (nI i + 1))), .int (xs (zx (nI i + 2)))]) (rest := [.int r]) hC zo_mod rfl (c_X4_well l G w (xs (zx (nI i + 1))) (xs (zx (nI i + 2))) h2) zw_ml_L_43 zy_X4_well ⟨(Nat.le_of_ble_eq_true rfl), (Nat.le_of_ble_eq_true rfl)⟩ ⟨rfl, rfl, (Nat.le_of_ble_eq_true rfl), (Nat.le_of_ble_eq_true rfl)⟩ rfl rfl (Nat.le_of_ble_eq_true rfl) dL_law_361 ?_
  refine x_icmp_eq (tgt := 1363) hC dL_law_364 (by decide) (fun _ => ?_) (fun h9 => absurd rfl h9)
  exact kk _ h3
set_option maxRecDepth 100000 in
set_option maxHeartbeats 4000000 in
theorem law_7 {G : zG} {p : Program} {l : Launch} {e : Env} {s : State} {m : MethodId} {below : List Frame} {meth : Method} {c : Code} {Q : State → Prop} {b L : Nat} {xs : Nat → Int32} {i : Nat} (hC : zC G RL cL_law 4 ret p s m #[Value.ref b] meth c) (hX : va_X b L xs s s.heap) (hbl : b < s.heap.size) (hbA : ¬ zA G b) (hi : ∀ k, k < 5 → vp_in (nI i + nI k) L) {J : zW → Prop} (hJ : ∀ (w : zW), J w → ∀ (_ : Unit), ∃ (r : Int32), f_X3_pours w = some r ∧ f_X4_pours w = some r ∧ J w) {w : zW} (hw : J w) (kk : ∀ w2 : zW, J w2 → ZL G p l e room_1 s m #[Value.ref b] below meth c Q 4 1363 [(0, .ref b), (1, .ref (zad G 0)), (2, .ref (zad G 56)), (3, .int (nI i))] [] w2) : ZL G p l e room_1 s m #[Value.ref b] below meth c Q 4 369 [(0, .ref b), (1, .ref (zad G 0)), (2, .ref (zad G 56)), (3, .int (nI i))] [] w := by
  obtain ⟨r, h1, h2, h3⟩ := hJ w hw ()
  refine x_aload_n hC dL_law_369 1 rfl rfl ?_
  refine x_cvi (As := []) (rest := []) hC zo_bot rfl (c_X3_pours l G w h1) zw_ml_L_44 zy_X3_pours ⟨(Nat.le_of_ble_eq_true rfl), (Nat.le_of_ble_eq_true rfl)⟩ ⟨rfl, rfl, (Nat.le_of_ble_eq_true rfl), (Nat.le_of_ble_eq_true rfl)⟩ rfl rfl (Nat.le_of_ble_eq_true rfl) dL_law_370 ?_
  refine x_aload_n hC dL_law_373 2 rfl rfl ?_
  refine x_cvi (As := []) (rest := [.int r]) hC zo_mod rfl (c_X4_pours l G w h2) zw_ml_L_47 zy_X4_pours ⟨(Nat.le_of_ble_eq_true rfl), (Nat.le_of_ble_eq_true rfl)⟩ ⟨rfl, rfl, (Nat.le_of_ble_eq_true rfl), (Nat.le_of_ble_eq_true rfl)⟩ rfl rfl (Nat.le_of_ble_eq_true rfl) dL_law_374 ?_
  refine x_icmp_eq (tgt := 1363) hC dL_law_377 (by decide) (fun _ => ?_) (fun h9 => absurd rfl h9)
  exact kk _ h3
set_option maxRecDepth 100000 in
set_option maxHeartbeats 4000000 in
theorem law_8 {G : zG} {p : Program} {l : Launch} {e : Env} {s : State} {m : MethodId} {below : List Frame} {meth : Method} {c : Code} {Q : State → Prop} {b L : Nat} {xs : Nat → Int32} {i : Nat} (hC : zC G RL cL_law 4 ret p s m #[Value.ref b] meth c) (hX : va_X b L xs s s.heap) (hbl : b < s.heap.size) (hbA : ¬ zA G b) (hi : ∀ k, k < 5 → vp_in (nI i + nI k) L) {J : zW → Prop} (hJ : ∀ (w : zW), J w → ∀ (a1 a2 : Int32), (a2 = 0 ∨ a2 = 1) → ∃ (r : Int32), f_X3_loses w a1 a2 = some r ∧ f_X4_loses w a1 a2 = some r ∧ J w) {w : zW} (hw : J w) (kk : ∀ w2 : zW, J w2 → ZL G p l e room_1 s m #[Value.ref b] below meth c Q 4 1363 [(0, .ref b), (1, .ref (zad G 0)), (2, .ref (zad G 56)), (3, .int (nI i))] [] w2) : ZL G p l e room_1 s m #[Value.ref b] below meth c Q 4 382 [(0, .ref b), (1, .ref (zad G 0)), (2, .ref (zad G 56)), (3, .int (nI i))] [] w := by
  by_cases hz : xs (zx (nI i + 2)) = 0
  · obtain ⟨r, h1, h2, h3⟩ := hJ w hw (xs (zx (nI i + 1))) ((0 : Int32)) (.inl rfl)
    refine x_aload_n hC dL_law_382 1 rfl rfl ?_
    refine x_aload_n hC dL_law_383 0 rfl rfl ?_
    refine x_iload_n hC dL_law_384 3 rfl rfl ?_
    refine x_iconst hC dL_law_385 (v := 1) rfl ?_
    refine x_iadd hC dL_law_386 ?_
    refine x_sld hC hX hbl hbA (hi 1 (by decide)) dL_law_387 ?_
    refine x_aload_n hC dL_law_388 0 rfl rfl ?_
    refine x_iload_n hC dL_law_389 3 rfl rfl ?_
    refine x_iconst hC dL_law_390 (v := 2) rfl ?_
    refine x_iadd hC dL_law_391 ?_
    refine x_sld hC hX hbl hbA (hi 2 (by decide)) dL_law_392 ?_
    refine x_if_eq (tgt := 400) hC dL_law_393 (by decide) (fun _ => ?_) (fun h9 => absurd hz h9)
    refine x_iconst hC dL_law_400 (v := 0) rfl ?_
    refine x_cvi (As := [.int (xs (zx (nI i + 1))), .int 0]) (rest := []) hC zo_bot rfl (c_X3_loses l G w (xs (zx (nI i + 1))) ((0 : Int32)) h1) zw_ml_L_48 zy_X3_loses ⟨(Nat.le_of_ble_eq_true rfl), (Nat.le_of_ble_eq_true rfl)⟩ ⟨rfl, rfl, (Nat.le_of_ble_eq_true rfl), (Nat.le_of_ble_eq_true rfl)⟩ rfl rfl (Nat.le_of_ble_eq_true rfl) dL_law_401 ?_
    refine x_aload_n hC dL_law_404 2 rfl rfl ?_
    refine x_aload_n hC dL_law_405 0 rfl rfl ?_
    refine x_iload_n hC dL_law_406 3 rfl rfl ?_
    refine x_iconst hC dL_law_407 (v := 1) rfl ?_
    refine x_iadd hC dL_law_408 ?_
    refine x_sld hC hX hbl hbA (hi 1 (by decide)) dL_law_409 ?_
    refine x_aload_n hC dL_law_410 0 rfl rfl ?_
    refine x_iload_n hC dL_law_411 3 rfl rfl ?_
    refine x_iconst hC dL_law_412 (v := 2) rfl ?_
    refine x_iadd hC dL_law_413 ?_
    refine x_sld hC hX hbl hbA (hi 2 (by decide)) dL_law_414 ?_
    refine x_if_eq (tgt := 422) hC dL_law_415 (by decide) (fun _ => ?_) (fun h9 => absurd hz h9)
    refine x_iconst hC dL_law_422 (v := 0) rfl ?_
    refine x_cvi (As := [.int (xs (zx (nI i + 1))), .int 0]) (rest := [.int r]) hC zo_mod rfl (c_X4_loses l G w (xs (zx (nI i + 1))) ((0 : Int32)) h2) zw_ml_L_52 zy_X4_loses ⟨(Nat.le_of_ble_eq_true rfl), (Nat.le_of_ble_eq_true rfl)⟩ ⟨rfl, rfl, (Nat.le_of_ble_eq_true rfl), (Nat.le_of_ble_eq_true rfl)⟩ rfl rfl (Nat.le_of_ble_eq_true rfl) dL_law_423 ?_
    refine x_icmp_eq (tgt := 1363) hC dL_law_426 (by decide) (fun _ => ?_) (fun h9 => absurd rfl h9)
    exact kk _ h3
  · obtain ⟨r, h1, h2, h3⟩ := hJ w hw (xs (zx (nI i + 1))) ((1 : Int32)) (.inr rfl)
    refine x_aload_n hC dL_law_382 1 rfl rfl ?_
    refine x_aload_n hC dL_law_383 0 rfl rfl ?_
    refine x_iload_n hC dL_law_384 3 rfl rfl ?_
    refine x_iconst hC dL_law_385 (v := 1) rfl ?_
    refine x_iadd hC dL_law_386 ?_
    refine x_sld hC hX hbl hbA (hi 1 (by decide)) dL_law_387 ?_
    refine x_aload_n hC dL_law_388 0 rfl rfl ?_
    refine x_iload_n hC dL_law_389 3 rfl rfl ?_
    refine x_iconst hC dL_law_390 (v := 2) rfl ?_
    refine x_iadd hC dL_law_391 ?_
    refine x_sld hC hX hbl hbA (hi 2 (by decide)) dL_law_392 ?_
    refine x_if_eq (tgt := 400) hC dL_law_393 (by decide) (fun h9 => absurd h9 hz) (fun _ => ?_)
    refine x_iconst hC dL_law_396 (v := 1) rfl ?_
    refine x_goto (tgt := 401) hC dL_law_397 (by decide) ?_
    refine x_cvi (As := [.int (xs (zx (nI i + 1))), .int 1]) (rest := []) hC zo_bot rfl (c_X3_loses l G w (xs (zx (nI i + 1))) ((1 : Int32)) h1) zw_ml_L_48 zy_X3_loses ⟨(Nat.le_of_ble_eq_true rfl), (Nat.le_of_ble_eq_true rfl)⟩ ⟨rfl, rfl, (Nat.le_of_ble_eq_true rfl), (Nat.le_of_ble_eq_true rfl)⟩ rfl rfl (Nat.le_of_ble_eq_true rfl) dL_law_401 ?_
    refine x_aload_n hC dL_law_404 2 rfl rfl ?_
    refine x_aload_n hC dL_law_405 0 rfl rfl ?_
    refine x_iload_n hC dL_law_406 3 rfl rfl ?_
    refine x_iconst hC dL_law_407 (v := 1) rfl ?_
    refine x_iadd hC dL_law_408 ?_
    refine x_sld hC hX hbl hbA (hi 1 (by decide)) dL_law_409 ?_
    refine x_aload_n hC dL_law_410 0 rfl rfl ?_
    refine x_iload_n hC dL_law_411 3 rfl rfl ?_
    refine x_iconst hC dL_law_412 (v := 2) rfl ?_
    refine x_iadd hC dL_law_413 ?_
    refine x_sld hC hX hbl hbA (hi 2 (by decide)) dL_law_414 ?_
    refine x_if_eq (tgt := 422) hC dL_law_415 (by decide) (fun h9 => absurd h9 hz) (fun _ => ?_)
    refine x_iconst hC dL_law_418 (v := 1) rfl ?_
    refine x_goto (tgt := 423) hC dL_law_419 (by decide) ?_
    refine x_cvi (As := [.int (xs (zx (nI i + 1))), .int 1]) (rest := [.int r]) hC zo_mod rfl (c_X4_loses l G w (xs (zx (nI i + 1))) ((1 : Int32)) h2) zw_ml_L_52 zy_X4_loses ⟨(Nat.le_of_ble_eq_true rfl), (Nat.le_of_ble_eq_true rfl)⟩ ⟨rfl, rfl, (Nat.le_of_ble_eq_true rfl), (Nat.le_of_ble_eq_true rfl)⟩ rfl rfl (Nat.le_of_ble_eq_true rfl) dL_law_423 ?_
    refine x_icmp_eq (tgt := 1363) hC dL_law_426 (by decide) (fun _ => ?_) (fun h9 => absurd rfl h9)
    exact kk _ h3
set_option maxRecDepth 100000 in
set_option maxHeartbeats 4000000 in
theorem law_9 {G : zG} {p : Program} {l : Launch} {e : Env} {s : State} {m : MethodId} {below : List Frame} {meth : Method} {c : Code} {Q : State → Prop} {b L : Nat} {xs : Nat → Int32} {i : Nat} (hC : zC G RL cL_law 4 ret p s m #[Value.ref b] meth c) (hX : va_X b L xs s s.heap) (hbl : b < s.heap.size) (hbA : ¬ zA G b) (hi : ∀ k, k < 5 → vp_in (nI i + nI k) L) {J : zW → Prop} (hJ : ∀ (w : zW), J w → ∀ (a1 a2 : Int32), ∃ (r : Int32) (w1 : zW) (w2 : zW), f_X3_teach w a1 a2 = some (r, w1) ∧ f_X4_teach w1 a1 a2 = some (r, w2) ∧ J w2) {w : zW} (hw : J w) (kk : ∀ w2 : zW, J w2 → ZL G p l e room_1 s m #[Value.ref b] below meth c Q 4 1363 [(0, .ref b), (1, .ref (zad G 0)), (2, .ref (zad G 56)), (3, .int (nI i))] [] w2) : ZL G p l e room_1 s m #[Value.ref b] below meth c Q 4 431 [(0, .ref b), (1, .ref (zad G 0)), (2, .ref (zad G 56)), (3, .int (nI i))] [] w := by
  obtain ⟨r, w1, w2, h1, h2, h3⟩ := hJ w hw (xs (zx (nI i + 1))) (xs (zx (nI i + 2)))
  refine x_aload_n hC dL_law_431 1 rfl rfl ?_
  refine x_aload_n hC dL_law_432 0 rfl rfl ?_
  refine x_iload_n hC dL_law_433 3 rfl rfl ?_
  refine x_iconst hC dL_law_434 (v := 1) rfl ?_
  refine x_iadd hC dL_law_435 ?_
  refine x_sld hC hX hbl hbA (hi 1 (by decide)) dL_law_436 ?_
  refine x_aload_n hC dL_law_437 0 rfl rfl ?_
  refine x_iload_n hC dL_law_438 3 rfl rfl ?_
  refine x_iconst hC dL_law_439 (v := 2) rfl ?_
  refine x_iadd hC dL_law_440 ?_
  refine x_sld hC hX hbl hbA (hi 2 (by decide)) dL_law_441 ?_
  refine x_cvi (As := [.int (xs (zx (nI i + 1))), .int (xs (zx (nI i + 2)))]) (rest := []) hC zo_bot rfl (c_X3_teach l G w (xs (zx (nI i + 1))) (xs (zx (nI i + 2))) h1) zw_ml_L_53 zy_X3_teach ⟨(Nat.le_of_ble_eq_true rfl), (Nat.le_of_ble_eq_true rfl)⟩ ⟨rfl, rfl, (Nat.le_of_ble_eq_true rfl), (Nat.le_of_ble_eq_true rfl)⟩ rfl rfl (Nat.le_of_ble_eq_true rfl) dL_law_442 ?_
  refine x_aload_n hC dL_law_445 2 rfl rfl ?_
  refine x_aload_n hC dL_law_446 0 rfl rfl ?_
  refine x_iload_n hC dL_law_447 3 rfl rfl ?_
  refine x_iconst hC dL_law_448 (v := 1) rfl ?_
  refine x_iadd hC dL_law_449 ?_
  refine x_sld hC hX hbl hbA (hi 1 (by decide)) dL_law_450 ?_
  refine x_aload_n hC dL_law_451 0 rfl rfl ?_
  refine x_iload_n hC dL_law_452 3 rfl rfl ?_
  refine x_iconst hC dL_law_453 (v := 2) rfl ?_
  refine x_iadd hC dL_law_454 ?_
  refine x_sld hC hX hbl hbA (hi 2 (by decide)) dL_law_455 ?_
  refine x_cvi (As := [.int (xs (zx (nI i + 1))), .int (xs (zx (nI i + 2)))]) (rest := [.int r]) hC zo_mod rfl (c_X4_teach l G w1 (xs (zx (nI i + 1))) (xs (zx (nI i + 2))) h2) zw_ml_L_56 zy_X4_teach ⟨(Nat.le_of_ble_eq_true rfl), (Nat.le_of_ble_eq_true rfl)⟩ ⟨rfl, rfl, (Nat.le_of_ble_eq_true rfl), (Nat.le_of_ble_eq_true rfl)⟩ rfl rfl (Nat.le_of_ble_eq_true rfl) dL_law_456 ?_
  refine x_icmp_eq (tgt := 1363) hC dL_law_459 (by decide) (fun _ => ?_) (fun h9 => absurd rfl h9)
  exact kk _ h3
set_option maxRecDepth 100000 in
set_option maxHeartbeats 4000000 in
theorem law_10 {G : zG} {p : Program} {l : Launch} {e : Env} {s : State} {m : MethodId} {below : List Frame} {meth : Method} {c : Code} {Q : State → Prop} {b L : Nat} {xs : Nat → Int32} {i : Nat} (hC : zC G RL cL_law 4 ret p s m #[Value.ref b] meth c) (hX : va_X b L xs s s.heap) (hbl : b < s.heap.size) (hbA : ¬ zA G b) (hi : ∀ k, k < 5 → vp_in (nI i + nI k) L) {J : zW → Prop} (hJ : ∀ (w : zW), J w → ∀ (a1 a2 : Int32), ∃ (r : Int32) (w1 : zW) (w2 : zW), f_X3_drink w a1 a2 = some (r, w1) ∧ f_X4_drink w1 a1 a2 = some (r, w2) ∧ J w2) {w : zW} (hw : J w) (kk : ∀ w2 : zW, J w2 → ZL G p l e room_1 s m #[Value.ref b] below meth c Q 4 1363 [(0, .ref b), (1, .ref (zad G 0)), (2, .ref (zad G 56)), (3, .int (nI i))] [] w2) : ZL G p l e room_1 s m #[Value.ref b] below meth c Q 4 464 [(0, .ref b), (1, .ref (zad G 0)), (2, .ref (zad G 56)), (3, .int (nI i))] [] w := by
  obtain ⟨r, w1, w2, h1, h2, h3⟩ := hJ w hw (xs (zx (nI i + 1))) (xs (zx (nI i + 2)))
  refine x_aload_n hC dL_law_464 1 rfl rfl ?_
  refine x_aload_n hC dL_law_465 0 rfl rfl ?_
  refine x_iload_n hC dL_law_466 3 rfl rfl ?_
  refine x_iconst hC dL_law_467 (v := 1) rfl ?_
  refine x_iadd hC dL_law_468 ?_
  refine x_sld hC hX hbl hbA (hi 1 (by decide)) dL_law_469 ?_
  refine x_aload_n hC dL_law_470 0 rfl rfl ?_
  refine x_iload_n hC dL_law_471 3 rfl rfl ?_
  refine x_iconst hC dL_law_472 (v := 2) rfl ?_
  refine x_iadd hC dL_law_473 ?_
  refine x_sld hC hX hbl hbA (hi 2 (by decide)) dL_law_474 ?_
  refine x_cvi (As := [.int (xs (zx (nI i + 1))), .int (xs (zx (nI i + 2)))]) (rest := []) hC zo_bot rfl (c_X3_drink l G w (xs (zx (nI i + 1))) (xs (zx (nI i + 2))) h1) zw_ml_L_57 zy_X3_drink ⟨(Nat.le_of_ble_eq_true rfl), (Nat.le_of_ble_eq_true rfl)⟩ ⟨rfl, rfl, (Nat.le_of_ble_eq_true rfl), (Nat.le_of_ble_eq_true rfl)⟩ rfl rfl (Nat.le_of_ble_eq_true rfl) dL_law_475 ?_
  refine x_aload_n hC dL_law_478 2 rfl rfl ?_
  refine x_aload_n hC dL_law_479 0 rfl rfl ?_
  refine x_iload_n hC dL_law_480 3 rfl rfl ?_
  refine x_iconst hC dL_law_481 (v := 1) rfl ?_
  refine x_iadd hC dL_law_482 ?_
  refine x_sld hC hX hbl hbA (hi 1 (by decide)) dL_law_483 ?_
  refine x_aload_n hC dL_law_484 0 rfl rfl ?_
  refine x_iload_n hC dL_law_485 3 rfl rfl ?_
  refine x_iconst hC dL_law_486 (v := 2) rfl ?_
  refine x_iadd hC dL_law_487 ?_
  refine x_sld hC hX hbl hbA (hi 2 (by decide)) dL_law_488 ?_
  refine x_cvi (As := [.int (xs (zx (nI i + 1))), .int (xs (zx (nI i + 2)))]) (rest := [.int r]) hC zo_mod rfl (c_X4_drink l G w1 (xs (zx (nI i + 1))) (xs (zx (nI i + 2))) h2) zw_ml_L_60 zy_X4_drink ⟨(Nat.le_of_ble_eq_true rfl), (Nat.le_of_ble_eq_true rfl)⟩ ⟨rfl, rfl, (Nat.le_of_ble_eq_true rfl), (Nat.le_of_ble_eq_true rfl)⟩ rfl rfl (Nat.le_of_ble_eq_true rfl) dL_law_489 ?_
  refine x_icmp_eq (tgt := 1363) hC dL_law_492 (by decide) (fun _ => ?_) (fun h9 => absurd rfl h9)
  exact kk _ h3
set_option maxRecDepth 100000 in
set_option maxHeartbeats 4000000 in
theorem law_11 {G : zG} {p : Program} {l : Launch} {e : Env} {s : State} {m : MethodId} {below : List Frame} {meth : Method} {c : Code} {Q : State → Prop} {b L : Nat} {xs : Nat → Int32} {i : Nat} (hC : zC G RL cL_law 4 ret p s m #[Value.ref b] meth c) (hX : va_X b L xs s s.heap) (hbl : b < s.heap.size) (hbA : ¬ zA G b) (hi : ∀ k, k < 5 → vp_in (nI i + nI k) L) {J : zW → Prop} (hJ : ∀ (w : zW), J w → ∀ (a1 : Int32), ∃ (r : Int32) (w1 : zW) (w2 : zW), f_X3_fill w a1 = some (r, w1) ∧ f_X4_fill w1 a1 = some (r, w2) ∧ J w2) {w : zW} (hw : J w) (kk : ∀ w2 : zW, J w2 → ZL G p l e room_1 s m #[Value.ref b] below meth c Q 4 1363 [(0, .ref b), (1, .ref (zad G 0)), (2, .ref (zad G 56)), (3, .int (nI i))] [] w2) : ZL G p l e room_1 s m #[Value.ref b] below meth c Q 4 497 [(0, .ref b), (1, .ref (zad G 0)), (2, .ref (zad G 56)), (3, .int (nI i))] [] w := by
  obtain ⟨r, w1, w2, h1, h2, h3⟩ := hJ w hw (xs (zx (nI i + 1)))
  refine x_aload_n hC dL_law_497 1 rfl rfl ?_
  refine x_aload_n hC dL_law_498 0 rfl rfl ?_
  refine x_iload_n hC dL_law_499 3 rfl rfl ?_
  refine x_iconst hC dL_law_500 (v := 1) rfl ?_
  refine x_iadd hC dL_law_501 ?_
  refine x_sld hC hX hbl hbA (hi 1 (by decide)) dL_law_502 ?_
  refine x_cvi (As := [.int (xs (zx (nI i + 1)))]) (rest := []) hC zo_bot rfl (c_X3_fill l G w (xs (zx (nI i + 1))) h1) zw_ml_L_61 zy_X3_fill ⟨(Nat.le_of_ble_eq_true rfl), (Nat.le_of_ble_eq_true rfl)⟩ ⟨rfl, rfl, (Nat.le_of_ble_eq_true rfl), (Nat.le_of_ble_eq_true rfl)⟩ rfl rfl (Nat.le_of_ble_eq_true rfl) dL_law_503 ?_
  refine x_aload_n hC dL_law_506 2 rfl rfl ?_
  refine x_aload_n hC dL_law_507 0 rfl rfl ?_
  refine x_iload_n hC dL_law_508 3 rfl rfl ?_
  refine x_iconst hC dL_law_509 (v := 1) rfl ?_
  refine x_iadd hC dL_law_510 ?_
  refine x_sld hC hX hbl hbA (hi 1 (by decide)) dL_law_511 ?_
  refine x_cvi (As := [.int (xs (zx (nI i + 1)))]) (rest := [.int r]) hC zo_mod rfl (c_X4_fill l G w1 (xs (zx (nI i + 1))) h2) zw_ml_L_64 zy_X4_fill ⟨(Nat.le_of_ble_eq_true rfl), (Nat.le_of_ble_eq_true rfl)⟩ ⟨rfl, rfl, (Nat.le_of_ble_eq_true rfl), (Nat.le_of_ble_eq_true rfl)⟩ rfl rfl (Nat.le_of_ble_eq_true rfl) dL_law_512 ?_
  refine x_icmp_eq (tgt := 1363) hC dL_law_515 (by decide) (fun _ => ?_) (fun h9 => absurd rfl h9)
  exact kk _ h3
set_option maxRecDepth 100000 in
set_option maxHeartbeats 4000000 in
theorem law_12 {G : zG} {p : Program} {l : Launch} {e : Env} {s : State} {m : MethodId} {below : List Frame} {meth : Method} {c : Code} {Q : State → Prop} {b L : Nat} {xs : Nat → Int32} {i : Nat} (hC : zC G RL cL_law 4 ret p s m #[Value.ref b] meth c) (hX : va_X b L xs s s.heap) (hbl : b < s.heap.size) (hbA : ¬ zA G b) (hi : ∀ k, k < 5 → vp_in (nI i + nI k) L) {J : zW → Prop} (hJ : ∀ (w : zW), J w → ∀ (a1 : Int32), ∃ (r : Int32) (w1 : zW) (w2 : zW), f_X3_plan w a1 = some (r, w1) ∧ f_X4_plan w1 a1 = some (r, w2) ∧ J w2) {w : zW} (hw : J w) (kk : ∀ w2 : zW, J w2 → ZL G p l e room_1 s m #[Value.ref b] below meth c Q 4 1363 [(0, .ref b), (1, .ref (zad G 0)), (2, .ref (zad G 56)), (3, .int (nI i))] [] w2) : ZL G p l e room_1 s m #[Value.ref b] below meth c Q 4 520 [(0, .ref b), (1, .ref (zad G 0)), (2, .ref (zad G 56)), (3, .int (nI i))] [] w := by
  obtain ⟨r, w1, w2, h1, h2, h3⟩ := hJ w hw (xs (zx (nI i + 1)))
  refine x_aload_n hC dL_law_520 1 rfl rfl ?_
  refine x_aload_n hC dL_law_521 0 rfl rfl ?_
  refine x_iload_n hC dL_law_522 3 rfl rfl ?_
  refine x_iconst hC dL_law_523 (v := 1) rfl ?_
  refine x_iadd hC dL_law_524 ?_
  refine x_sld hC hX hbl hbA (hi 1 (by decide)) dL_law_525 ?_
  refine x_cvi (As := [.int (xs (zx (nI i + 1)))]) (rest := []) hC zo_bot rfl (c_X3_plan l G w (xs (zx (nI i + 1))) h1) zw_ml_L_65 zy_X3_plan ⟨(Nat.le_of_ble_eq_true rfl), (Nat.le_of_ble_eq_true rfl)⟩ ⟨rfl, rfl, (Nat.le_of_ble_eq_true rfl), (Nat.le_of_ble_eq_true rfl)⟩ rfl rfl (Nat.le_of_ble_eq_true rfl) dL_law_526 ?_
  refine x_aload_n hC dL_law_529 2 rfl rfl ?_
  refine x_aload_n hC dL_law_530 0 rfl rfl ?_
  refine x_iload_n hC dL_law_531 3 rfl rfl ?_
  refine x_iconst hC dL_law_532 (v := 1) rfl ?_
  refine x_iadd hC dL_law_533 ?_
  refine x_sld hC hX hbl hbA (hi 1 (by decide)) dL_law_534 ?_
  refine x_cvi (As := [.int (xs (zx (nI i + 1)))]) (rest := [.int r]) hC zo_mod rfl (c_X4_plan l G w1 (xs (zx (nI i + 1))) h2) zw_ml_L_68 zy_X4_plan ⟨(Nat.le_of_ble_eq_true rfl), (Nat.le_of_ble_eq_true rfl)⟩ ⟨rfl, rfl, (Nat.le_of_ble_eq_true rfl), (Nat.le_of_ble_eq_true rfl)⟩ rfl rfl (Nat.le_of_ble_eq_true rfl) dL_law_535 ?_
  refine x_icmp_eq (tgt := 1363) hC dL_law_538 (by decide) (fun _ => ?_) (fun h9 => absurd rfl h9)
  exact kk _ h3
set_option maxRecDepth 100000 in
set_option maxHeartbeats 4000000 in
theorem law_13 {G : zG} {p : Program} {l : Launch} {e : Env} {s : State} {m : MethodId} {below : List Frame} {meth : Method} {c : Code} {Q : State → Prop} {b L : Nat} {xs : Nat → Int32} {i : Nat} (hC : zC G RL cL_law 4 ret p s m #[Value.ref b] meth c) (hX : va_X b L xs s s.heap) (hbl : b < s.heap.size) (hbA : ¬ zA G b) (hi : ∀ k, k < 5 → vp_in (nI i + nI k) L) {J : zW → Prop} (hJ : ∀ (w : zW), J w → ∀ (a1 a2 : Int32), (a2 = 0 ∨ a2 = 1) → ∃ (r : Int32) (w1 : zW) (w2 : zW), f_X3_wet w a1 a2 = some (r, w1) ∧ f_X4_wet w1 a1 a2 = some (r, w2) ∧ J w2) {w : zW} (hw : J w) (kk : ∀ w2 : zW, J w2 → ZL G p l e room_1 s m #[Value.ref b] below meth c Q 4 1363 [(0, .ref b), (1, .ref (zad G 0)), (2, .ref (zad G 56)), (3, .int (nI i))] [] w2) : ZL G p l e room_1 s m #[Value.ref b] below meth c Q 4 543 [(0, .ref b), (1, .ref (zad G 0)), (2, .ref (zad G 56)), (3, .int (nI i))] [] w := by
  by_cases hz : xs (zx (nI i + 2)) = 0
  · obtain ⟨r, w1, w2, h1, h2, h3⟩ := hJ w hw (xs (zx (nI i + 1))) ((0 : Int32)) (.inl rfl)
    refine x_aload_n hC dL_law_543 1 rfl rfl ?_
    refine x_aload_n hC dL_law_544 0 rfl rfl ?_
    refine x_iload_n hC dL_law_545 3 rfl rfl ?_
    refine x_iconst hC dL_law_546 (v := 1) rfl ?_
    refine x_iadd hC dL_law_547 ?_
    refine x_sld hC hX hbl hbA (hi 1 (by decide)) dL_law_548 ?_
    refine x_aload_n hC dL_law_549 0 rfl rfl ?_
    refine x_iload_n hC dL_law_550 3 rfl rfl ?_
    refine x_iconst hC dL_law_551 (v := 2) rfl ?_
    refine x_iadd hC dL_law_552 ?_
    refine x_sld hC hX hbl hbA (hi 2 (by decide)) dL_law_553 ?_
    refine x_if_eq (tgt := 561) hC dL_law_554 (by decide) (fun _ => ?_) (fun h9 => absurd hz h9)
    refine x_iconst hC dL_law_561 (v := 0) rfl ?_
    refine x_cvi (As := [.int (xs (zx (nI i + 1))), .int 0]) (rest := []) hC zo_bot rfl (c_X3_wet l G w (xs (zx (nI i + 1))) ((0 : Int32)) h1) zw_ml_L_69 zy_X3_wet ⟨(Nat.le_of_ble_eq_true rfl), (Nat.le_of_ble_eq_true rfl)⟩ ⟨rfl, rfl, (Nat.le_of_ble_eq_true rfl), (Nat.le_of_ble_eq_true rfl)⟩ rfl rfl (Nat.le_of_ble_eq_true rfl) dL_law_562 ?_
    refine x_aload_n hC dL_law_565 2 rfl rfl ?_
    refine x_aload_n hC dL_law_566 0 rfl rfl ?_
    refine x_iload_n hC dL_law_567 3 rfl rfl ?_
    refine x_iconst hC dL_law_568 (v := 1) rfl ?_
    refine x_iadd hC dL_law_569 ?_
    refine x_sld hC hX hbl hbA (hi 1 (by decide)) dL_law_570 ?_
    refine x_aload_n hC dL_law_571 0 rfl rfl ?_
    refine x_iload_n hC dL_law_572 3 rfl rfl ?_
    refine x_iconst hC dL_law_573 (v := 2) rfl ?_
    refine x_iadd hC dL_law_574 ?_
    refine x_sld hC hX hbl hbA (hi 2 (by decide)) dL_law_575 ?_
    refine x_if_eq (tgt := 583) hC dL_law_576 (by decide) (fun _ => ?_) (fun h9 => absurd hz h9)
    refine x_iconst hC dL_law_583 (v := 0) rfl ?_
    refine x_cvi (As := [.int (xs (zx (nI i + 1))), .int 0]) (rest := [.int r]) hC zo_mod rfl (c_X4_wet l G w1 (xs (zx (nI i + 1))) ((0 : Int32)) h2) zw_ml_L_72 zy_X4_wet ⟨(Nat.le_of_ble_eq_true rfl), (Nat.le_of_ble_eq_true rfl)⟩ ⟨rfl, rfl, (Nat.le_of_ble_eq_true rfl), (Nat.le_of_ble_eq_true rfl)⟩ rfl rfl (Nat.le_of_ble_eq_true rfl) dL_law_584 ?_
    refine x_icmp_eq (tgt := 1363) hC dL_law_587 (by decide) (fun _ => ?_) (fun h9 => absurd rfl h9)
    exact kk _ h3
  · obtain ⟨r, w1, w2, h1, h2, h3⟩ := hJ w hw (xs (zx (nI i + 1))) ((1 : Int32)) (.inr rfl)
    refine x_aload_n hC dL_law_543 1 rfl rfl ?_
    refine x_aload_n hC dL_law_544 0 rfl rfl ?_
    refine x_iload_n hC dL_law_545 3 rfl rfl ?_
    refine x_iconst hC dL_law_546 (v := 1) rfl ?_
    refine x_iadd hC dL_law_547 ?_
    refine x_sld hC hX hbl hbA (hi 1 (by decide)) dL_law_548 ?_
    refine x_aload_n hC dL_law_549 0 rfl rfl ?_
    refine x_iload_n hC dL_law_550 3 rfl rfl ?_
    refine x_iconst hC dL_law_551 (v := 2) rfl ?_
    refine x_iadd hC dL_law_552 ?_
    refine x_sld hC hX hbl hbA (hi 2 (by decide)) dL_law_553 ?_
    refine x_if_eq (tgt := 561) hC dL_law_554 (by decide) (fun h9 => absurd h9 hz) (fun _ => ?_)
    refine x_iconst hC dL_law_557 (v := 1) rfl ?_
    refine x_goto (tgt := 562) hC dL_law_558 (by decide) ?_
    refine x_cvi (As := [.int (xs (zx (nI i + 1))), .int 1]) (rest := []) hC zo_bot rfl (c_X3_wet l G w (xs (zx (nI i + 1))) ((1 : Int32)) h1) zw_ml_L_69 zy_X3_wet ⟨(Nat.le_of_ble_eq_true rfl), (Nat.le_of_ble_eq_true rfl)⟩ ⟨rfl, rfl, (Nat.le_of_ble_eq_true rfl), (Nat.le_of_ble_eq_true rfl)⟩ rfl rfl (Nat.le_of_ble_eq_true rfl) dL_law_562 ?_
    refine x_aload_n hC dL_law_565 2 rfl rfl ?_
    refine x_aload_n hC dL_law_566 0 rfl rfl ?_
    refine x_iload_n hC dL_law_567 3 rfl rfl ?_
    refine x_iconst hC dL_law_568 (v := 1) rfl ?_
    refine x_iadd hC dL_law_569 ?_
    refine x_sld hC hX hbl hbA (hi 1 (by decide)) dL_law_570 ?_
    refine x_aload_n hC dL_law_571 0 rfl rfl ?_
    refine x_iload_n hC dL_law_572 3 rfl rfl ?_
    refine x_iconst hC dL_law_573 (v := 2) rfl ?_
    refine x_iadd hC dL_law_574 ?_
    refine x_sld hC hX hbl hbA (hi 2 (by decide)) dL_law_575 ?_
    refine x_if_eq (tgt := 583) hC dL_law_576 (by decide) (fun h9 => absurd h9 hz) (fun _ => ?_)
    refine x_iconst hC dL_law_579 (v := 1) rfl ?_
    refine x_goto (tgt := 584) hC dL_law_580 (by decide) ?_
    refine x_cvi (As := [.int (xs (zx (nI i + 1))), .int 1]) (rest := [.int r]) hC zo_mod rfl (c_X4_wet l G w1 (xs (zx (nI i + 1))) ((1 : Int32)) h2) zw_ml_L_72 zy_X4_wet ⟨(Nat.le_of_ble_eq_true rfl), (Nat.le_of_ble_eq_true rfl)⟩ ⟨rfl, rfl, (Nat.le_of_ble_eq_true rfl), (Nat.le_of_ble_eq_true rfl)⟩ rfl rfl (Nat.le_of_ble_eq_true rfl) dL_law_584 ?_
    refine x_icmp_eq (tgt := 1363) hC dL_law_587 (by decide) (fun _ => ?_) (fun h9 => absurd rfl h9)
    exact kk _ h3
set_option maxRecDepth 100000 in
set_option maxHeartbeats 4000000 in
theorem law_14 {G : zG} {p : Program} {l : Launch} {e : Env} {s : State} {m : MethodId} {below : List Frame} {meth : Method} {c : Code} {Q : State → Prop} {b L : Nat} {xs : Nat → Int32} {i : Nat} (hC : zC G RL cL_law 4 ret p s m #[Value.ref b] meth c) (hX : va_X b L xs s s.heap) (hbl : b < s.heap.size) (hbA : ¬ zA G b) (hi : ∀ k, k < 5 → vp_in (nI i + nI k) L) {J : zW → Prop} (hJ : ∀ (w : zW), J w → ∀ (a1 a2 : Int32), ∃ (r : Int32) (w1 : zW) (w2 : zW), f_X3_odd w a1 a2 = some (r, w1) ∧ f_X4_odd w1 a1 a2 = some (r, w2) ∧ J w2) {w : zW} (hw : J w) (kk : ∀ w2 : zW, J w2 → ZL G p l e room_1 s m #[Value.ref b] below meth c Q 4 1363 [(0, .ref b), (1, .ref (zad G 0)), (2, .ref (zad G 56)), (3, .int (nI i))] [] w2) : ZL G p l e room_1 s m #[Value.ref b] below meth c Q 4 592 [(0, .ref b), (1, .ref (zad G 0)), (2, .ref (zad G 56)), (3, .int (nI i))] [] w := by
  obtain ⟨r, w1, w2, h1, h2, h3⟩ := hJ w hw (xs (zx (nI i + 1))) (xs (zx (nI i + 2)))
  refine x_aload_n hC dL_law_592 1 rfl rfl ?_
  refine x_aload_n hC dL_law_593 0 rfl rfl ?_
  refine x_iload_n hC dL_law_594 3 rfl rfl ?_
  refine x_iconst hC dL_law_595 (v := 1) rfl ?_
  refine x_iadd hC dL_law_596 ?_
  refine x_sld hC hX hbl hbA (hi 1 (by decide)) dL_law_597 ?_
  refine x_aload_n hC dL_law_598 0 rfl rfl ?_
  refine x_iload_n hC dL_law_599 3 rfl rfl ?_
  refine x_iconst hC dL_law_600 (v := 2) rfl ?_
  refine x_iadd hC dL_law_601 ?_
  refine x_sld hC hX hbl hbA (hi 2 (by decide)) dL_law_602 ?_
  refine x_cvi (As := [.int (xs (zx (nI i + 1))), .int (xs (zx (nI i + 2)))]) (rest := []) hC zo_bot rfl (c_X3_odd l G w (xs (zx (nI i + 1))) (xs (zx (nI i + 2))) h1) zw_ml_L_73 zy_X3_odd ⟨(Nat.le_of_ble_eq_true rfl), (Nat.le_of_ble_eq_true rfl)⟩ ⟨rfl, rfl, (Nat.le_of_ble_eq_true rfl), (Nat.le_of_ble_eq_true rfl)⟩ rfl rfl (Nat.le_of_ble_eq_true rfl) dL_law_603 ?_
  refine x_aload_n hC dL_law_606 2 rfl rfl ?_
  refine x_aload_n hC dL_law_607 0 rfl rfl ?_
  refine x_iload_n hC dL_law_608 3 rfl rfl ?_
  refine x_iconst hC dL_law_609 (v := 1) rfl ?_
  refine x_iadd hC dL_law_610 ?_
  refine x_sld hC hX hbl hbA (hi 1 (by decide)) dL_law_611 ?_
  refine x_aload_n hC dL_law_612 0 rfl rfl ?_
  refine x_iload_n hC dL_law_613 3 rfl rfl ?_
  refine x_iconst hC dL_law_614 (v := 2) rfl ?_
  refine x_iadd hC dL_law_615 ?_
  refine x_sld hC hX hbl hbA (hi 2 (by decide)) dL_law_616 ?_
  refine x_cvi (As := [.int (xs (zx (nI i + 1))), .int (xs (zx (nI i + 2)))]) (rest := [.int r]) hC zo_mod rfl (c_X4_odd l G w1 (xs (zx (nI i + 1))) (xs (zx (nI i + 2))) h2) zw_ml_L_76 zy_X4_odd ⟨(Nat.le_of_ble_eq_true rfl), (Nat.le_of_ble_eq_true rfl)⟩ ⟨rfl, rfl, (Nat.le_of_ble_eq_true rfl), (Nat.le_of_ble_eq_true rfl)⟩ rfl rfl (Nat.le_of_ble_eq_true rfl) dL_law_617 ?_
  refine x_icmp_eq (tgt := 1363) hC dL_law_620 (by decide) (fun _ => ?_) (fun h9 => absurd rfl h9)
  exact kk _ h3
set_option maxRecDepth 100000 in
set_option maxHeartbeats 4000000 in
theorem law_15 {G : zG} {p : Program} {l : Launch} {e : Env} {s : State} {m : MethodId} {below : List Frame} {meth : Method} {c : Code} {Q : State → Prop} {b L : Nat} {xs : Nat → Int32} {i : Nat} (hC : zC G RL cL_law 4 ret p s m #[Value.ref b] meth c) (hX : va_X b L xs s s.heap) (hbl : b < s.heap.size) (hbA : ¬ zA G b) (hi : ∀ k, k < 5 → vp_in (nI i + nI k) L) {J : zW → Prop} (hJ : ∀ (w : zW), J w → ∀ (a1 a2 : Int32), ∃ (r : Int32) (w1 : zW) (w2 : zW), f_X3_lay w a1 a2 = some (r, w1) ∧ f_X4_lay w1 a1 a2 = some (r, w2) ∧ J w2) {w : zW} (hw : J w) (kk : ∀ w2 : zW, J w2 → ZL G p l e room_1 s m #[Value.ref b] below meth c Q 4 1363 [(0, .ref b), (1, .ref (zad G 0)), (2, .ref (zad G 56)), (3, .int (nI i))] [] w2) : ZL G p l e room_1 s m #[Value.ref b] below meth c Q 4 625 [(0, .ref b), (1, .ref (zad G 0)), (2, .ref (zad G 56)), (3, .int (nI i))] [] w := by
  obtain ⟨r, w1, w2, h1, h2, h3⟩ := hJ w hw (xs (zx (nI i + 1))) (xs (zx (nI i + 2)))
  refine x_aload_n hC dL_law_625 1 rfl rfl ?_
  refine x_aload_n hC dL_law_626 0 rfl rfl ?_
  refine x_iload_n hC dL_law_627 3 rfl rfl ?_
  refine x_iconst hC dL_law_628 (v := 1) rfl ?_
  refine x_iadd hC dL_law_629 ?_
  refine x_sld hC hX hbl hbA (hi 1 (by decide)) dL_law_630 ?_
  refine x_aload_n hC dL_law_631 0 rfl rfl ?_
  refine x_iload_n hC dL_law_632 3 rfl rfl ?_
  refine x_iconst hC dL_law_633 (v := 2) rfl ?_
  refine x_iadd hC dL_law_634 ?_
  refine x_sld hC hX hbl hbA (hi 2 (by decide)) dL_law_635 ?_
  refine x_cvi (As := [.int (xs (zx (nI i + 1))), .int (xs (zx (nI i + 2)))]) (rest := []) hC zo_bot rfl (c_X3_lay l G w (xs (zx (nI i + 1))) (xs (zx (nI i + 2))) h1) zw_ml_L_77 zy_X3_lay ⟨(Nat.le_of_ble_eq_true rfl), (Nat.le_of_ble_eq_true rfl)⟩ ⟨rfl, rfl, (Nat.le_of_ble_eq_true rfl), (Nat.le_of_ble_eq_true rfl)⟩ rfl rfl (Nat.le_of_ble_eq_true rfl) dL_law_636 ?_
  refine x_aload_n hC dL_law_639 2 rfl rfl ?_
  refine x_aload_n hC dL_law_640 0 rfl rfl ?_
  refine x_iload_n hC dL_law_641 3 rfl rfl ?_
  refine x_iconst hC dL_law_642 (v := 1) rfl ?_
  refine x_iadd hC dL_law_643 ?_
  refine x_sld hC hX hbl hbA (hi 1 (by decide)) dL_law_644 ?_
  refine x_aload_n hC dL_law_645 0 rfl rfl ?_
  refine x_iload_n hC dL_law_646 3 rfl rfl ?_
  refine x_iconst hC dL_law_647 (v := 2) rfl ?_
  refine x_iadd hC dL_law_648 ?_
  refine x_sld hC hX hbl hbA (hi 2 (by decide)) dL_law_649 ?_
  refine x_cvi (As := [.int (xs (zx (nI i + 1))), .int (xs (zx (nI i + 2)))]) (rest := [.int r]) hC zo_mod rfl (c_X4_lay l G w1 (xs (zx (nI i + 1))) (xs (zx (nI i + 2))) h2) zw_ml_L_80 zy_X4_lay ⟨(Nat.le_of_ble_eq_true rfl), (Nat.le_of_ble_eq_true rfl)⟩ ⟨rfl, rfl, (Nat.le_of_ble_eq_true rfl), (Nat.le_of_ble_eq_true rfl)⟩ rfl rfl (Nat.le_of_ble_eq_true rfl) dL_law_650 ?_
  refine x_icmp_eq (tgt := 1363) hC dL_law_653 (by decide) (fun _ => ?_) (fun h9 => absurd rfl h9)
  exact kk _ h3
set_option maxRecDepth 100000 in
set_option maxHeartbeats 4000000 in
theorem law_16 {G : zG} {p : Program} {l : Launch} {e : Env} {s : State} {m : MethodId} {below : List Frame} {meth : Method} {c : Code} {Q : State → Prop} {b L : Nat} {xs : Nat → Int32} {i : Nat} (hC : zC G RL cL_law 4 ret p s m #[Value.ref b] meth c) (hX : va_X b L xs s s.heap) (hbl : b < s.heap.size) (hbA : ¬ zA G b) (hi : ∀ k, k < 5 → vp_in (nI i + nI k) L) {J : zW → Prop} (hJ : ∀ (w : zW), J w → ∀ (a1 : Int32), ∃ (r : Int32) (w1 : zW) (w2 : zW), f_X3_go w a1 = some (r, w1) ∧ f_X4_go w1 a1 = some (r, w2) ∧ J w2) {w : zW} (hw : J w) (kk : ∀ w2 : zW, J w2 → ZL G p l e room_1 s m #[Value.ref b] below meth c Q 4 1363 [(0, .ref b), (1, .ref (zad G 0)), (2, .ref (zad G 56)), (3, .int (nI i))] [] w2) : ZL G p l e room_1 s m #[Value.ref b] below meth c Q 4 658 [(0, .ref b), (1, .ref (zad G 0)), (2, .ref (zad G 56)), (3, .int (nI i))] [] w := by
  obtain ⟨r, w1, w2, h1, h2, h3⟩ := hJ w hw (xs (zx (nI i + 1)))
  refine x_aload_n hC dL_law_658 1 rfl rfl ?_
  refine x_aload_n hC dL_law_659 0 rfl rfl ?_
  refine x_iload_n hC dL_law_660 3 rfl rfl ?_
  refine x_iconst hC dL_law_661 (v := 1) rfl ?_
  refine x_iadd hC dL_law_662 ?_
  refine x_sld hC hX hbl hbA (hi 1 (by decide)) dL_law_663 ?_
  refine x_cvi (As := [.int (xs (zx (nI i + 1)))]) (rest := []) hC zo_bot rfl (c_X3_go l G w (xs (zx (nI i + 1))) h1) zw_ml_L_81 zy_X3_go ⟨(Nat.le_of_ble_eq_true rfl), (Nat.le_of_ble_eq_true rfl)⟩ ⟨rfl, rfl, (Nat.le_of_ble_eq_true rfl), (Nat.le_of_ble_eq_true rfl)⟩ rfl rfl (Nat.le_of_ble_eq_true rfl) dL_law_664 ?_
  refine x_aload_n hC dL_law_667 2 rfl rfl ?_
  refine x_aload_n hC dL_law_668 0 rfl rfl ?_
  refine x_iload_n hC dL_law_669 3 rfl rfl ?_
  refine x_iconst hC dL_law_670 (v := 1) rfl ?_
  refine x_iadd hC dL_law_671 ?_
  refine x_sld hC hX hbl hbA (hi 1 (by decide)) dL_law_672 ?_
  refine x_cvi (As := [.int (xs (zx (nI i + 1)))]) (rest := [.int r]) hC zo_mod rfl (c_X4_go l G w1 (xs (zx (nI i + 1))) h2) zw_ml_L_84 zy_X4_go ⟨(Nat.le_of_ble_eq_true rfl), (Nat.le_of_ble_eq_true rfl)⟩ ⟨rfl, rfl, (Nat.le_of_ble_eq_true rfl), (Nat.le_of_ble_eq_true rfl)⟩ rfl rfl (Nat.le_of_ble_eq_true rfl) dL_law_673 ?_
  refine x_icmp_eq (tgt := 1363) hC dL_law_676 (by decide) (fun _ => ?_) (fun h9 => absurd rfl h9)
  exact kk _ h3
set_option maxRecDepth 100000 in
set_option maxHeartbeats 4000000 in
theorem law_17 {G : zG} {p : Program} {l : Launch} {e : Env} {s : State} {m : MethodId} {below : List Frame} {meth : Method} {c : Code} {Q : State → Prop} {b L : Nat} {xs : Nat → Int32} {i : Nat} (hC : zC G RL cL_law 4 ret p s m #[Value.ref b] meth c) (hX : va_X b L xs s s.heap) (hbl : b < s.heap.size) (hbA : ¬ zA G b) (hi : ∀ k, k < 5 → vp_in (nI i + nI k) L) {J : zW → Prop} (hJ : ∀ (w : zW), J w → ∀ (a1 a2 : Int32), ∃ (r : Int32) (w1 : zW) (w2 : zW), f_X3_ahead w a1 a2 = some (r, w1) ∧ f_X4_ahead w1 a1 a2 = some (r, w2) ∧ J w2) {w : zW} (hw : J w) (kk : ∀ w2 : zW, J w2 → ZL G p l e room_1 s m #[Value.ref b] below meth c Q 4 1363 [(0, .ref b), (1, .ref (zad G 0)), (2, .ref (zad G 56)), (3, .int (nI i))] [] w2) : ZL G p l e room_1 s m #[Value.ref b] below meth c Q 4 681 [(0, .ref b), (1, .ref (zad G 0)), (2, .ref (zad G 56)), (3, .int (nI i))] [] w := by
  obtain ⟨r, w1, w2, h1, h2, h3⟩ := hJ w hw (xs (zx (nI i + 1))) (xs (zx (nI i + 2)))
  refine x_aload_n hC dL_law_681 1 rfl rfl ?_
  refine x_aload_n hC dL_law_682 0 rfl rfl ?_
  refine x_iload_n hC dL_law_683 3 rfl rfl ?_
  refine x_iconst hC dL_law_684 (v := 1) rfl ?_
  refine x_iadd hC dL_law_685 ?_
  refine x_sld hC hX hbl hbA (hi 1 (by decide)) dL_law_686 ?_
  refine x_aload_n hC dL_law_687 0 rfl rfl ?_
  refine x_iload_n hC dL_law_688 3 rfl rfl ?_
  refine x_iconst hC dL_law_689 (v := 2) rfl ?_
  refine x_iadd hC dL_law_690 ?_
  refine x_sld hC hX hbl hbA (hi 2 (by decide)) dL_law_691 ?_
  refine x_cvi (As := [.int (xs (zx (nI i + 1))), .int (xs (zx (nI i + 2)))]) (rest := []) hC zo_bot rfl (c_X3_ahead l G w (xs (zx (nI i + 1))) (xs (zx (nI i + 2))) h1) zw_ml_L_85 zy_X3_ahead ⟨(Nat.le_of_ble_eq_true rfl), (Nat.le_of_ble_eq_true rfl)⟩ ⟨rfl, rfl, (Nat.le_of_ble_eq_true rfl), (Nat.le_of_ble_eq_true rfl)⟩ rfl rfl (Nat.le_of_ble_eq_true rfl) dL_law_692 ?_
  refine x_aload_n hC dL_law_695 2 rfl rfl ?_
  refine x_aload_n hC dL_law_696 0 rfl rfl ?_
  refine x_iload_n hC dL_law_697 3 rfl rfl ?_
  refine x_iconst hC dL_law_698 (v := 1) rfl ?_
  refine x_iadd hC dL_law_699 ?_
  refine x_sld hC hX hbl hbA (hi 1 (by decide)) dL_law_700 ?_
  refine x_aload_n hC dL_law_701 0 rfl rfl ?_
  refine x_iload_n hC dL_law_702 3 rfl rfl ?_
  refine x_iconst hC dL_law_703 (v := 2) rfl ?_
  refine x_iadd hC dL_law_704 ?_
  refine x_sld hC hX hbl hbA (hi 2 (by decide)) dL_law_705 ?_
  refine x_cvi (As := [.int (xs (zx (nI i + 1))), .int (xs (zx (nI i + 2)))]) (rest := [.int r]) hC zo_mod rfl (c_X4_ahead l G w1 (xs (zx (nI i + 1))) (xs (zx (nI i + 2))) h2) zw_ml_L_88 zy_X4_ahead ⟨(Nat.le_of_ble_eq_true rfl), (Nat.le_of_ble_eq_true rfl)⟩ ⟨rfl, rfl, (Nat.le_of_ble_eq_true rfl), (Nat.le_of_ble_eq_true rfl)⟩ rfl rfl (Nat.le_of_ble_eq_true rfl) dL_law_706 ?_
  refine x_icmp_eq (tgt := 1363) hC dL_law_709 (by decide) (fun _ => ?_) (fun h9 => absurd rfl h9)
  exact kk _ h3
set_option maxRecDepth 100000 in
set_option maxHeartbeats 4000000 in
theorem law_18 {G : zG} {p : Program} {l : Launch} {e : Env} {s : State} {m : MethodId} {below : List Frame} {meth : Method} {c : Code} {Q : State → Prop} {b L : Nat} {xs : Nat → Int32} {i : Nat} (hC : zC G RL cL_law 4 ret p s m #[Value.ref b] meth c) (hX : va_X b L xs s s.heap) (hbl : b < s.heap.size) (hbA : ¬ zA G b) (hi : ∀ k, k < 5 → vp_in (nI i + nI k) L) {J : zW → Prop} (hJ : ∀ (w : zW), J w → ∀ (a1 : Int32), ∃ (r : Int32) (w1 : zW) (w2 : zW), f_X3_down w a1 = some (r, w1) ∧ f_X4_down w1 a1 = some (r, w2) ∧ J w2) {w : zW} (hw : J w) (kk : ∀ w2 : zW, J w2 → ZL G p l e room_1 s m #[Value.ref b] below meth c Q 4 1363 [(0, .ref b), (1, .ref (zad G 0)), (2, .ref (zad G 56)), (3, .int (nI i))] [] w2) : ZL G p l e room_1 s m #[Value.ref b] below meth c Q 4 714 [(0, .ref b), (1, .ref (zad G 0)), (2, .ref (zad G 56)), (3, .int (nI i))] [] w := by
  obtain ⟨r, w1, w2, h1, h2, h3⟩ := hJ w hw (xs (zx (nI i + 1)))
  refine x_aload_n hC dL_law_714 1 rfl rfl ?_
  refine x_aload_n hC dL_law_715 0 rfl rfl ?_
  refine x_iload_n hC dL_law_716 3 rfl rfl ?_
  refine x_iconst hC dL_law_717 (v := 1) rfl ?_
  refine x_iadd hC dL_law_718 ?_
  refine x_sld hC hX hbl hbA (hi 1 (by decide)) dL_law_719 ?_
  refine x_cvi (As := [.int (xs (zx (nI i + 1)))]) (rest := []) hC zo_bot rfl (c_X3_down l G w (xs (zx (nI i + 1))) h1) zw_ml_L_89 zy_X3_down ⟨(Nat.le_of_ble_eq_true rfl), (Nat.le_of_ble_eq_true rfl)⟩ ⟨rfl, rfl, (Nat.le_of_ble_eq_true rfl), (Nat.le_of_ble_eq_true rfl)⟩ rfl rfl (Nat.le_of_ble_eq_true rfl) dL_law_720 ?_
  refine x_aload_n hC dL_law_723 2 rfl rfl ?_
  refine x_aload_n hC dL_law_724 0 rfl rfl ?_
  refine x_iload_n hC dL_law_725 3 rfl rfl ?_
  refine x_iconst hC dL_law_726 (v := 1) rfl ?_
  refine x_iadd hC dL_law_727 ?_
  refine x_sld hC hX hbl hbA (hi 1 (by decide)) dL_law_728 ?_
  refine x_cvi (As := [.int (xs (zx (nI i + 1)))]) (rest := [.int r]) hC zo_mod rfl (c_X4_down l G w1 (xs (zx (nI i + 1))) h2) zw_ml_L_92 zy_X4_down ⟨(Nat.le_of_ble_eq_true rfl), (Nat.le_of_ble_eq_true rfl)⟩ ⟨rfl, rfl, (Nat.le_of_ble_eq_true rfl), (Nat.le_of_ble_eq_true rfl)⟩ rfl rfl (Nat.le_of_ble_eq_true rfl) dL_law_729 ?_
  refine x_icmp_eq (tgt := 1363) hC dL_law_732 (by decide) (fun _ => ?_) (fun h9 => absurd rfl h9)
  exact kk _ h3
set_option maxRecDepth 100000 in
set_option maxHeartbeats 4000000 in
theorem law_19 {G : zG} {p : Program} {l : Launch} {e : Env} {s : State} {m : MethodId} {below : List Frame} {meth : Method} {c : Code} {Q : State → Prop} {b L : Nat} {xs : Nat → Int32} {i : Nat} (hC : zC G RL cL_law 4 ret p s m #[Value.ref b] meth c) (hX : va_X b L xs s s.heap) (hbl : b < s.heap.size) (hbA : ¬ zA G b) (hi : ∀ k, k < 5 → vp_in (nI i + nI k) L) {J : zW → Prop} (hJ : ∀ (w : zW), J w → ∀ (a1 a2 : Int32), ∃ (r : Int32) (w1 : zW) (w2 : zW), f_X3_arrive w a1 a2 = some (r, w1) ∧ f_X4_arrive w1 a1 a2 = some (r, w2) ∧ J w2) {w : zW} (hw : J w) (kk : ∀ w2 : zW, J w2 → ZL G p l e room_1 s m #[Value.ref b] below meth c Q 4 1363 [(0, .ref b), (1, .ref (zad G 0)), (2, .ref (zad G 56)), (3, .int (nI i))] [] w2) : ZL G p l e room_1 s m #[Value.ref b] below meth c Q 4 737 [(0, .ref b), (1, .ref (zad G 0)), (2, .ref (zad G 56)), (3, .int (nI i))] [] w := by
  obtain ⟨r, w1, w2, h1, h2, h3⟩ := hJ w hw (xs (zx (nI i + 1))) (xs (zx (nI i + 2)))
  refine x_aload_n hC dL_law_737 1 rfl rfl ?_
  refine x_aload_n hC dL_law_738 0 rfl rfl ?_
  refine x_iload_n hC dL_law_739 3 rfl rfl ?_
  refine x_iconst hC dL_law_740 (v := 1) rfl ?_
  refine x_iadd hC dL_law_741 ?_
  refine x_sld hC hX hbl hbA (hi 1 (by decide)) dL_law_742 ?_
  refine x_aload_n hC dL_law_743 0 rfl rfl ?_
  refine x_iload_n hC dL_law_744 3 rfl rfl ?_
  refine x_iconst hC dL_law_745 (v := 2) rfl ?_
  refine x_iadd hC dL_law_746 ?_
  refine x_sld hC hX hbl hbA (hi 2 (by decide)) dL_law_747 ?_
  refine x_cvi (As := [.int (xs (zx (nI i + 1))), .int (xs (zx (nI i + 2)))]) (rest := []) hC zo_bot rfl (c_X3_arrive l G w (xs (zx (nI i + 1))) (xs (zx (nI i + 2))) h1) zw_ml_L_93 zy_X3_arrive ⟨(Nat.le_of_ble_eq_true rfl), (Nat.le_of_ble_eq_true rfl)⟩ ⟨rfl, rfl, (Nat.le_of_ble_eq_true rfl), (Nat.le_of_ble_eq_true rfl)⟩ rfl rfl (Nat.le_of_ble_eq_true rfl) dL_law_748 ?_
  refine x_aload_n hC dL_law_751 2 rfl rfl ?_
  refine x_aload_n hC dL_law_752 0 rfl rfl ?_
  refine x_iload_n hC dL_law_753 3 rfl rfl ?_
  refine x_iconst hC dL_law_754 (v := 1) rfl ?_
  refine x_iadd hC dL_law_755 ?_
  refine x_sld hC hX hbl hbA (hi 1 (by decide)) dL_law_756 ?_
  refine x_aload_n hC dL_law_757 0 rfl rfl ?_
  refine x_iload_n hC dL_law_758 3 rfl rfl ?_
  refine x_iconst hC dL_law_759 (v := 2) rfl ?_
  refine x_iadd hC dL_law_760 ?_
  refine x_sld hC hX hbl hbA (hi 2 (by decide)) dL_law_761 ?_
  refine x_cvi (As := [.int (xs (zx (nI i + 1))), .int (xs (zx (nI i + 2)))]) (rest := [.int r]) hC zo_mod rfl (c_X4_arrive l G w1 (xs (zx (nI i + 1))) (xs (zx (nI i + 2))) h2) zw_ml_L_96 zy_X4_arrive ⟨(Nat.le_of_ble_eq_true rfl), (Nat.le_of_ble_eq_true rfl)⟩ ⟨rfl, rfl, (Nat.le_of_ble_eq_true rfl), (Nat.le_of_ble_eq_true rfl)⟩ rfl rfl (Nat.le_of_ble_eq_true rfl) dL_law_762 ?_
  refine x_icmp_eq (tgt := 1363) hC dL_law_765 (by decide) (fun _ => ?_) (fun h9 => absurd rfl h9)
  exact kk _ h3
set_option maxRecDepth 100000 in
set_option maxHeartbeats 4000000 in
theorem law_20 {G : zG} {p : Program} {l : Launch} {e : Env} {s : State} {m : MethodId} {below : List Frame} {meth : Method} {c : Code} {Q : State → Prop} {b L : Nat} {xs : Nat → Int32} {i : Nat} (hC : zC G RL cL_law 4 ret p s m #[Value.ref b] meth c) (hX : va_X b L xs s s.heap) (hbl : b < s.heap.size) (hbA : ¬ zA G b) (hi : ∀ k, k < 5 → vp_in (nI i + nI k) L) {J : zW → Prop} (hJ : ∀ (w : zW), J w → ∀ (a1 : Int32), ∃ (r : Int32) (w1 : zW) (w2 : zW), f_X3_best w a1 = some (r, w1) ∧ f_X4_best w1 a1 = some (r, w2) ∧ J w2) {w : zW} (hw : J w) (kk : ∀ w2 : zW, J w2 → ZL G p l e room_1 s m #[Value.ref b] below meth c Q 4 1363 [(0, .ref b), (1, .ref (zad G 0)), (2, .ref (zad G 56)), (3, .int (nI i))] [] w2) : ZL G p l e room_1 s m #[Value.ref b] below meth c Q 4 770 [(0, .ref b), (1, .ref (zad G 0)), (2, .ref (zad G 56)), (3, .int (nI i))] [] w := by
  obtain ⟨r, w1, w2, h1, h2, h3⟩ := hJ w hw (xs (zx (nI i + 1)))
  refine x_aload_n hC dL_law_770 1 rfl rfl ?_
  refine x_aload_n hC dL_law_771 0 rfl rfl ?_
  refine x_iload_n hC dL_law_772 3 rfl rfl ?_
  refine x_iconst hC dL_law_773 (v := 1) rfl ?_
  refine x_iadd hC dL_law_774 ?_
  refine x_sld hC hX hbl hbA (hi 1 (by decide)) dL_law_775 ?_
  refine x_cvi (As := [.int (xs (zx (nI i + 1)))]) (rest := []) hC zo_bot rfl (c_X3_best l G w (xs (zx (nI i + 1))) h1) zw_ml_L_97 zy_X3_best ⟨(Nat.le_of_ble_eq_true rfl), (Nat.le_of_ble_eq_true rfl)⟩ ⟨rfl, rfl, (Nat.le_of_ble_eq_true rfl), (Nat.le_of_ble_eq_true rfl)⟩ rfl rfl (Nat.le_of_ble_eq_true rfl) dL_law_776 ?_
  refine x_aload_n hC dL_law_779 2 rfl rfl ?_
  refine x_aload_n hC dL_law_780 0 rfl rfl ?_
  refine x_iload_n hC dL_law_781 3 rfl rfl ?_
  refine x_iconst hC dL_law_782 (v := 1) rfl ?_
  refine x_iadd hC dL_law_783 ?_
  refine x_sld hC hX hbl hbA (hi 1 (by decide)) dL_law_784 ?_
  refine x_cvi (As := [.int (xs (zx (nI i + 1)))]) (rest := [.int r]) hC zo_mod rfl (c_X4_best l G w1 (xs (zx (nI i + 1))) h2) zw_ml_L_100 zy_X4_best ⟨(Nat.le_of_ble_eq_true rfl), (Nat.le_of_ble_eq_true rfl)⟩ ⟨rfl, rfl, (Nat.le_of_ble_eq_true rfl), (Nat.le_of_ble_eq_true rfl)⟩ rfl rfl (Nat.le_of_ble_eq_true rfl) dL_law_785 ?_
  refine x_icmp_eq (tgt := 1363) hC dL_law_788 (by decide) (fun _ => ?_) (fun h9 => absurd rfl h9)
  exact kk _ h3
set_option maxRecDepth 100000 in
set_option maxHeartbeats 4000000 in
theorem law_21 {G : zG} {p : Program} {l : Launch} {e : Env} {s : State} {m : MethodId} {below : List Frame} {meth : Method} {c : Code} {Q : State → Prop} {b L : Nat} {xs : Nat → Int32} {i : Nat} (hC : zC G RL cL_law 4 ret p s m #[Value.ref b] meth c) (hX : va_X b L xs s s.heap) (hbl : b < s.heap.size) (hbA : ¬ zA G b) (hi : ∀ k, k < 5 → vp_in (nI i + nI k) L) {J : zW → Prop} (hJ : ∀ (w : zW), J w → ∀ (a1 : Int32), ∃ (r : Int32) (w1 : zW) (w2 : zW), f_X3_late w a1 = some (r, w1) ∧ f_X4_late w1 a1 = some (r, w2) ∧ J w2) {w : zW} (hw : J w) (kk : ∀ w2 : zW, J w2 → ZL G p l e room_1 s m #[Value.ref b] below meth c Q 4 1363 [(0, .ref b), (1, .ref (zad G 0)), (2, .ref (zad G 56)), (3, .int (nI i))] [] w2) : ZL G p l e room_1 s m #[Value.ref b] below meth c Q 4 793 [(0, .ref b), (1, .ref (zad G 0)), (2, .ref (zad G 56)), (3, .int (nI i))] [] w := by
  obtain ⟨r, w1, w2, h1, h2, h3⟩ := hJ w hw (xs (zx (nI i + 1)))
  refine x_aload_n hC dL_law_793 1 rfl rfl ?_
  refine x_aload_n hC dL_law_794 0 rfl rfl ?_
  refine x_iload_n hC dL_law_795 3 rfl rfl ?_
  refine x_iconst hC dL_law_796 (v := 1) rfl ?_
  refine x_iadd hC dL_law_797 ?_
  refine x_sld hC hX hbl hbA (hi 1 (by decide)) dL_law_798 ?_
  refine x_cvi (As := [.int (xs (zx (nI i + 1)))]) (rest := []) hC zo_bot rfl (c_X3_late l G w (xs (zx (nI i + 1))) h1) zw_ml_L_101 zy_X3_late ⟨(Nat.le_of_ble_eq_true rfl), (Nat.le_of_ble_eq_true rfl)⟩ ⟨rfl, rfl, (Nat.le_of_ble_eq_true rfl), (Nat.le_of_ble_eq_true rfl)⟩ rfl rfl (Nat.le_of_ble_eq_true rfl) dL_law_799 ?_
  refine x_aload_n hC dL_law_802 2 rfl rfl ?_
  refine x_aload_n hC dL_law_803 0 rfl rfl ?_
  refine x_iload_n hC dL_law_804 3 rfl rfl ?_
  refine x_iconst hC dL_law_805 (v := 1) rfl ?_
  refine x_iadd hC dL_law_806 ?_
  refine x_sld hC hX hbl hbA (hi 1 (by decide)) dL_law_807 ?_
  refine x_cvi (As := [.int (xs (zx (nI i + 1)))]) (rest := [.int r]) hC zo_mod rfl (c_X4_late l G w1 (xs (zx (nI i + 1))) h2) zw_ml_L_104 zy_X4_late ⟨(Nat.le_of_ble_eq_true rfl), (Nat.le_of_ble_eq_true rfl)⟩ ⟨rfl, rfl, (Nat.le_of_ble_eq_true rfl), (Nat.le_of_ble_eq_true rfl)⟩ rfl rfl (Nat.le_of_ble_eq_true rfl) dL_law_808 ?_
  refine x_icmp_eq (tgt := 1363) hC dL_law_811 (by decide) (fun _ => ?_) (fun h9 => absurd rfl h9)
  exact kk _ h3
set_option maxRecDepth 100000 in
set_option maxHeartbeats 4000000 in
theorem law_22 {G : zG} {p : Program} {l : Launch} {e : Env} {s : State} {m : MethodId} {below : List Frame} {meth : Method} {c : Code} {Q : State → Prop} {b L : Nat} {xs : Nat → Int32} {i : Nat} (hC : zC G RL cL_law 4 ret p s m #[Value.ref b] meth c) (hX : va_X b L xs s s.heap) (hbl : b < s.heap.size) (hbA : ¬ zA G b) (hi : ∀ k, k < 5 → vp_in (nI i + nI k) L) {J : zW → Prop} (hJ : ∀ (w : zW), J w → ∀ (_ : Unit), ∃ (r : Int32) (w1 : zW) (w2 : zW), f_X3_least w = some (r, w1) ∧ f_X4_least w1 = some (r, w2) ∧ J w2) {w : zW} (hw : J w) (kk : ∀ w2 : zW, J w2 → ZL G p l e room_1 s m #[Value.ref b] below meth c Q 4 1363 [(0, .ref b), (1, .ref (zad G 0)), (2, .ref (zad G 56)), (3, .int (nI i))] [] w2) : ZL G p l e room_1 s m #[Value.ref b] below meth c Q 4 816 [(0, .ref b), (1, .ref (zad G 0)), (2, .ref (zad G 56)), (3, .int (nI i))] [] w := by
  obtain ⟨r, w1, w2, h1, h2, h3⟩ := hJ w hw ()
  refine x_aload_n hC dL_law_816 1 rfl rfl ?_
  refine x_cvi (As := []) (rest := []) hC zo_bot rfl (c_X3_least l G w h1) zw_ml_L_105 zy_X3_least ⟨(Nat.le_of_ble_eq_true rfl), (Nat.le_of_ble_eq_true rfl)⟩ ⟨rfl, rfl, (Nat.le_of_ble_eq_true rfl), (Nat.le_of_ble_eq_true rfl)⟩ rfl rfl (Nat.le_of_ble_eq_true rfl) dL_law_817 ?_
  refine x_aload_n hC dL_law_820 2 rfl rfl ?_
  refine x_cvi (As := []) (rest := [.int r]) hC zo_mod rfl (c_X4_least l G w1 h2) zw_ml_L_108 zy_X4_least ⟨(Nat.le_of_ble_eq_true rfl), (Nat.le_of_ble_eq_true rfl)⟩ ⟨rfl, rfl, (Nat.le_of_ble_eq_true rfl), (Nat.le_of_ble_eq_true rfl)⟩ rfl rfl (Nat.le_of_ble_eq_true rfl) dL_law_821 ?_
  refine x_icmp_eq (tgt := 1363) hC dL_law_824 (by decide) (fun _ => ?_) (fun h9 => absurd rfl h9)
  exact kk _ h3
set_option maxRecDepth 100000 in
set_option maxHeartbeats 4000000 in
theorem law_23 {G : zG} {p : Program} {l : Launch} {e : Env} {s : State} {m : MethodId} {below : List Frame} {meth : Method} {c : Code} {Q : State → Prop} {b L : Nat} {xs : Nat → Int32} {i : Nat} (hC : zC G RL cL_law 4 ret p s m #[Value.ref b] meth c) (hX : va_X b L xs s s.heap) (hbl : b < s.heap.size) (hbA : ¬ zA G b) (hi : ∀ k, k < 5 → vp_in (nI i + nI k) L) {J : zW → Prop} (hJ : ∀ (w : zW), J w → ∀ (a1 : Int32), ∃ (r : Int32) (w1 : zW) (w2 : zW), f_X3_alike w a1 = some (r, w1) ∧ f_X4_alike w1 a1 = some (r, w2) ∧ J w2) {w : zW} (hw : J w) (kk : ∀ w2 : zW, J w2 → ZL G p l e room_1 s m #[Value.ref b] below meth c Q 4 1363 [(0, .ref b), (1, .ref (zad G 0)), (2, .ref (zad G 56)), (3, .int (nI i))] [] w2) : ZL G p l e room_1 s m #[Value.ref b] below meth c Q 4 829 [(0, .ref b), (1, .ref (zad G 0)), (2, .ref (zad G 56)), (3, .int (nI i))] [] w := by
  obtain ⟨r, w1, w2, h1, h2, h3⟩ := hJ w hw (xs (zx (nI i + 1)))
  refine x_aload_n hC dL_law_829 1 rfl rfl ?_
  refine x_aload_n hC dL_law_830 0 rfl rfl ?_
  refine x_iload_n hC dL_law_831 3 rfl rfl ?_
  refine x_iconst hC dL_law_832 (v := 1) rfl ?_
  refine x_iadd hC dL_law_833 ?_
  refine x_sld hC hX hbl hbA (hi 1 (by decide)) dL_law_834 ?_
  refine x_cvi (As := [.int (xs (zx (nI i + 1)))]) (rest := []) hC zo_bot rfl (c_X3_alike l G w (xs (zx (nI i + 1))) h1) zw_ml_L_109 zy_X3_alike ⟨(Nat.le_of_ble_eq_true rfl), (Nat.le_of_ble_eq_true rfl)⟩ ⟨rfl, rfl, (Nat.le_of_ble_eq_true rfl), (Nat.le_of_ble_eq_true rfl)⟩ rfl rfl (Nat.le_of_ble_eq_true rfl) dL_law_835 ?_
  refine x_aload_n hC dL_law_838 2 rfl rfl ?_
  refine x_aload_n hC dL_law_839 0 rfl rfl ?_
  refine x_iload_n hC dL_law_840 3 rfl rfl ?_
  refine x_iconst hC dL_law_841 (v := 1) rfl ?_
  refine x_iadd hC dL_law_842 ?_
  refine x_sld hC hX hbl hbA (hi 1 (by decide)) dL_law_843 ?_
  refine x_cvi (As := [.int (xs (zx (nI i + 1)))]) (rest := [.int r]) hC zo_mod rfl (c_X4_alike l G w1 (xs (zx (nI i + 1))) h2) zw_ml_L_112 zy_X4_alike ⟨(Nat.le_of_ble_eq_true rfl), (Nat.le_of_ble_eq_true rfl)⟩ ⟨rfl, rfl, (Nat.le_of_ble_eq_true rfl), (Nat.le_of_ble_eq_true rfl)⟩ rfl rfl (Nat.le_of_ble_eq_true rfl) dL_law_844 ?_
  refine x_icmp_eq (tgt := 1363) hC dL_law_847 (by decide) (fun _ => ?_) (fun h9 => absurd rfl h9)
  exact kk _ h3
set_option maxRecDepth 100000 in
set_option maxHeartbeats 4000000 in
theorem law_24 {G : zG} {p : Program} {l : Launch} {e : Env} {s : State} {m : MethodId} {below : List Frame} {meth : Method} {c : Code} {Q : State → Prop} {b L : Nat} {xs : Nat → Int32} {i : Nat} (hC : zC G RL cL_law 4 ret p s m #[Value.ref b] meth c) (hX : va_X b L xs s s.heap) (hbl : b < s.heap.size) (hbA : ¬ zA G b) (hi : ∀ k, k < 5 → vp_in (nI i + nI k) L) {J : zW → Prop} (hJ : ∀ (w : zW), J w → ∀ (a1 a2 : Int32), ∃ (r : Int32) (w1 : zW) (w2 : zW), f_X3_alone w a1 a2 = some (r, w1) ∧ f_X4_alone w1 a1 a2 = some (r, w2) ∧ J w2) {w : zW} (hw : J w) (kk : ∀ w2 : zW, J w2 → ZL G p l e room_1 s m #[Value.ref b] below meth c Q 4 1363 [(0, .ref b), (1, .ref (zad G 0)), (2, .ref (zad G 56)), (3, .int (nI i))] [] w2) : ZL G p l e room_1 s m #[Value.ref b] below meth c Q 4 852 [(0, .ref b), (1, .ref (zad G 0)), (2, .ref (zad G 56)), (3, .int (nI i))] [] w := by
  obtain ⟨r, w1, w2, h1, h2, h3⟩ := hJ w hw (xs (zx (nI i + 1))) (xs (zx (nI i + 2)))
  refine x_aload_n hC dL_law_852 1 rfl rfl ?_
  refine x_aload_n hC dL_law_853 0 rfl rfl ?_
  refine x_iload_n hC dL_law_854 3 rfl rfl ?_
  refine x_iconst hC dL_law_855 (v := 1) rfl ?_
  refine x_iadd hC dL_law_856 ?_
  refine x_sld hC hX hbl hbA (hi 1 (by decide)) dL_law_857 ?_
  refine x_aload_n hC dL_law_858 0 rfl rfl ?_
  refine x_iload_n hC dL_law_859 3 rfl rfl ?_
  refine x_iconst hC dL_law_860 (v := 2) rfl ?_
  refine x_iadd hC dL_law_861 ?_
  refine x_sld hC hX hbl hbA (hi 2 (by decide)) dL_law_862 ?_
  refine x_cvi (As := [.int (xs (zx (nI i + 1))), .int (xs (zx (nI i + 2)))]) (rest := []) hC zo_bot rfl (c_X3_alone l G w (xs (zx (nI i + 1))) (xs (zx (nI i + 2))) h1) zw_ml_L_113 zy_X3_alone ⟨(Nat.le_of_ble_eq_true rfl), (Nat.le_of_ble_eq_true rfl)⟩ ⟨rfl, rfl, (Nat.le_of_ble_eq_true rfl), (Nat.le_of_ble_eq_true rfl)⟩ rfl rfl (Nat.le_of_ble_eq_true rfl) dL_law_863 ?_
  refine x_aload_n hC dL_law_866 2 rfl rfl ?_
  refine x_aload_n hC dL_law_867 0 rfl rfl ?_
  refine x_iload_n hC dL_law_868 3 rfl rfl ?_
  refine x_iconst hC dL_law_869 (v := 1) rfl ?_
  refine x_iadd hC dL_law_870 ?_
  refine x_sld hC hX hbl hbA (hi 1 (by decide)) dL_law_871 ?_
  refine x_aload_n hC dL_law_872 0 rfl rfl ?_
  refine x_iload_n hC dL_law_873 3 rfl rfl ?_
  refine x_iconst hC dL_law_874 (v := 2) rfl ?_
  refine x_iadd hC dL_law_875 ?_
  refine x_sld hC hX hbl hbA (hi 2 (by decide)) dL_law_876 ?_
  refine x_cvi (As := [.int (xs (zx (nI i + 1))), .int (xs (zx (nI i + 2)))]) (rest := [.int r]) hC zo_mod rfl (c_X4_alone l G w1 (xs (zx (nI i + 1))) (xs (zx (nI i + 2))) h2) zw_ml_L_116 zy_X4_alone ⟨(Nat.le_of_ble_eq_true rfl), (Nat.le_of_ble_eq_true rfl)⟩ ⟨rfl, rfl, (Nat.le_of_ble_eq_true rfl), (Nat.le_of_ble_eq_true rfl)⟩ rfl rfl (Nat.le_of_ble_eq_true rfl) dL_law_877 ?_
  refine x_icmp_eq (tgt := 1363) hC dL_law_880 (by decide) (fun _ => ?_) (fun h9 => absurd rfl h9)
  exact kk _ h3
set_option maxRecDepth 100000 in
set_option maxHeartbeats 4000000 in
theorem law_25 {G : zG} {p : Program} {l : Launch} {e : Env} {s : State} {m : MethodId} {below : List Frame} {meth : Method} {c : Code} {Q : State → Prop} {b L : Nat} {xs : Nat → Int32} {i : Nat} (hC : zC G RL cL_law 4 ret p s m #[Value.ref b] meth c) (hX : va_X b L xs s s.heap) (hbl : b < s.heap.size) (hbA : ¬ zA G b) (hi : ∀ k, k < 5 → vp_in (nI i + nI k) L) {J : zW → Prop} (hJ : ∀ (w : zW), J w → ∀ (a1 a2 a3 : Int32), ∃ (r : Int64) (w1 : zW) (w2 : zW), f_X3_luck w a1 a2 a3 = some (r, w1) ∧ f_X4_luck w1 a1 a2 a3 = some (r, w2) ∧ J w2) {w : zW} (hw : J w) (kk : ∀ w2 : zW, J w2 → ZL G p l e room_1 s m #[Value.ref b] below meth c Q 4 1363 [(0, .ref b), (1, .ref (zad G 0)), (2, .ref (zad G 56)), (3, .int (nI i))] [] w2) : ZL G p l e room_1 s m #[Value.ref b] below meth c Q 4 885 [(0, .ref b), (1, .ref (zad G 0)), (2, .ref (zad G 56)), (3, .int (nI i))] [] w := by
  obtain ⟨r, w1, w2, h1, h2, h3⟩ := hJ w hw (xs (zx (nI i + 1))) (xs (zx (nI i + 2))) (xs (zx (nI i + 3)))
  refine x_aload_n hC dL_law_885 1 rfl rfl ?_
  refine x_aload_n hC dL_law_886 0 rfl rfl ?_
  refine x_iload_n hC dL_law_887 3 rfl rfl ?_
  refine x_iconst hC dL_law_888 (v := 1) rfl ?_
  refine x_iadd hC dL_law_889 ?_
  refine x_sld hC hX hbl hbA (hi 1 (by decide)) dL_law_890 ?_
  refine x_aload_n hC dL_law_891 0 rfl rfl ?_
  refine x_iload_n hC dL_law_892 3 rfl rfl ?_
  refine x_iconst hC dL_law_893 (v := 2) rfl ?_
  refine x_iadd hC dL_law_894 ?_
  refine x_sld hC hX hbl hbA (hi 2 (by decide)) dL_law_895 ?_
  refine x_aload_n hC dL_law_896 0 rfl rfl ?_
  refine x_iload_n hC dL_law_897 3 rfl rfl ?_
  refine x_iconst hC dL_law_898 (v := 3) rfl ?_
  refine x_iadd hC dL_law_899 ?_
  refine x_sld hC hX hbl hbA (hi 3 (by decide)) dL_law_900 ?_
  refine x_cvl (As := [.int (xs (zx (nI i + 1))), .int (xs (zx (nI i + 2))), .int (xs (zx (nI i + 3)))]) (rest := []) hC zo_bot rfl (c_X3_luck l G w (xs (zx (nI i + 1))) (xs (zx (nI i + 2))) (xs (zx (nI i + 3))) h1) zw_ml_L_117 zy_X3_luck ⟨(Nat.le_of_ble_eq_true rfl), (Nat.le_of_ble_eq_true rfl)⟩ ⟨rfl, rfl, (Nat.le_of_ble_eq_true rfl), (Nat.le_of_ble_eq_true rfl)⟩ rfl rfl (Nat.le_of_ble_eq_true rfl) dL_law_901 ?_
  refine x_aload_n hC dL_law_904 2 rfl rfl ?_
  refine x_aload_n hC dL_law_905 0 rfl rfl ?_
  refine x_iload_n hC dL_law_906 3 rfl rfl ?_
  refine x_iconst hC dL_law_907 (v := 1) rfl ?_
  refine x_iadd hC dL_law_908 ?_
  refine x_sld hC hX hbl hbA (hi 1 (by decide)) dL_law_909 ?_
  refine x_aload_n hC dL_law_910 0 rfl rfl ?_
  refine x_iload_n hC dL_law_911 3 rfl rfl ?_
  refine x_iconst hC dL_law_912 (v := 2) rfl ?_
  refine x_iadd hC dL_law_913 ?_
  refine x_sld hC hX hbl hbA (hi 2 (by decide)) dL_law_914 ?_
  refine x_aload_n hC dL_law_915 0 rfl rfl ?_
  refine x_iload_n hC dL_law_916 3 rfl rfl ?_
  refine x_iconst hC dL_law_917 (v := 3) rfl ?_
  refine x_iadd hC dL_law_918 ?_
  refine x_sld hC hX hbl hbA (hi 3 (by decide)) dL_law_919 ?_
  refine x_cvl (As := [.int (xs (zx (nI i + 1))), .int (xs (zx (nI i + 2))), .int (xs (zx (nI i + 3)))]) (rest := [.long r]) hC zo_mod rfl (c_X4_luck l G w1 (xs (zx (nI i + 1))) (xs (zx (nI i + 2))) (xs (zx (nI i + 3))) h2) zw_ml_L_121 zy_X4_luck ⟨(Nat.le_of_ble_eq_true rfl), (Nat.le_of_ble_eq_true rfl)⟩ ⟨rfl, rfl, (Nat.le_of_ble_eq_true rfl), (Nat.le_of_ble_eq_true rfl)⟩ rfl rfl (Nat.le_of_ble_eq_true rfl) dL_law_920 ?_
  refine x_lcmp hC dL_law_923 ?_
  refine x_if_eq (tgt := 1363) hC dL_law_924 (by decide) (fun _ => ?_) (fun h9 => absurd (lg_cmp_s r) h9)
  exact kk _ h3
set_option maxRecDepth 100000 in
set_option maxHeartbeats 4000000 in
theorem law_26 {G : zG} {p : Program} {l : Launch} {e : Env} {s : State} {m : MethodId} {below : List Frame} {meth : Method} {c : Code} {Q : State → Prop} {b L : Nat} {xs : Nat → Int32} {i : Nat} (hC : zC G RL cL_law 4 ret p s m #[Value.ref b] meth c) (hX : va_X b L xs s s.heap) (hbl : b < s.heap.size) (hbA : ¬ zA G b) (hi : ∀ k, k < 5 → vp_in (nI i + nI k) L) {J : zW → Prop} (hJ : ∀ (w : zW), J w → ∀ (a1 a2 : Int32), ∃ (r : Int64) (w1 : zW) (w2 : zW), f_X3_mean w a1 a2 = some (r, w1) ∧ f_X4_mean w1 a1 a2 = some (r, w2) ∧ J w2) {w : zW} (hw : J w) (kk : ∀ w2 : zW, J w2 → ZL G p l e room_1 s m #[Value.ref b] below meth c Q 4 1363 [(0, .ref b), (1, .ref (zad G 0)), (2, .ref (zad G 56)), (3, .int (nI i))] [] w2) : ZL G p l e room_1 s m #[Value.ref b] below meth c Q 4 929 [(0, .ref b), (1, .ref (zad G 0)), (2, .ref (zad G 56)), (3, .int (nI i))] [] w := by
  obtain ⟨r, w1, w2, h1, h2, h3⟩ := hJ w hw (xs (zx (nI i + 1))) (xs (zx (nI i + 2)))
  refine x_aload_n hC dL_law_929 1 rfl rfl ?_
  refine x_aload_n hC dL_law_930 0 rfl rfl ?_
  refine x_iload_n hC dL_law_931 3 rfl rfl ?_
  refine x_iconst hC dL_law_932 (v := 1) rfl ?_
  refine x_iadd hC dL_law_933 ?_
  refine x_sld hC hX hbl hbA (hi 1 (by decide)) dL_law_934 ?_
  refine x_aload_n hC dL_law_935 0 rfl rfl ?_
  refine x_iload_n hC dL_law_936 3 rfl rfl ?_
  refine x_iconst hC dL_law_937 (v := 2) rfl ?_
  refine x_iadd hC dL_law_938 ?_
  refine x_sld hC hX hbl hbA (hi 2 (by decide)) dL_law_939 ?_
  refine x_cvl (As := [.int (xs (zx (nI i + 1))), .int (xs (zx (nI i + 2)))]) (rest := []) hC zo_bot rfl (c_X3_mean l G w (xs (zx (nI i + 1))) (xs (zx (nI i + 2))) h1) zw_ml_L_122 zy_X3_mean ⟨(Nat.le_of_ble_eq_true rfl), (Nat.le_of_ble_eq_true rfl)⟩ ⟨rfl, rfl, (Nat.le_of_ble_eq_true rfl), (Nat.le_of_ble_eq_true rfl)⟩ rfl rfl (Nat.le_of_ble_eq_true rfl) dL_law_940 ?_
  refine x_aload_n hC dL_law_943 2 rfl rfl ?_
  refine x_aload_n hC dL_law_944 0 rfl rfl ?_
  refine x_iload_n hC dL_law_945 3 rfl rfl ?_
  refine x_iconst hC dL_law_946 (v := 1) rfl ?_
  refine x_iadd hC dL_law_947 ?_
  refine x_sld hC hX hbl hbA (hi 1 (by decide)) dL_law_948 ?_
  refine x_aload_n hC dL_law_949 0 rfl rfl ?_
  refine x_iload_n hC dL_law_950 3 rfl rfl ?_
  refine x_iconst hC dL_law_951 (v := 2) rfl ?_
  refine x_iadd hC dL_law_952 ?_
  refine x_sld hC hX hbl hbA (hi 2 (by decide)) dL_law_953 ?_
  refine x_cvl (As := [.int (xs (zx (nI i + 1))), .int (xs (zx (nI i + 2)))]) (rest := [.long r]) hC zo_mod rfl (c_X4_mean l G w1 (xs (zx (nI i + 1))) (xs (zx (nI i + 2))) h2) zw_ml_L_126 zy_X4_mean ⟨(Nat.le_of_ble_eq_true rfl), (Nat.le_of_ble_eq_true rfl)⟩ ⟨rfl, rfl, (Nat.le_of_ble_eq_true rfl), (Nat.le_of_ble_eq_true rfl)⟩ rfl rfl (Nat.le_of_ble_eq_true rfl) dL_law_954 ?_
  refine x_lcmp hC dL_law_957 ?_
  refine x_if_eq (tgt := 1363) hC dL_law_958 (by decide) (fun _ => ?_) (fun h9 => absurd (lg_cmp_s r) h9)
  exact kk _ h3
set_option maxRecDepth 100000 in
set_option maxHeartbeats 4000000 in
theorem law_27 {G : zG} {p : Program} {l : Launch} {e : Env} {s : State} {m : MethodId} {below : List Frame} {meth : Method} {c : Code} {Q : State → Prop} {b L : Nat} {xs : Nat → Int32} {i : Nat} (hC : zC G RL cL_law 4 ret p s m #[Value.ref b] meth c) (hX : va_X b L xs s s.heap) (hbl : b < s.heap.size) (hbA : ¬ zA G b) (hi : ∀ k, k < 5 → vp_in (nI i + nI k) L) {J : zW → Prop} (hJ : ∀ (w : zW), J w → ∀ (a1 a2 : Int32), ∃ (r : Int64) (w1 : zW) (w2 : zW), f_X3_stay w a1 a2 = some (r, w1) ∧ f_X4_stay w1 a1 a2 = some (r, w2) ∧ J w2) {w : zW} (hw : J w) (kk : ∀ w2 : zW, J w2 → ZL G p l e room_1 s m #[Value.ref b] below meth c Q 4 1363 [(0, .ref b), (1, .ref (zad G 0)), (2, .ref (zad G 56)), (3, .int (nI i))] [] w2) : ZL G p l e room_1 s m #[Value.ref b] below meth c Q 4 963 [(0, .ref b), (1, .ref (zad G 0)), (2, .ref (zad G 56)), (3, .int (nI i))] [] w := by
  obtain ⟨r, w1, w2, h1, h2, h3⟩ := hJ w hw (xs (zx (nI i + 1))) (xs (zx (nI i + 2)))
  refine x_aload_n hC dL_law_963 1 rfl rfl ?_
  refine x_aload_n hC dL_law_964 0 rfl rfl ?_
  refine x_iload_n hC dL_law_965 3 rfl rfl ?_
  refine x_iconst hC dL_law_966 (v := 1) rfl ?_
  refine x_iadd hC dL_law_967 ?_
  refine x_sld hC hX hbl hbA (hi 1 (by decide)) dL_law_968 ?_
  refine x_aload_n hC dL_law_969 0 rfl rfl ?_
  refine x_iload_n hC dL_law_970 3 rfl rfl ?_
  refine x_iconst hC dL_law_971 (v := 2) rfl ?_
  refine x_iadd hC dL_law_972 ?_
  refine x_sld hC hX hbl hbA (hi 2 (by decide)) dL_law_973 ?_
  refine x_cvl (As := [.int (xs (zx (nI i + 1))), .int (xs (zx (nI i + 2)))]) (rest := []) hC zo_bot rfl (c_X3_stay l G w (xs (zx (nI i + 1))) (xs (zx (nI i + 2))) h1) zw_ml_L_127 zy_X3_stay ⟨(Nat.le_of_ble_eq_true rfl), (Nat.le_of_ble_eq_true rfl)⟩ ⟨rfl, rfl, (Nat.le_of_ble_eq_true rfl), (Nat.le_of_ble_eq_true rfl)⟩ rfl rfl (Nat.le_of_ble_eq_true rfl) dL_law_974 ?_
  refine x_aload_n hC dL_law_977 2 rfl rfl ?_
  refine x_aload_n hC dL_law_978 0 rfl rfl ?_
  refine x_iload_n hC dL_law_979 3 rfl rfl ?_
  refine x_iconst hC dL_law_980 (v := 1) rfl ?_
  refine x_iadd hC dL_law_981 ?_
  refine x_sld hC hX hbl hbA (hi 1 (by decide)) dL_law_982 ?_
  refine x_aload_n hC dL_law_983 0 rfl rfl ?_
  refine x_iload_n hC dL_law_984 3 rfl rfl ?_
  refine x_iconst hC dL_law_985 (v := 2) rfl ?_
  refine x_iadd hC dL_law_986 ?_
  refine x_sld hC hX hbl hbA (hi 2 (by decide)) dL_law_987 ?_
  refine x_cvl (As := [.int (xs (zx (nI i + 1))), .int (xs (zx (nI i + 2)))]) (rest := [.long r]) hC zo_mod rfl (c_X4_stay l G w1 (xs (zx (nI i + 1))) (xs (zx (nI i + 2))) h2) zw_ml_L_130 zy_X4_stay ⟨(Nat.le_of_ble_eq_true rfl), (Nat.le_of_ble_eq_true rfl)⟩ ⟨rfl, rfl, (Nat.le_of_ble_eq_true rfl), (Nat.le_of_ble_eq_true rfl)⟩ rfl rfl (Nat.le_of_ble_eq_true rfl) dL_law_988 ?_
  refine x_lcmp hC dL_law_991 ?_
  refine x_if_eq (tgt := 1363) hC dL_law_992 (by decide) (fun _ => ?_) (fun h9 => absurd (lg_cmp_s r) h9)
  exact kk _ h3
set_option maxRecDepth 100000 in
set_option maxHeartbeats 4000000 in
theorem law_28 {G : zG} {p : Program} {l : Launch} {e : Env} {s : State} {m : MethodId} {below : List Frame} {meth : Method} {c : Code} {Q : State → Prop} {b L : Nat} {xs : Nat → Int32} {i : Nat} (hC : zC G RL cL_law 4 ret p s m #[Value.ref b] meth c) (hX : va_X b L xs s s.heap) (hbl : b < s.heap.size) (hbA : ¬ zA G b) (hi : ∀ k, k < 5 → vp_in (nI i + nI k) L) {J : zW → Prop} (hJ : ∀ (w : zW), J w → ∀ (a1 a2 : Int32), ∃ (r : Int32) (w1 : zW) (w2 : zW), f_X3_see w a1 a2 = some (r, w1) ∧ f_X4_see w1 a1 a2 = some (r, w2) ∧ J w2) {w : zW} (hw : J w) (kk : ∀ w2 : zW, J w2 → ZL G p l e room_1 s m #[Value.ref b] below meth c Q 4 1363 [(0, .ref b), (1, .ref (zad G 0)), (2, .ref (zad G 56)), (3, .int (nI i))] [] w2) : ZL G p l e room_1 s m #[Value.ref b] below meth c Q 4 997 [(0, .ref b), (1, .ref (zad G 0)), (2, .ref (zad G 56)), (3, .int (nI i))] [] w := by
  obtain ⟨r, w1, w2, h1, h2, h3⟩ := hJ w hw (xs (zx (nI i + 1))) (xs (zx (nI i + 2)))
  refine x_aload_n hC dL_law_997 1 rfl rfl ?_
  refine x_aload_n hC dL_law_998 0 rfl rfl ?_
  refine x_iload_n hC dL_law_999 3 rfl rfl ?_
  refine x_iconst hC dL_law_1000 (v := 1) rfl ?_
  refine x_iadd hC dL_law_1001 ?_
  refine x_sld hC hX hbl hbA (hi 1 (by decide)) dL_law_1002 ?_
  refine x_aload_n hC dL_law_1003 0 rfl rfl ?_
  refine x_iload_n hC dL_law_1004 3 rfl rfl ?_
  refine x_iconst hC dL_law_1005 (v := 2) rfl ?_
  refine x_iadd hC dL_law_1006 ?_
  refine x_sld hC hX hbl hbA (hi 2 (by decide)) dL_law_1007 ?_
  refine x_cvi (As := [.int (xs (zx (nI i + 1))), .int (xs (zx (nI i + 2)))]) (rest := []) hC zo_bot rfl (c_X3_see l G w (xs (zx (nI i + 1))) (xs (zx (nI i + 2))) h1) zw_ml_L_131 zy_X3_see ⟨(Nat.le_of_ble_eq_true rfl), (Nat.le_of_ble_eq_true rfl)⟩ ⟨rfl, rfl, (Nat.le_of_ble_eq_true rfl), (Nat.le_of_ble_eq_true rfl)⟩ rfl rfl (Nat.le_of_ble_eq_true rfl) dL_law_1008 ?_
  refine x_aload_n hC dL_law_1011 2 rfl rfl ?_
  refine x_aload_n hC dL_law_1012 0 rfl rfl ?_
  refine x_iload_n hC dL_law_1013 3 rfl rfl ?_
  refine x_iconst hC dL_law_1014 (v := 1) rfl ?_
  refine x_iadd hC dL_law_1015 ?_
  refine x_sld hC hX hbl hbA (hi 1 (by decide)) dL_law_1016 ?_
  refine x_aload_n hC dL_law_1017 0 rfl rfl ?_
  refine x_iload_n hC dL_law_1018 3 rfl rfl ?_
  refine x_iconst hC dL_law_1019 (v := 2) rfl ?_
  refine x_iadd hC dL_law_1020 ?_
  refine x_sld hC hX hbl hbA (hi 2 (by decide)) dL_law_1021 ?_
  refine x_cvi (As := [.int (xs (zx (nI i + 1))), .int (xs (zx (nI i + 2)))]) (rest := [.int r]) hC zo_mod rfl (c_X4_see l G w1 (xs (zx (nI i + 1))) (xs (zx (nI i + 2))) h2) zw_ml_L_134 zy_X4_see ⟨(Nat.le_of_ble_eq_true rfl), (Nat.le_of_ble_eq_true rfl)⟩ ⟨rfl, rfl, (Nat.le_of_ble_eq_true rfl), (Nat.le_of_ble_eq_true rfl)⟩ rfl rfl (Nat.le_of_ble_eq_true rfl) dL_law_1022 ?_
  refine x_icmp_eq (tgt := 1363) hC dL_law_1025 (by decide) (fun _ => ?_) (fun h9 => absurd rfl h9)
  exact kk _ h3
set_option maxRecDepth 100000 in
set_option maxHeartbeats 4000000 in
theorem law_29 {G : zG} {p : Program} {l : Launch} {e : Env} {s : State} {m : MethodId} {below : List Frame} {meth : Method} {c : Code} {Q : State → Prop} {b L : Nat} {xs : Nat → Int32} {i : Nat} (hC : zC G RL cL_law 4 ret p s m #[Value.ref b] meth c) (hX : va_X b L xs s s.heap) (hbl : b < s.heap.size) (hbA : ¬ zA G b) (hi : ∀ k, k < 5 → vp_in (nI i + nI k) L) {J : zW → Prop} (hJ : ∀ (w : zW), J w → ∀ (a1 : Int32), ∃ (r : Int32) (w1 : zW) (w2 : zW), f_X3_forget w a1 = some (r, w1) ∧ f_X4_forget w1 a1 = some (r, w2) ∧ J w2) {w : zW} (hw : J w) (kk : ∀ w2 : zW, J w2 → ZL G p l e room_1 s m #[Value.ref b] below meth c Q 4 1363 [(0, .ref b), (1, .ref (zad G 0)), (2, .ref (zad G 56)), (3, .int (nI i))] [] w2) : ZL G p l e room_1 s m #[Value.ref b] below meth c Q 4 1030 [(0, .ref b), (1, .ref (zad G 0)), (2, .ref (zad G 56)), (3, .int (nI i))] [] w := by
  obtain ⟨r, w1, w2, h1, h2, h3⟩ := hJ w hw (xs (zx (nI i + 1)))
  refine x_aload_n hC dL_law_1030 1 rfl rfl ?_
  refine x_aload_n hC dL_law_1031 0 rfl rfl ?_
  refine x_iload_n hC dL_law_1032 3 rfl rfl ?_
  refine x_iconst hC dL_law_1033 (v := 1) rfl ?_
  refine x_iadd hC dL_law_1034 ?_
  refine x_sld hC hX hbl hbA (hi 1 (by decide)) dL_law_1035 ?_
  refine x_cvi (As := [.int (xs (zx (nI i + 1)))]) (rest := []) hC zo_bot rfl (c_X3_forget l G w (xs (zx (nI i + 1))) h1) zw_ml_L_135 zy_X3_forget ⟨(Nat.le_of_ble_eq_true rfl), (Nat.le_of_ble_eq_true rfl)⟩ ⟨rfl, rfl, (Nat.le_of_ble_eq_true rfl), (Nat.le_of_ble_eq_true rfl)⟩ rfl rfl (Nat.le_of_ble_eq_true rfl) dL_law_1036 ?_
  refine x_aload_n hC dL_law_1039 2 rfl rfl ?_
  refine x_aload_n hC dL_law_1040 0 rfl rfl ?_
  refine x_iload_n hC dL_law_1041 3 rfl rfl ?_
  refine x_iconst hC dL_law_1042 (v := 1) rfl ?_
  refine x_iadd hC dL_law_1043 ?_
  refine x_sld hC hX hbl hbA (hi 1 (by decide)) dL_law_1044 ?_
  refine x_cvi (As := [.int (xs (zx (nI i + 1)))]) (rest := [.int r]) hC zo_mod rfl (c_X4_forget l G w1 (xs (zx (nI i + 1))) h2) zw_ml_L_138 zy_X4_forget ⟨(Nat.le_of_ble_eq_true rfl), (Nat.le_of_ble_eq_true rfl)⟩ ⟨rfl, rfl, (Nat.le_of_ble_eq_true rfl), (Nat.le_of_ble_eq_true rfl)⟩ rfl rfl (Nat.le_of_ble_eq_true rfl) dL_law_1045 ?_
  refine x_icmp_eq (tgt := 1363) hC dL_law_1048 (by decide) (fun _ => ?_) (fun h9 => absurd rfl h9)
  exact kk _ h3
set_option maxRecDepth 100000 in
set_option maxHeartbeats 4000000 in
theorem law_30 {G : zG} {p : Program} {l : Launch} {e : Env} {s : State} {m : MethodId} {below : List Frame} {meth : Method} {c : Code} {Q : State → Prop} {b L : Nat} {xs : Nat → Int32} {i : Nat} (hC : zC G RL cL_law 4 ret p s m #[Value.ref b] meth c) (hX : va_X b L xs s s.heap) (hbl : b < s.heap.size) (hbA : ¬ zA G b) (hi : ∀ k, k < 5 → vp_in (nI i + nI k) L) {J : zW → Prop} (hJ : ∀ (w : zW), J w → ∀ (a1 : Int32), ∃ (r : Int32) (w1 : zW) (w2 : zW), f_X3_fits w a1 = some (r, w1) ∧ f_X4_fits w1 a1 = some (r, w2) ∧ J w2) {w : zW} (hw : J w) (kk : ∀ w2 : zW, J w2 → ZL G p l e room_1 s m #[Value.ref b] below meth c Q 4 1363 [(0, .ref b), (1, .ref (zad G 0)), (2, .ref (zad G 56)), (3, .int (nI i))] [] w2) : ZL G p l e room_1 s m #[Value.ref b] below meth c Q 4 1053 [(0, .ref b), (1, .ref (zad G 0)), (2, .ref (zad G 56)), (3, .int (nI i))] [] w := by
  obtain ⟨r, w1, w2, h1, h2, h3⟩ := hJ w hw (xs (zx (nI i + 1)))
  refine x_aload_n hC dL_law_1053 1 rfl rfl ?_
  refine x_aload_n hC dL_law_1054 0 rfl rfl ?_
  refine x_iload_n hC dL_law_1055 3 rfl rfl ?_
  refine x_iconst hC dL_law_1056 (v := 1) rfl ?_
  refine x_iadd hC dL_law_1057 ?_
  refine x_sld hC hX hbl hbA (hi 1 (by decide)) dL_law_1058 ?_
  refine x_cvi (As := [.int (xs (zx (nI i + 1)))]) (rest := []) hC zo_bot rfl (c_X3_fits l G w (xs (zx (nI i + 1))) h1) zw_ml_L_139 zy_X3_fits ⟨(Nat.le_of_ble_eq_true rfl), (Nat.le_of_ble_eq_true rfl)⟩ ⟨rfl, rfl, (Nat.le_of_ble_eq_true rfl), (Nat.le_of_ble_eq_true rfl)⟩ rfl rfl (Nat.le_of_ble_eq_true rfl) dL_law_1059 ?_
  refine x_aload_n hC dL_law_1062 2 rfl rfl ?_
  refine x_aload_n hC dL_law_1063 0 rfl rfl ?_
  refine x_iload_n hC dL_law_1064 3 rfl rfl ?_
  refine x_iconst hC dL_law_1065 (v := 1) rfl ?_
  refine x_iadd hC dL_law_1066 ?_
  refine x_sld hC hX hbl hbA (hi 1 (by decide)) dL_law_1067 ?_
  refine x_cvi (As := [.int (xs (zx (nI i + 1)))]) (rest := [.int r]) hC zo_mod rfl (c_X4_fits l G w1 (xs (zx (nI i + 1))) h2) zw_ml_L_142 zy_X4_fits ⟨(Nat.le_of_ble_eq_true rfl), (Nat.le_of_ble_eq_true rfl)⟩ ⟨rfl, rfl, (Nat.le_of_ble_eq_true rfl), (Nat.le_of_ble_eq_true rfl)⟩ rfl rfl (Nat.le_of_ble_eq_true rfl) dL_law_1068 ?_
  refine x_icmp_eq (tgt := 1363) hC dL_law_1071 (by decide) (fun _ => ?_) (fun h9 => absurd rfl h9)
  exact kk _ h3
set_option maxRecDepth 100000 in
set_option maxHeartbeats 4000000 in
theorem law_31 {G : zG} {p : Program} {l : Launch} {e : Env} {s : State} {m : MethodId} {below : List Frame} {meth : Method} {c : Code} {Q : State → Prop} {b L : Nat} {xs : Nat → Int32} {i : Nat} (hC : zC G RL cL_law 4 ret p s m #[Value.ref b] meth c) (hX : va_X b L xs s s.heap) (hbl : b < s.heap.size) (hbA : ¬ zA G b) (hi : ∀ k, k < 5 → vp_in (nI i + nI k) L) {J : zW → Prop} (hJ : ∀ (w : zW), J w → ∀ (a1 : Int32), ∃ (r : Int32) (w1 : zW) (w2 : zW), f_X3_kinds w a1 = some (r, w1) ∧ f_X4_kinds w1 a1 = some (r, w2) ∧ J w2) {w : zW} (hw : J w) (kk : ∀ w2 : zW, J w2 → ZL G p l e room_1 s m #[Value.ref b] below meth c Q 4 1363 [(0, .ref b), (1, .ref (zad G 0)), (2, .ref (zad G 56)), (3, .int (nI i))] [] w2) : ZL G p l e room_1 s m #[Value.ref b] below meth c Q 4 1076 [(0, .ref b), (1, .ref (zad G 0)), (2, .ref (zad G 56)), (3, .int (nI i))] [] w := by
  obtain ⟨r, w1, w2, h1, h2, h3⟩ := hJ w hw (xs (zx (nI i + 1)))
  refine x_aload_n hC dL_law_1076 1 rfl rfl ?_
  refine x_aload_n hC dL_law_1077 0 rfl rfl ?_
  refine x_iload_n hC dL_law_1078 3 rfl rfl ?_
  refine x_iconst hC dL_law_1079 (v := 1) rfl ?_
  refine x_iadd hC dL_law_1080 ?_
  refine x_sld hC hX hbl hbA (hi 1 (by decide)) dL_law_1081 ?_
  refine x_cvi (As := [.int (xs (zx (nI i + 1)))]) (rest := []) hC zo_bot rfl (c_X3_kinds l G w (xs (zx (nI i + 1))) h1) zw_ml_L_143 zy_X3_kinds ⟨(Nat.le_of_ble_eq_true rfl), (Nat.le_of_ble_eq_true rfl)⟩ ⟨rfl, rfl, (Nat.le_of_ble_eq_true rfl), (Nat.le_of_ble_eq_true rfl)⟩ rfl rfl (Nat.le_of_ble_eq_true rfl) dL_law_1082 ?_
  refine x_aload_n hC dL_law_1085 2 rfl rfl ?_
  refine x_aload_n hC dL_law_1086 0 rfl rfl ?_
  refine x_iload_n hC dL_law_1087 3 rfl rfl ?_
  refine x_iconst hC dL_law_1088 (v := 1) rfl ?_
  refine x_iadd hC dL_law_1089 ?_
  refine x_sld hC hX hbl hbA (hi 1 (by decide)) dL_law_1090 ?_
  refine x_cvi (As := [.int (xs (zx (nI i + 1)))]) (rest := [.int r]) hC zo_mod rfl (c_X4_kinds l G w1 (xs (zx (nI i + 1))) h2) zw_ml_L_146 zy_X4_kinds ⟨(Nat.le_of_ble_eq_true rfl), (Nat.le_of_ble_eq_true rfl)⟩ ⟨rfl, rfl, (Nat.le_of_ble_eq_true rfl), (Nat.le_of_ble_eq_true rfl)⟩ rfl rfl (Nat.le_of_ble_eq_true rfl) dL_law_1091 ?_
  refine x_icmp_eq (tgt := 1363) hC dL_law_1094 (by decide) (fun _ => ?_) (fun h9 => absurd rfl h9)
  exact kk _ h3
set_option maxRecDepth 100000 in
set_option maxHeartbeats 4000000 in
theorem law_32 {G : zG} {p : Program} {l : Launch} {e : Env} {s : State} {m : MethodId} {below : List Frame} {meth : Method} {c : Code} {Q : State → Prop} {b L : Nat} {xs : Nat → Int32} {i : Nat} (hC : zC G RL cL_law 4 ret p s m #[Value.ref b] meth c) (hX : va_X b L xs s s.heap) (hbl : b < s.heap.size) (hbA : ¬ zA G b) (hi : ∀ k, k < 5 → vp_in (nI i + nI k) L) {J : zW → Prop} (hJ : ∀ (w : zW), J w → ∀ (a1 a2 a3 : Int32), ∃ (r : Int32) (w1 : zW) (w2 : zW), f_X3_drift w a1 a2 a3 = some (r, w1) ∧ f_X4_drift w1 a1 a2 a3 = some (r, w2) ∧ J w2) {w : zW} (hw : J w) (kk : ∀ w2 : zW, J w2 → ZL G p l e room_1 s m #[Value.ref b] below meth c Q 4 1363 [(0, .ref b), (1, .ref (zad G 0)), (2, .ref (zad G 56)), (3, .int (nI i))] [] w2) : ZL G p l e room_1 s m #[Value.ref b] below meth c Q 4 1099 [(0, .ref b), (1, .ref (zad G 0)), (2, .ref (zad G 56)), (3, .int (nI i))] [] w := by
  obtain ⟨r, w1, w2, h1, h2, h3⟩ := hJ w hw (xs (zx (nI i + 1))) (xs (zx (nI i + 2))) (xs (zx (nI i + 3)))
  refine x_aload_n hC dL_law_1099 1 rfl rfl ?_
  refine x_aload_n hC dL_law_1100 0 rfl rfl ?_
  refine x_iload_n hC dL_law_1101 3 rfl rfl ?_
  refine x_iconst hC dL_law_1102 (v := 1) rfl ?_
  refine x_iadd hC dL_law_1103 ?_
  refine x_sld hC hX hbl hbA (hi 1 (by decide)) dL_law_1104 ?_
  refine x_aload_n hC dL_law_1105 0 rfl rfl ?_
  refine x_iload_n hC dL_law_1106 3 rfl rfl ?_
  refine x_iconst hC dL_law_1107 (v := 2) rfl ?_
  refine x_iadd hC dL_law_1108 ?_
  refine x_sld hC hX hbl hbA (hi 2 (by decide)) dL_law_1109 ?_
  refine x_aload_n hC dL_law_1110 0 rfl rfl ?_
  refine x_iload_n hC dL_law_1111 3 rfl rfl ?_
  refine x_iconst hC dL_law_1112 (v := 3) rfl ?_
  refine x_iadd hC dL_law_1113 ?_
  refine x_sld hC hX hbl hbA (hi 3 (by decide)) dL_law_1114 ?_
  refine x_cvi (As := [.int (xs (zx (nI i + 1))), .int (xs (zx (nI i + 2))), .int (xs (zx (nI i + 3)))]) (rest := []) hC zo_bot rfl (c_X3_drift l G w (xs (zx (nI i + 1))) (xs (zx (nI i + 2))) (xs (zx (nI i + 3))) h1) zw_ml_L_147 zy_X3_drift ⟨(Nat.le_of_ble_eq_true rfl), (Nat.le_of_ble_eq_true rfl)⟩ ⟨rfl, rfl, (Nat.le_of_ble_eq_true rfl), (Nat.le_of_ble_eq_true rfl)⟩ rfl rfl (Nat.le_of_ble_eq_true rfl) dL_law_1115 ?_
  refine x_aload_n hC dL_law_1118 2 rfl rfl ?_
  refine x_aload_n hC dL_law_1119 0 rfl rfl ?_
  refine x_iload_n hC dL_law_1120 3 rfl rfl ?_
  refine x_iconst hC dL_law_1121 (v := 1) rfl ?_
  refine x_iadd hC dL_law_1122 ?_
  refine x_sld hC hX hbl hbA (hi 1 (by decide)) dL_law_1123 ?_
  refine x_aload_n hC dL_law_1124 0 rfl rfl ?_
  refine x_iload_n hC dL_law_1125 3 rfl rfl ?_
  refine x_iconst hC dL_law_1126 (v := 2) rfl ?_
  refine x_iadd hC dL_law_1127 ?_
  refine x_sld hC hX hbl hbA (hi 2 (by decide)) dL_law_1128 ?_
  refine x_aload_n hC dL_law_1129 0 rfl rfl ?_
  refine x_iload_n hC dL_law_1130 3 rfl rfl ?_
  refine x_iconst hC dL_law_1131 (v := 3) rfl ?_
  refine x_iadd hC dL_law_1132 ?_
  refine x_sld hC hX hbl hbA (hi 3 (by decide)) dL_law_1133 ?_
  refine x_cvi (As := [.int (xs (zx (nI i + 1))), .int (xs (zx (nI i + 2))), .int (xs (zx (nI i + 3)))]) (rest := [.int r]) hC zo_mod rfl (c_X4_drift l G w1 (xs (zx (nI i + 1))) (xs (zx (nI i + 2))) (xs (zx (nI i + 3))) h2) zw_ml_L_151 zy_X4_drift ⟨(Nat.le_of_ble_eq_true rfl), (Nat.le_of_ble_eq_true rfl)⟩ ⟨rfl, rfl, (Nat.le_of_ble_eq_true rfl), (Nat.le_of_ble_eq_true rfl)⟩ rfl rfl (Nat.le_of_ble_eq_true rfl) dL_law_1134 ?_
  refine x_icmp_eq (tgt := 1363) hC dL_law_1137 (by decide) (fun _ => ?_) (fun h9 => absurd rfl h9)
  exact kk _ h3
set_option maxRecDepth 100000 in
set_option maxHeartbeats 4000000 in
theorem law_33 {G : zG} {p : Program} {l : Launch} {e : Env} {s : State} {m : MethodId} {below : List Frame} {meth : Method} {c : Code} {Q : State → Prop} {b L : Nat} {xs : Nat → Int32} {i : Nat} (hC : zC G RL cL_law 4 ret p s m #[Value.ref b] meth c) (hX : va_X b L xs s s.heap) (hbl : b < s.heap.size) (hbA : ¬ zA G b) (hi : ∀ k, k < 5 → vp_in (nI i + nI k) L) {J : zW → Prop} (hJ : ∀ (w : zW), J w → ∀ (a1 : Int32), ∃ (r : Int32) (w1 : zW) (w2 : zW), f_X3_keep w a1 = some (r, w1) ∧ f_X4_keep w1 a1 = some (r, w2) ∧ J w2) {w : zW} (hw : J w) (kk : ∀ w2 : zW, J w2 → ZL G p l e room_1 s m #[Value.ref b] below meth c Q 4 1363 [(0, .ref b), (1, .ref (zad G 0)), (2, .ref (zad G 56)), (3, .int (nI i))] [] w2) : ZL G p l e room_1 s m #[Value.ref b] below meth c Q 4 1142 [(0, .ref b), (1, .ref (zad G 0)), (2, .ref (zad G 56)), (3, .int (nI i))] [] w := by
  obtain ⟨r, w1, w2, h1, h2, h3⟩ := hJ w hw (xs (zx (nI i + 1)))
  refine x_aload_n hC dL_law_1142 1 rfl rfl ?_
  refine x_aload_n hC dL_law_1143 0 rfl rfl ?_
  refine x_iload_n hC dL_law_1144 3 rfl rfl ?_
  refine x_iconst hC dL_law_1145 (v := 1) rfl ?_
  refine x_iadd hC dL_law_1146 ?_
  refine x_sld hC hX hbl hbA (hi 1 (by decide)) dL_law_1147 ?_
  refine x_cvi (As := [.int (xs (zx (nI i + 1)))]) (rest := []) hC zo_bot rfl (c_X3_keep l G w (xs (zx (nI i + 1))) h1) zw_ml_L_152 zy_X3_keep ⟨(Nat.le_of_ble_eq_true rfl), (Nat.le_of_ble_eq_true rfl)⟩ ⟨rfl, rfl, (Nat.le_of_ble_eq_true rfl), (Nat.le_of_ble_eq_true rfl)⟩ rfl rfl (Nat.le_of_ble_eq_true rfl) dL_law_1148 ?_
  refine x_aload_n hC dL_law_1151 2 rfl rfl ?_
  refine x_aload_n hC dL_law_1152 0 rfl rfl ?_
  refine x_iload_n hC dL_law_1153 3 rfl rfl ?_
  refine x_iconst hC dL_law_1154 (v := 1) rfl ?_
  refine x_iadd hC dL_law_1155 ?_
  refine x_sld hC hX hbl hbA (hi 1 (by decide)) dL_law_1156 ?_
  refine x_cvi (As := [.int (xs (zx (nI i + 1)))]) (rest := [.int r]) hC zo_mod rfl (c_X4_keep l G w1 (xs (zx (nI i + 1))) h2) zw_ml_L_155 zy_X4_keep ⟨(Nat.le_of_ble_eq_true rfl), (Nat.le_of_ble_eq_true rfl)⟩ ⟨rfl, rfl, (Nat.le_of_ble_eq_true rfl), (Nat.le_of_ble_eq_true rfl)⟩ rfl rfl (Nat.le_of_ble_eq_true rfl) dL_law_1157 ?_
  refine x_icmp_eq (tgt := 1363) hC dL_law_1160 (by decide) (fun _ => ?_) (fun h9 => absurd rfl h9)
  exact kk _ h3
set_option maxRecDepth 100000 in
set_option maxHeartbeats 4000000 in
theorem law_34 {G : zG} {p : Program} {l : Launch} {e : Env} {s : State} {m : MethodId} {below : List Frame} {meth : Method} {c : Code} {Q : State → Prop} {b L : Nat} {xs : Nat → Int32} {i : Nat} (hC : zC G RL cL_law 4 ret p s m #[Value.ref b] meth c) (hX : va_X b L xs s s.heap) (hbl : b < s.heap.size) (hbA : ¬ zA G b) (hi : ∀ k, k < 5 → vp_in (nI i + nI k) L) {J : zW → Prop} (hJ : ∀ (w : zW), J w → ∀ (a1 : Int32), ∃ (r : Int32) (w1 : zW) (w2 : zW), f_X3_back w a1 = some (r, w1) ∧ f_X4_back w1 a1 = some (r, w2) ∧ J w2) {w : zW} (hw : J w) (kk : ∀ w2 : zW, J w2 → ZL G p l e room_1 s m #[Value.ref b] below meth c Q 4 1363 [(0, .ref b), (1, .ref (zad G 0)), (2, .ref (zad G 56)), (3, .int (nI i))] [] w2) : ZL G p l e room_1 s m #[Value.ref b] below meth c Q 4 1165 [(0, .ref b), (1, .ref (zad G 0)), (2, .ref (zad G 56)), (3, .int (nI i))] [] w := by
  obtain ⟨r, w1, w2, h1, h2, h3⟩ := hJ w hw (xs (zx (nI i + 1)))
  refine x_aload_n hC dL_law_1165 1 rfl rfl ?_
  refine x_aload_n hC dL_law_1166 0 rfl rfl ?_
  refine x_iload_n hC dL_law_1167 3 rfl rfl ?_
  refine x_iconst hC dL_law_1168 (v := 1) rfl ?_
  refine x_iadd hC dL_law_1169 ?_
  refine x_sld hC hX hbl hbA (hi 1 (by decide)) dL_law_1170 ?_
  refine x_cvi (As := [.int (xs (zx (nI i + 1)))]) (rest := []) hC zo_bot rfl (c_X3_back l G w (xs (zx (nI i + 1))) h1) zw_ml_L_156 zy_X3_back ⟨(Nat.le_of_ble_eq_true rfl), (Nat.le_of_ble_eq_true rfl)⟩ ⟨rfl, rfl, (Nat.le_of_ble_eq_true rfl), (Nat.le_of_ble_eq_true rfl)⟩ rfl rfl (Nat.le_of_ble_eq_true rfl) dL_law_1171 ?_
  refine x_aload_n hC dL_law_1174 2 rfl rfl ?_
  refine x_aload_n hC dL_law_1175 0 rfl rfl ?_
  refine x_iload_n hC dL_law_1176 3 rfl rfl ?_
  refine x_iconst hC dL_law_1177 (v := 1) rfl ?_
  refine x_iadd hC dL_law_1178 ?_
  refine x_sld hC hX hbl hbA (hi 1 (by decide)) dL_law_1179 ?_
  refine x_cvi (As := [.int (xs (zx (nI i + 1)))]) (rest := [.int r]) hC zo_mod rfl (c_X4_back l G w1 (xs (zx (nI i + 1))) h2) zw_ml_L_159 zy_X4_back ⟨(Nat.le_of_ble_eq_true rfl), (Nat.le_of_ble_eq_true rfl)⟩ ⟨rfl, rfl, (Nat.le_of_ble_eq_true rfl), (Nat.le_of_ble_eq_true rfl)⟩ rfl rfl (Nat.le_of_ble_eq_true rfl) dL_law_1180 ?_
  refine x_icmp_eq (tgt := 1363) hC dL_law_1183 (by decide) (fun _ => ?_) (fun h9 => absurd rfl h9)
  exact kk _ h3
set_option maxRecDepth 100000 in
set_option maxHeartbeats 4000000 in
theorem law_35 {G : zG} {p : Program} {l : Launch} {e : Env} {s : State} {m : MethodId} {below : List Frame} {meth : Method} {c : Code} {Q : State → Prop} {b L : Nat} {xs : Nat → Int32} {i : Nat} (hC : zC G RL cL_law 4 ret p s m #[Value.ref b] meth c) (hX : va_X b L xs s s.heap) (hbl : b < s.heap.size) (hbA : ¬ zA G b) (hi : ∀ k, k < 5 → vp_in (nI i + nI k) L) {J : zW → Prop} (hJ : ∀ (w : zW), J w → ∀ (a1 a2 a3 : Int32), ∃ (r : Int32) (w1 : zW) (w2 : zW), f_X3_sheet w a1 a2 a3 = some (r, w1) ∧ f_X4_sheet w1 a1 a2 a3 = some (r, w2) ∧ J w2) {w : zW} (hw : J w) (kk : ∀ w2 : zW, J w2 → ZL G p l e room_1 s m #[Value.ref b] below meth c Q 4 1363 [(0, .ref b), (1, .ref (zad G 0)), (2, .ref (zad G 56)), (3, .int (nI i))] [] w2) : ZL G p l e room_1 s m #[Value.ref b] below meth c Q 4 1188 [(0, .ref b), (1, .ref (zad G 0)), (2, .ref (zad G 56)), (3, .int (nI i))] [] w := by
  obtain ⟨r, w1, w2, h1, h2, h3⟩ := hJ w hw (xs (zx (nI i + 1))) (xs (zx (nI i + 2))) (xs (zx (nI i + 3)))
  refine x_aload_n hC dL_law_1188 1 rfl rfl ?_
  refine x_aload_n hC dL_law_1189 0 rfl rfl ?_
  refine x_iload_n hC dL_law_1190 3 rfl rfl ?_
  refine x_iconst hC dL_law_1191 (v := 1) rfl ?_
  refine x_iadd hC dL_law_1192 ?_
  refine x_sld hC hX hbl hbA (hi 1 (by decide)) dL_law_1193 ?_
  refine x_aload_n hC dL_law_1194 0 rfl rfl ?_
  refine x_iload_n hC dL_law_1195 3 rfl rfl ?_
  refine x_iconst hC dL_law_1196 (v := 2) rfl ?_
  refine x_iadd hC dL_law_1197 ?_
  refine x_sld hC hX hbl hbA (hi 2 (by decide)) dL_law_1198 ?_
  refine x_aload_n hC dL_law_1199 0 rfl rfl ?_
  refine x_iload_n hC dL_law_1200 3 rfl rfl ?_
  refine x_iconst hC dL_law_1201 (v := 3) rfl ?_
  refine x_iadd hC dL_law_1202 ?_
  refine x_sld hC hX hbl hbA (hi 3 (by decide)) dL_law_1203 ?_
  refine x_cvi (As := [.int (xs (zx (nI i + 1))), .int (xs (zx (nI i + 2))), .int (xs (zx (nI i + 3)))]) (rest := []) hC zo_bot rfl (c_X3_sheet l G w (xs (zx (nI i + 1))) (xs (zx (nI i + 2))) (xs (zx (nI i + 3))) h1) zw_ml_L_160 zy_X3_sheet ⟨(Nat.le_of_ble_eq_true rfl), (Nat.le_of_ble_eq_true rfl)⟩ ⟨rfl, rfl, (Nat.le_of_ble_eq_true rfl), (Nat.le_of_ble_eq_true rfl)⟩ rfl rfl (Nat.le_of_ble_eq_true rfl) dL_law_1204 ?_
  refine x_aload_n hC dL_law_1207 2 rfl rfl ?_
  refine x_aload_n hC dL_law_1208 0 rfl rfl ?_
  refine x_iload_n hC dL_law_1209 3 rfl rfl ?_
  refine x_iconst hC dL_law_1210 (v := 1) rfl ?_
  refine x_iadd hC dL_law_1211 ?_
  refine x_sld hC hX hbl hbA (hi 1 (by decide)) dL_law_1212 ?_
  refine x_aload_n hC dL_law_1213 0 rfl rfl ?_
  refine x_iload_n hC dL_law_1214 3 rfl rfl ?_
  refine x_iconst hC dL_law_1215 (v := 2) rfl ?_
  refine x_iadd hC dL_law_1216 ?_
  refine x_sld hC hX hbl hbA (hi 2 (by decide)) dL_law_1217 ?_
  refine x_aload_n hC dL_law_1218 0 rfl rfl ?_
  refine x_iload_n hC dL_law_1219 3 rfl rfl ?_
  refine x_iconst hC dL_law_1220 (v := 3) rfl ?_
  refine x_iadd hC dL_law_1221 ?_
  refine x_sld hC hX hbl hbA (hi 3 (by decide)) dL_law_1222 ?_
  refine x_cvi (As := [.int (xs (zx (nI i + 1))), .int (xs (zx (nI i + 2))), .int (xs (zx (nI i + 3)))]) (rest := [.int r]) hC zo_mod rfl (c_X4_sheet l G w1 (xs (zx (nI i + 1))) (xs (zx (nI i + 2))) (xs (zx (nI i + 3))) h2) zw_ml_L_163 zy_X4_sheet ⟨(Nat.le_of_ble_eq_true rfl), (Nat.le_of_ble_eq_true rfl)⟩ ⟨rfl, rfl, (Nat.le_of_ble_eq_true rfl), (Nat.le_of_ble_eq_true rfl)⟩ rfl rfl (Nat.le_of_ble_eq_true rfl) dL_law_1223 ?_
  refine x_icmp_eq (tgt := 1363) hC dL_law_1226 (by decide) (fun _ => ?_) (fun h9 => absurd rfl h9)
  exact kk _ h3
set_option maxRecDepth 100000 in
set_option maxHeartbeats 4000000 in
theorem law_36 {G : zG} {p : Program} {l : Launch} {e : Env} {s : State} {m : MethodId} {below : List Frame} {meth : Method} {c : Code} {Q : State → Prop} {b L : Nat} {xs : Nat → Int32} {i : Nat} (hC : zC G RL cL_law 4 ret p s m #[Value.ref b] meth c) (hX : va_X b L xs s s.heap) (hbl : b < s.heap.size) (hbA : ¬ zA G b) (hi : ∀ k, k < 5 → vp_in (nI i + nI k) L) {J : zW → Prop} (hJ : ∀ (w : zW), J w → ∀ (a1 a2 a3 : Int32), ∃ (r : Int32) (w1 : zW) (w2 : zW), f_X3_put w a1 a2 a3 = some (r, w1) ∧ f_X4_put w1 a1 a2 a3 = some (r, w2) ∧ J w2) {w : zW} (hw : J w) (kk : ∀ w2 : zW, J w2 → ZL G p l e room_1 s m #[Value.ref b] below meth c Q 4 1363 [(0, .ref b), (1, .ref (zad G 0)), (2, .ref (zad G 56)), (3, .int (nI i))] [] w2) : ZL G p l e room_1 s m #[Value.ref b] below meth c Q 4 1231 [(0, .ref b), (1, .ref (zad G 0)), (2, .ref (zad G 56)), (3, .int (nI i))] [] w := by
  obtain ⟨r, w1, w2, h1, h2, h3⟩ := hJ w hw (xs (zx (nI i + 1))) (xs (zx (nI i + 2))) (xs (zx (nI i + 3)))
  refine x_aload_n hC dL_law_1231 1 rfl rfl ?_
  refine x_aload_n hC dL_law_1232 0 rfl rfl ?_
  refine x_iload_n hC dL_law_1233 3 rfl rfl ?_
  refine x_iconst hC dL_law_1234 (v := 1) rfl ?_
  refine x_iadd hC dL_law_1235 ?_
  refine x_sld hC hX hbl hbA (hi 1 (by decide)) dL_law_1236 ?_
  refine x_aload_n hC dL_law_1237 0 rfl rfl ?_
  refine x_iload_n hC dL_law_1238 3 rfl rfl ?_
  refine x_iconst hC dL_law_1239 (v := 2) rfl ?_
  refine x_iadd hC dL_law_1240 ?_
  refine x_sld hC hX hbl hbA (hi 2 (by decide)) dL_law_1241 ?_
  refine x_aload_n hC dL_law_1242 0 rfl rfl ?_
  refine x_iload_n hC dL_law_1243 3 rfl rfl ?_
  refine x_iconst hC dL_law_1244 (v := 3) rfl ?_
  refine x_iadd hC dL_law_1245 ?_
  refine x_sld hC hX hbl hbA (hi 3 (by decide)) dL_law_1246 ?_
  refine x_cvi (As := [.int (xs (zx (nI i + 1))), .int (xs (zx (nI i + 2))), .int (xs (zx (nI i + 3)))]) (rest := []) hC zo_bot rfl (c_X3_put l G w (xs (zx (nI i + 1))) (xs (zx (nI i + 2))) (xs (zx (nI i + 3))) h1) zw_ml_L_164 zy_X3_put ⟨(Nat.le_of_ble_eq_true rfl), (Nat.le_of_ble_eq_true rfl)⟩ ⟨rfl, rfl, (Nat.le_of_ble_eq_true rfl), (Nat.le_of_ble_eq_true rfl)⟩ rfl rfl (Nat.le_of_ble_eq_true rfl) dL_law_1247 ?_
  refine x_aload_n hC dL_law_1250 2 rfl rfl ?_
  refine x_aload_n hC dL_law_1251 0 rfl rfl ?_
  refine x_iload_n hC dL_law_1252 3 rfl rfl ?_
  refine x_iconst hC dL_law_1253 (v := 1) rfl ?_
  refine x_iadd hC dL_law_1254 ?_
  refine x_sld hC hX hbl hbA (hi 1 (by decide)) dL_law_1255 ?_
  refine x_aload_n hC dL_law_1256 0 rfl rfl ?_
  refine x_iload_n hC dL_law_1257 3 rfl rfl ?_
  refine x_iconst hC dL_law_1258 (v := 2) rfl ?_
  refine x_iadd hC dL_law_1259 ?_
  refine x_sld hC hX hbl hbA (hi 2 (by decide)) dL_law_1260 ?_
  refine x_aload_n hC dL_law_1261 0 rfl rfl ?_
  refine x_iload_n hC dL_law_1262 3 rfl rfl ?_
  refine x_iconst hC dL_law_1263 (v := 3) rfl ?_
  refine x_iadd hC dL_law_1264 ?_
  refine x_sld hC hX hbl hbA (hi 3 (by decide)) dL_law_1265 ?_
  refine x_cvi (As := [.int (xs (zx (nI i + 1))), .int (xs (zx (nI i + 2))), .int (xs (zx (nI i + 3)))]) (rest := [.int r]) hC zo_mod rfl (c_X4_put l G w1 (xs (zx (nI i + 1))) (xs (zx (nI i + 2))) (xs (zx (nI i + 3))) h2) zw_ml_L_167 zy_X4_put ⟨(Nat.le_of_ble_eq_true rfl), (Nat.le_of_ble_eq_true rfl)⟩ ⟨rfl, rfl, (Nat.le_of_ble_eq_true rfl), (Nat.le_of_ble_eq_true rfl)⟩ rfl rfl (Nat.le_of_ble_eq_true rfl) dL_law_1266 ?_
  refine x_icmp_eq (tgt := 1363) hC dL_law_1269 (by decide) (fun _ => ?_) (fun h9 => absurd rfl h9)
  exact kk _ h3
set_option maxRecDepth 100000 in
set_option maxHeartbeats 4000000 in
theorem law_37 {G : zG} {p : Program} {l : Launch} {e : Env} {s : State} {m : MethodId} {below : List Frame} {meth : Method} {c : Code} {Q : State → Prop} {b L : Nat} {xs : Nat → Int32} {i : Nat} (hC : zC G RL cL_law 4 ret p s m #[Value.ref b] meth c) (hX : va_X b L xs s s.heap) (hbl : b < s.heap.size) (hbA : ¬ zA G b) (hi : ∀ k, k < 5 → vp_in (nI i + nI k) L) {J : zW → Prop} (hJ : ∀ (w : zW), J w → ∀ (a1 a2 a3 a4 : Int32), ∃ (r : Int32) (w1 : zW) (w2 : zW), f_X3_read w a1 a2 a3 a4 = some (r, w1) ∧ f_X4_read w1 a1 a2 a3 a4 = some (r, w2) ∧ J w2) {w : zW} (hw : J w) (kk : ∀ w2 : zW, J w2 → ZL G p l e room_1 s m #[Value.ref b] below meth c Q 4 1363 [(0, .ref b), (1, .ref (zad G 0)), (2, .ref (zad G 56)), (3, .int (nI i))] [] w2) : ZL G p l e room_1 s m #[Value.ref b] below meth c Q 4 1274 [(0, .ref b), (1, .ref (zad G 0)), (2, .ref (zad G 56)), (3, .int (nI i))] [] w := by
  obtain ⟨r, w1, w2, h1, h2, h3⟩ := hJ w hw (xs (zx (nI i + 1))) (xs (zx (nI i + 2))) (xs (zx (nI i + 3))) (xs (zx (nI i + 4)))
  refine x_aload_n hC dL_law_1274 1 rfl rfl ?_
  refine x_aload_n hC dL_law_1275 0 rfl rfl ?_
  refine x_iload_n hC dL_law_1276 3 rfl rfl ?_
  refine x_iconst hC dL_law_1277 (v := 1) rfl ?_
  refine x_iadd hC dL_law_1278 ?_
  refine x_sld hC hX hbl hbA (hi 1 (by decide)) dL_law_1279 ?_
  refine x_aload_n hC dL_law_1280 0 rfl rfl ?_
  refine x_iload_n hC dL_law_1281 3 rfl rfl ?_
  refine x_iconst hC dL_law_1282 (v := 2) rfl ?_
  refine x_iadd hC dL_law_1283 ?_
  refine x_sld hC hX hbl hbA (hi 2 (by decide)) dL_law_1284 ?_
  refine x_aload_n hC dL_law_1285 0 rfl rfl ?_
  refine x_iload_n hC dL_law_1286 3 rfl rfl ?_
  refine x_iconst hC dL_law_1287 (v := 3) rfl ?_
  refine x_iadd hC dL_law_1288 ?_
  refine x_sld hC hX hbl hbA (hi 3 (by decide)) dL_law_1289 ?_
  refine x_aload_n hC dL_law_1290 0 rfl rfl ?_
  refine x_iload_n hC dL_law_1291 3 rfl rfl ?_
  refine x_iconst hC dL_law_1292 (v := 4) rfl ?_
  refine x_iadd hC dL_law_1293 ?_
  refine x_sld hC hX hbl hbA (hi 4 (by decide)) dL_law_1294 ?_
  refine x_cvi (As := [.int (xs (zx (nI i + 1))), .int (xs (zx (nI i + 2))), .int (xs (zx (nI i + 3))), .int (xs (zx (nI i + 4)))]) (rest := []) hC zo_bot rfl (c_X3_read l G w (xs (zx (nI i + 1))) (xs (zx (nI i + 2))) (xs (zx (nI i + 3))) (xs (zx (nI i + 4))) h1) zw_ml_L_168 zy_X3_read ⟨(Nat.le_of_ble_eq_true rfl), (Nat.le_of_ble_eq_true rfl)⟩ ⟨rfl, rfl, (Nat.le_of_ble_eq_true rfl), (Nat.le_of_ble_eq_true rfl)⟩ rfl rfl (Nat.le_of_ble_eq_true rfl) dL_law_1295 ?_
  refine x_aload_n hC dL_law_1298 2 rfl rfl ?_
  refine x_aload_n hC dL_law_1299 0 rfl rfl ?_
  refine x_iload_n hC dL_law_1300 3 rfl rfl ?_
  refine x_iconst hC dL_law_1301 (v := 1) rfl ?_
  refine x_iadd hC dL_law_1302 ?_
  refine x_sld hC hX hbl hbA (hi 1 (by decide)) dL_law_1303 ?_
  refine x_aload_n hC dL_law_1304 0 rfl rfl ?_
  refine x_iload_n hC dL_law_1305 3 rfl rfl ?_
  refine x_iconst hC dL_law_1306 (v := 2) rfl ?_
  refine x_iadd hC dL_law_1307 ?_
  refine x_sld hC hX hbl hbA (hi 2 (by decide)) dL_law_1308 ?_
  refine x_aload_n hC dL_law_1309 0 rfl rfl ?_
  refine x_iload_n hC dL_law_1310 3 rfl rfl ?_
  refine x_iconst hC dL_law_1311 (v := 3) rfl ?_
  refine x_iadd hC dL_law_1312 ?_
  refine x_sld hC hX hbl hbA (hi 3 (by decide)) dL_law_1313 ?_
  refine x_aload_n hC dL_law_1314 0 rfl rfl ?_
  refine x_iload_n hC dL_law_1315 3 rfl rfl ?_
  refine x_iconst hC dL_law_1316 (v := 4) rfl ?_
  refine x_iadd hC dL_law_1317 ?_
  refine x_sld hC hX hbl hbA (hi 4 (by decide)) dL_law_1318 ?_
  refine x_cvi (As := [.int (xs (zx (nI i + 1))), .int (xs (zx (nI i + 2))), .int (xs (zx (nI i + 3))), .int (xs (zx (nI i + 4)))]) (rest := [.int r]) hC zo_mod rfl (c_X4_read l G w1 (xs (zx (nI i + 1))) (xs (zx (nI i + 2))) (xs (zx (nI i + 3))) (xs (zx (nI i + 4))) h2) zw_ml_L_172 zy_X4_read ⟨(Nat.le_of_ble_eq_true rfl), (Nat.le_of_ble_eq_true rfl)⟩ ⟨rfl, rfl, (Nat.le_of_ble_eq_true rfl), (Nat.le_of_ble_eq_true rfl)⟩ rfl rfl (Nat.le_of_ble_eq_true rfl) dL_law_1319 ?_
  refine x_icmp_eq (tgt := 1363) hC dL_law_1322 (by decide) (fun _ => ?_) (fun h9 => absurd rfl h9)
  exact kk _ h3
set_option maxRecDepth 100000 in
set_option maxHeartbeats 4000000 in
theorem law_38 {G : zG} {p : Program} {l : Launch} {e : Env} {s : State} {m : MethodId} {below : List Frame} {meth : Method} {c : Code} {Q : State → Prop} {b L : Nat} {xs : Nat → Int32} {i : Nat} (hC : zC G RL cL_law 4 ret p s m #[Value.ref b] meth c) (hX : va_X b L xs s s.heap) (hbl : b < s.heap.size) (hbA : ¬ zA G b) (hi : ∀ k, k < 5 → vp_in (nI i + nI k) L) {J : zW → Prop} (hJ : ∀ (w : zW), J w → ∀ (_ : Unit), ∃ (r : Int32), f_X3_torn w = r ∧ f_X4_torn w = r ∧ J w) {w : zW} (hw : J w) (kk : ∀ w2 : zW, J w2 → ZL G p l e room_1 s m #[Value.ref b] below meth c Q 4 1363 [(0, .ref b), (1, .ref (zad G 0)), (2, .ref (zad G 56)), (3, .int (nI i))] [] w2) : ZL G p l e room_1 s m #[Value.ref b] below meth c Q 4 1327 [(0, .ref b), (1, .ref (zad G 0)), (2, .ref (zad G 56)), (3, .int (nI i))] [] w := by
  obtain ⟨r, h1, h2, h3⟩ := hJ w hw ()
  refine x_aload_n hC dL_law_1327 1 rfl rfl ?_
  refine x_cvi (As := []) (rest := []) hC zo_bot rfl (h1 ▸ c_X3_torn l G w) zw_ml_L_173 zy_X3_torn ⟨(Nat.le_of_ble_eq_true rfl), (Nat.le_of_ble_eq_true rfl)⟩ ⟨rfl, rfl, (Nat.le_of_ble_eq_true rfl), (Nat.le_of_ble_eq_true rfl)⟩ rfl rfl (Nat.le_of_ble_eq_true rfl) dL_law_1328 ?_
  refine x_aload_n hC dL_law_1331 2 rfl rfl ?_
  refine x_cvi (As := []) (rest := [.int r]) hC zo_mod rfl (h2 ▸ c_X4_torn l G w) zw_ml_L_176 zy_X4_torn ⟨(Nat.le_of_ble_eq_true rfl), (Nat.le_of_ble_eq_true rfl)⟩ ⟨rfl, rfl, (Nat.le_of_ble_eq_true rfl), (Nat.le_of_ble_eq_true rfl)⟩ rfl rfl (Nat.le_of_ble_eq_true rfl) dL_law_1332 ?_
  refine x_icmp_eq (tgt := 1363) hC dL_law_1335 (by decide) (fun _ => ?_) (fun h9 => absurd rfl h9)
  exact kk _ h3
set_option maxRecDepth 100000 in
set_option maxHeartbeats 4000000 in
theorem law_39 {G : zG} {p : Program} {l : Launch} {e : Env} {s : State} {m : MethodId} {below : List Frame} {meth : Method} {c : Code} {Q : State → Prop} {b L : Nat} {xs : Nat → Int32} {i : Nat} (hC : zC G RL cL_law 4 ret p s m #[Value.ref b] meth c) (hX : va_X b L xs s s.heap) (hbl : b < s.heap.size) (hbA : ¬ zA G b) (hi : ∀ k, k < 5 → vp_in (nI i + nI k) L) {J : zW → Prop} (hJ : ∀ (w : zW), J w → ∀ (a1 : Int32), ∃ (r : Int32), f_X3_count w a1 = some r ∧ f_X4_count w a1 = some r ∧ J w) {w : zW} (hw : J w) (kk : ∀ w2 : zW, J w2 → ZL G p l e room_1 s m #[Value.ref b] below meth c Q 4 1363 [(0, .ref b), (1, .ref (zad G 0)), (2, .ref (zad G 56)), (3, .int (nI i))] [] w2) : ZL G p l e room_1 s m #[Value.ref b] below meth c Q 4 1340 [(0, .ref b), (1, .ref (zad G 0)), (2, .ref (zad G 56)), (3, .int (nI i))] [] w := by
  obtain ⟨r, h1, h2, h3⟩ := hJ w hw (xs (zx (nI i + 1)))
  refine x_aload_n hC dL_law_1340 1 rfl rfl ?_
  refine x_aload_n hC dL_law_1341 0 rfl rfl ?_
  refine x_iload_n hC dL_law_1342 3 rfl rfl ?_
  refine x_iconst hC dL_law_1343 (v := 1) rfl ?_
  refine x_iadd hC dL_law_1344 ?_
  refine x_sld hC hX hbl hbA (hi 1 (by decide)) dL_law_1345 ?_
  refine x_cvi (As := [.int (xs (zx (nI i + 1)))]) (rest := []) hC zo_bot rfl (c_X3_count l G w (xs (zx (nI i + 1))) h1) zw_ml_L_177 zy_X3_count ⟨(Nat.le_of_ble_eq_true rfl), (Nat.le_of_ble_eq_true rfl)⟩ ⟨rfl, rfl, (Nat.le_of_ble_eq_true rfl), (Nat.le_of_ble_eq_true rfl)⟩ rfl rfl (Nat.le_of_ble_eq_true rfl) dL_law_1346 ?_
  refine x_aload_n hC dL_law_1349 2 rfl rfl ?_
  refine x_aload_n hC dL_law_1350 0 rfl rfl ?_
  refine x_iload_n hC dL_law_1351 3 rfl rfl ?_
  refine x_iconst hC dL_law_1352 (v := 1) rfl ?_
  refine x_iadd hC dL_law_1353 ?_
  refine x_sld hC hX hbl hbA (hi 1 (by decide)) dL_law_1354 ?_
  refine x_cvi (As := [.int (xs (zx (nI i + 1)))]) (rest := [.int r]) hC zo_mod rfl (c_X4_count l G w (xs (zx (nI i + 1))) h2) zw_ml_L_180 zy_X4_count ⟨(Nat.le_of_ble_eq_true rfl), (Nat.le_of_ble_eq_true rfl)⟩ ⟨rfl, rfl, (Nat.le_of_ble_eq_true rfl), (Nat.le_of_ble_eq_true rfl)⟩ rfl rfl (Nat.le_of_ble_eq_true rfl) dL_law_1355 ?_
  refine x_icmp_eq (tgt := 1363) hC dL_law_1358 (by decide) (fun _ => ?_) (fun h9 => absurd rfl h9)
  exact kk _ h3
def LawSteps (J : zW → Prop) : Prop :=
  (∀ (w : zW), J w → ∀ (a1 : Int32), ∃ (r : Int32) (w1 : zW) (w2 : zW), f_X3_feed w a1 = some (r, w1) ∧ f_X4_feed w1 a1 = some (r, w2) ∧ J w2) ∧
  (∀ (w : zW), J w → ∀ (a1 : Int32), ∃ (r : Int32) (w1 : zW) (w2 : zW), f_X3_end w a1 = some (r, w1) ∧ f_X4_end w1 a1 = some (r, w2) ∧ J w2) ∧
  (∀ (w : zW), J w → ∀ (_ : Unit), ∃ (r : Int32) (w1 : zW) (w2 : zW), f_X3_text w = some (r, w1) ∧ f_X4_text w1 = some (r, w2) ∧ J w2) ∧
  (∀ (w : zW), J w → ∀ (_ : Unit), ∃ (r : Int32), f_X3_fault w = r ∧ f_X4_fault w = r ∧ J w) ∧
  (∀ (w : zW), J w → ∀ (a1 : Int32), ∃ (r : Int32), f_X3_rule w a1 = r ∧ f_X4_rule w a1 = some r ∧ J w) ∧
  (∀ (w : zW), J w → ∀ (a1 a2 : Int32), ∃ (r : Int32), f_X3_one w a1 a2 = some r ∧ f_X4_one w a1 a2 = some r ∧ J w) ∧
  (∀ (w : zW), J w → ∀ (a1 a2 : Int32), ∃ (r : Int32), f_X3_well w a1 a2 = some r ∧ f_X4_well w a1 a2 = some r ∧ J w) ∧
  (∀ (w : zW), J w → ∀ (_ : Unit), ∃ (r : Int32), f_X3_pours w = some r ∧ f_X4_pours w = some r ∧ J w) ∧
  (∀ (w : zW), J w → ∀ (a1 a2 : Int32), (a2 = 0 ∨ a2 = 1) → ∃ (r : Int32), f_X3_loses w a1 a2 = some r ∧ f_X4_loses w a1 a2 = some r ∧ J w) ∧
  (∀ (w : zW), J w → ∀ (a1 a2 : Int32), ∃ (r : Int32) (w1 : zW) (w2 : zW), f_X3_teach w a1 a2 = some (r, w1) ∧ f_X4_teach w1 a1 a2 = some (r, w2) ∧ J w2) ∧
  (∀ (w : zW), J w → ∀ (a1 a2 : Int32), ∃ (r : Int32) (w1 : zW) (w2 : zW), f_X3_drink w a1 a2 = some (r, w1) ∧ f_X4_drink w1 a1 a2 = some (r, w2) ∧ J w2) ∧
  (∀ (w : zW), J w → ∀ (a1 : Int32), ∃ (r : Int32) (w1 : zW) (w2 : zW), f_X3_fill w a1 = some (r, w1) ∧ f_X4_fill w1 a1 = some (r, w2) ∧ J w2) ∧
  (∀ (w : zW), J w → ∀ (a1 : Int32), ∃ (r : Int32) (w1 : zW) (w2 : zW), f_X3_plan w a1 = some (r, w1) ∧ f_X4_plan w1 a1 = some (r, w2) ∧ J w2) ∧
  (∀ (w : zW), J w → ∀ (a1 a2 : Int32), (a2 = 0 ∨ a2 = 1) → ∃ (r : Int32) (w1 : zW) (w2 : zW), f_X3_wet w a1 a2 = some (r, w1) ∧ f_X4_wet w1 a1 a2 = some (r, w2) ∧ J w2) ∧
  (∀ (w : zW), J w → ∀ (a1 a2 : Int32), ∃ (r : Int32) (w1 : zW) (w2 : zW), f_X3_odd w a1 a2 = some (r, w1) ∧ f_X4_odd w1 a1 a2 = some (r, w2) ∧ J w2) ∧
  (∀ (w : zW), J w → ∀ (a1 a2 : Int32), ∃ (r : Int32) (w1 : zW) (w2 : zW), f_X3_lay w a1 a2 = some (r, w1) ∧ f_X4_lay w1 a1 a2 = some (r, w2) ∧ J w2) ∧
  (∀ (w : zW), J w → ∀ (a1 : Int32), ∃ (r : Int32) (w1 : zW) (w2 : zW), f_X3_go w a1 = some (r, w1) ∧ f_X4_go w1 a1 = some (r, w2) ∧ J w2) ∧
  (∀ (w : zW), J w → ∀ (a1 a2 : Int32), ∃ (r : Int32) (w1 : zW) (w2 : zW), f_X3_ahead w a1 a2 = some (r, w1) ∧ f_X4_ahead w1 a1 a2 = some (r, w2) ∧ J w2) ∧
  (∀ (w : zW), J w → ∀ (a1 : Int32), ∃ (r : Int32) (w1 : zW) (w2 : zW), f_X3_down w a1 = some (r, w1) ∧ f_X4_down w1 a1 = some (r, w2) ∧ J w2) ∧
  (∀ (w : zW), J w → ∀ (a1 a2 : Int32), ∃ (r : Int32) (w1 : zW) (w2 : zW), f_X3_arrive w a1 a2 = some (r, w1) ∧ f_X4_arrive w1 a1 a2 = some (r, w2) ∧ J w2) ∧
  (∀ (w : zW), J w → ∀ (a1 : Int32), ∃ (r : Int32) (w1 : zW) (w2 : zW), f_X3_best w a1 = some (r, w1) ∧ f_X4_best w1 a1 = some (r, w2) ∧ J w2) ∧
  (∀ (w : zW), J w → ∀ (a1 : Int32), ∃ (r : Int32) (w1 : zW) (w2 : zW), f_X3_late w a1 = some (r, w1) ∧ f_X4_late w1 a1 = some (r, w2) ∧ J w2) ∧
  (∀ (w : zW), J w → ∀ (_ : Unit), ∃ (r : Int32) (w1 : zW) (w2 : zW), f_X3_least w = some (r, w1) ∧ f_X4_least w1 = some (r, w2) ∧ J w2) ∧
  (∀ (w : zW), J w → ∀ (a1 : Int32), ∃ (r : Int32) (w1 : zW) (w2 : zW), f_X3_alike w a1 = some (r, w1) ∧ f_X4_alike w1 a1 = some (r, w2) ∧ J w2) ∧
  (∀ (w : zW), J w → ∀ (a1 a2 : Int32), ∃ (r : Int32) (w1 : zW) (w2 : zW), f_X3_alone w a1 a2 = some (r, w1) ∧ f_X4_alone w1 a1 a2 = some (r, w2) ∧ J w2) ∧
  (∀ (w : zW), J w → ∀ (a1 a2 a3 : Int32), ∃ (r : Int64) (w1 : zW) (w2 : zW), f_X3_luck w a1 a2 a3 = some (r, w1) ∧ f_X4_luck w1 a1 a2 a3 = some (r, w2) ∧ J w2) ∧
  (∀ (w : zW), J w → ∀ (a1 a2 : Int32), ∃ (r : Int64) (w1 : zW) (w2 : zW), f_X3_mean w a1 a2 = some (r, w1) ∧ f_X4_mean w1 a1 a2 = some (r, w2) ∧ J w2) ∧
  (∀ (w : zW), J w → ∀ (a1 a2 : Int32), ∃ (r : Int64) (w1 : zW) (w2 : zW), f_X3_stay w a1 a2 = some (r, w1) ∧ f_X4_stay w1 a1 a2 = some (r, w2) ∧ J w2) ∧
  (∀ (w : zW), J w → ∀ (a1 a2 : Int32), ∃ (r : Int32) (w1 : zW) (w2 : zW), f_X3_see w a1 a2 = some (r, w1) ∧ f_X4_see w1 a1 a2 = some (r, w2) ∧ J w2) ∧
  (∀ (w : zW), J w → ∀ (a1 : Int32), ∃ (r : Int32) (w1 : zW) (w2 : zW), f_X3_forget w a1 = some (r, w1) ∧ f_X4_forget w1 a1 = some (r, w2) ∧ J w2) ∧
  (∀ (w : zW), J w → ∀ (a1 : Int32), ∃ (r : Int32) (w1 : zW) (w2 : zW), f_X3_fits w a1 = some (r, w1) ∧ f_X4_fits w1 a1 = some (r, w2) ∧ J w2) ∧
  (∀ (w : zW), J w → ∀ (a1 : Int32), ∃ (r : Int32) (w1 : zW) (w2 : zW), f_X3_kinds w a1 = some (r, w1) ∧ f_X4_kinds w1 a1 = some (r, w2) ∧ J w2) ∧
  (∀ (w : zW), J w → ∀ (a1 a2 a3 : Int32), ∃ (r : Int32) (w1 : zW) (w2 : zW), f_X3_drift w a1 a2 a3 = some (r, w1) ∧ f_X4_drift w1 a1 a2 a3 = some (r, w2) ∧ J w2) ∧
  (∀ (w : zW), J w → ∀ (a1 : Int32), ∃ (r : Int32) (w1 : zW) (w2 : zW), f_X3_keep w a1 = some (r, w1) ∧ f_X4_keep w1 a1 = some (r, w2) ∧ J w2) ∧
  (∀ (w : zW), J w → ∀ (a1 : Int32), ∃ (r : Int32) (w1 : zW) (w2 : zW), f_X3_back w a1 = some (r, w1) ∧ f_X4_back w1 a1 = some (r, w2) ∧ J w2) ∧
  (∀ (w : zW), J w → ∀ (a1 a2 a3 : Int32), ∃ (r : Int32) (w1 : zW) (w2 : zW), f_X3_sheet w a1 a2 a3 = some (r, w1) ∧ f_X4_sheet w1 a1 a2 a3 = some (r, w2) ∧ J w2) ∧
  (∀ (w : zW), J w → ∀ (a1 a2 a3 : Int32), ∃ (r : Int32) (w1 : zW) (w2 : zW), f_X3_put w a1 a2 a3 = some (r, w1) ∧ f_X4_put w1 a1 a2 a3 = some (r, w2) ∧ J w2) ∧
  (∀ (w : zW), J w → ∀ (a1 a2 a3 a4 : Int32), ∃ (r : Int32) (w1 : zW) (w2 : zW), f_X3_read w a1 a2 a3 a4 = some (r, w1) ∧ f_X4_read w1 a1 a2 a3 a4 = some (r, w2) ∧ J w2) ∧
  (∀ (w : zW), J w → ∀ (_ : Unit), ∃ (r : Int32), f_X3_torn w = r ∧ f_X4_torn w = r ∧ J w) ∧
  (∀ (w : zW), J w → ∀ (a1 : Int32), ∃ (r : Int32), f_X3_count w a1 = some r ∧ f_X4_count w a1 = some r ∧ J w)
theorem law_le {L i : Nat} (hL : L ≤ 320) (hi : i ≤ L) (h : ¬ nI L - 5 < nI i) : i + 5 ≤ L := by
  rw [Int32.lt_iff_toInt_lt, show (5 : Int32) = nI 5 from rfl, pk_sub_toInt (by omega) (by omega), nI_toInt (by omega)] at h
  omega
set_option maxRecDepth 100000 in
set_option maxHeartbeats 4000000 in
theorem law_loop {G : zG} {p : Program} {l : Launch} {e : Env} {s : State} {m : MethodId} {below : List Frame} {meth : Method} {c : Code} {b L : Nat} {xs : Nat → Int32} (hC : zC G RL cL_law 4 ret p s m #[Value.ref b] meth c) (hX : va_X b L xs s s.heap) (hbl : b < s.heap.size) (hbA : ¬ zA G b) (hzA : ∀ q, zA G q → s.heap.size ≤ q) (hL : L ≤ 320) {J : zW → Prop} (hJ : LawSteps J) :
    ∀ (n i : Nat), i ≤ L → L + 1 ≤ i + n → ∀ w : zW, J w → ZL G p l e room_1 s m #[Value.ref b] below meth c (lw_Z below #[Value.ref b] s) 4 18 [(0, .ref b), (1, .ref (zad G 0)), (2, .ref (zad G 56)), (3, .int (nI i))] [] w := by
  obtain ⟨hj0, hj1, hj2, hj3, hj4, hj5, hj6, hj7, hj8, hj9, hj10, hj11, hj12, hj13, hj14, hj15, hj16, hj17, hj18, hj19, hj20, hj21, hj22, hj23, hj24, hj25, hj26, hj27, hj28, hj29, hj30, hj31, hj32, hj33, hj34, hj35, hj36, hj37, hj38, hj39⟩ := hJ
  intro n
  induction n with
  | zero => intro i h1 h2; omega
  | succ n ih =>
    intro i hi hn w hw
    refine x_iload_n hC dL_law_18 3 rfl rfl ?_
    refine x_aload_n hC dL_law_19 0 rfl rfl ?_
    refine x_slen hC hX hbl hbA dL_law_20 ?_
    refine x_iconst hC dL_law_21 (v := 5) rfl ?_
    refine x_isub hC dL_law_22 ?_
    refine x_icmp_gt (tgt := 1369) hC dL_law_23 (by decide) (fun _ => ?_) (fun h1 => ?_)
    · refine x_iconst hC dL_law_1369 (v := 1) rfl ?_
      exact fun H locs ls hP hS hl => va_forget (fun q hq => hzA _ (hS.2.2 q hq)) (lw_ret hC.1 hC.2.1 hC.2.2.2.2.2.2.2 hC.2.2.2.2.2.2.1 dL_law_1370)
    have h5 := law_le hL hi h1
    have hin : ∀ k, k < 5 → vp_in (nI i + nI k) L := fun k hk => by
      rw [nI_add]
      exact vp_in_nI (by omega) (by omega)
    have hin0 : vp_in (nI i) L := vp_in_nI (by omega) (by omega)
    have kk : ∀ w2 : zW, J w2 → ZL G p l e room_1 s m #[Value.ref b] below meth c (lw_Z below #[Value.ref b] s) 4 1363 [(0, .ref b), (1, .ref (zad G 0)), (2, .ref (zad G 56)), (3, .int (nI i))] [] w2 := by
      intro w2 hw2
      refine x_iinc (v := nI (i + 5)) (lv' := [(3, .int (nI (i + 5))), (0, .ref b), (1, .ref (zad G 0)), (2, .ref (zad G 56))]) hC dL_law_1363 3 rfl (by rw [← nI_add]; rfl) (by decide) rfl ?_
      refine x_goto (tgt := 18) hC dL_law_1366 (by decide) ?_
      refine x_lv [1, 2, 3, 0] rfl ?_
      exact ih (i + 5) h5 (by omega) w2 hw2
    refine x_aload_n hC dL_law_26 0 rfl rfl ?_
    refine x_iload_n hC dL_law_27 3 rfl rfl ?_
    refine x_sld hC hX hbl hbA hin0 dL_law_28 ?_
    refine x_bipush hC dL_law_29 (v := 63) rfl ?_
    refine x_iand hC dL_law_31 ?_
    obtain ⟨j, hj, ej⟩ := pk_andE (xs (zx (nI i))) (m := 63) 6 (by decide)
    refine x_topi ej.symm ?_
    rcases Nat.lt_or_ge j 40 with hlt | hge
    · match j, hlt with
      | 0, _ => exact x_tabIn (tgt := 208) hC dL_law_32 (by decide) (by decide) rfl (by decide) (law_0 hC hX hbl hbA hin hj0 hw kk)
      | 1, _ => exact x_tabIn (tgt := 231) hC dL_law_32 (by decide) (by decide) rfl (by decide) (law_1 hC hX hbl hbA hin hj1 hw kk)
      | 2, _ => exact x_tabIn (tgt := 254) hC dL_law_32 (by decide) (by decide) rfl (by decide) (law_2 hC hX hbl hbA hin hj2 hw kk)
      | 3, _ => exact x_tabIn (tgt := 267) hC dL_law_32 (by decide) (by decide) rfl (by decide) (law_3 hC hX hbl hbA hin hj3 hw kk)
      | 4, _ => exact x_tabIn (tgt := 280) hC dL_law_32 (by decide) (by decide) rfl (by decide) (law_4 hC hX hbl hbA hin hj4 hw kk)
      | 5, _ => exact x_tabIn (tgt := 303) hC dL_law_32 (by decide) (by decide) rfl (by decide) (law_5 hC hX hbl hbA hin hj5 hw kk)
      | 6, _ => exact x_tabIn (tgt := 336) hC dL_law_32 (by decide) (by decide) rfl (by decide) (law_6 hC hX hbl hbA hin hj6 hw kk)
      | 7, _ => exact x_tabIn (tgt := 369) hC dL_law_32 (by decide) (by decide) rfl (by decide) (law_7 hC hX hbl hbA hin hj7 hw kk)
      | 8, _ => exact x_tabIn (tgt := 382) hC dL_law_32 (by decide) (by decide) rfl (by decide) (law_8 hC hX hbl hbA hin hj8 hw kk)
      | 9, _ => exact x_tabIn (tgt := 431) hC dL_law_32 (by decide) (by decide) rfl (by decide) (law_9 hC hX hbl hbA hin hj9 hw kk)
      | 10, _ => exact x_tabIn (tgt := 464) hC dL_law_32 (by decide) (by decide) rfl (by decide) (law_10 hC hX hbl hbA hin hj10 hw kk)
      | 11, _ => exact x_tabIn (tgt := 497) hC dL_law_32 (by decide) (by decide) rfl (by decide) (law_11 hC hX hbl hbA hin hj11 hw kk)
      | 12, _ => exact x_tabIn (tgt := 520) hC dL_law_32 (by decide) (by decide) rfl (by decide) (law_12 hC hX hbl hbA hin hj12 hw kk)
      | 13, _ => exact x_tabIn (tgt := 543) hC dL_law_32 (by decide) (by decide) rfl (by decide) (law_13 hC hX hbl hbA hin hj13 hw kk)
      | 14, _ => exact x_tabIn (tgt := 592) hC dL_law_32 (by decide) (by decide) rfl (by decide) (law_14 hC hX hbl hbA hin hj14 hw kk)
      | 15, _ => exact x_tabIn (tgt := 625) hC dL_law_32 (by decide) (by decide) rfl (by decide) (law_15 hC hX hbl hbA hin hj15 hw kk)
      | 16, _ => exact x_tabIn (tgt := 658) hC dL_law_32 (by decide) (by decide) rfl (by decide) (law_16 hC hX hbl hbA hin hj16 hw kk)
      | 17, _ => exact x_tabIn (tgt := 681) hC dL_law_32 (by decide) (by decide) rfl (by decide) (law_17 hC hX hbl hbA hin hj17 hw kk)
      | 18, _ => exact x_tabIn (tgt := 714) hC dL_law_32 (by decide) (by decide) rfl (by decide) (law_18 hC hX hbl hbA hin hj18 hw kk)
      | 19, _ => exact x_tabIn (tgt := 737) hC dL_law_32 (by decide) (by decide) rfl (by decide) (law_19 hC hX hbl hbA hin hj19 hw kk)
      | 20, _ => exact x_tabIn (tgt := 770) hC dL_law_32 (by decide) (by decide) rfl (by decide) (law_20 hC hX hbl hbA hin hj20 hw kk)
      | 21, _ => exact x_tabIn (tgt := 793) hC dL_law_32 (by decide) (by decide) rfl (by decide) (law_21 hC hX hbl hbA hin hj21 hw kk)
      | 22, _ => exact x_tabIn (tgt := 816) hC dL_law_32 (by decide) (by decide) rfl (by decide) (law_22 hC hX hbl hbA hin hj22 hw kk)
      | 23, _ => exact x_tabIn (tgt := 829) hC dL_law_32 (by decide) (by decide) rfl (by decide) (law_23 hC hX hbl hbA hin hj23 hw kk)
      | 24, _ => exact x_tabIn (tgt := 852) hC dL_law_32 (by decide) (by decide) rfl (by decide) (law_24 hC hX hbl hbA hin hj24 hw kk)
      | 25, _ => exact x_tabIn (tgt := 885) hC dL_law_32 (by decide) (by decide) rfl (by decide) (law_25 hC hX hbl hbA hin hj25 hw kk)
      | 26, _ => exact x_tabIn (tgt := 929) hC dL_law_32 (by decide) (by decide) rfl (by decide) (law_26 hC hX hbl hbA hin hj26 hw kk)
      | 27, _ => exact x_tabIn (tgt := 963) hC dL_law_32 (by decide) (by decide) rfl (by decide) (law_27 hC hX hbl hbA hin hj27 hw kk)
      | 28, _ => exact x_tabIn (tgt := 997) hC dL_law_32 (by decide) (by decide) rfl (by decide) (law_28 hC hX hbl hbA hin hj28 hw kk)
      | 29, _ => exact x_tabIn (tgt := 1030) hC dL_law_32 (by decide) (by decide) rfl (by decide) (law_29 hC hX hbl hbA hin hj29 hw kk)
      | 30, _ => exact x_tabIn (tgt := 1053) hC dL_law_32 (by decide) (by decide) rfl (by decide) (law_30 hC hX hbl hbA hin hj30 hw kk)
      | 31, _ => exact x_tabIn (tgt := 1076) hC dL_law_32 (by decide) (by decide) rfl (by decide) (law_31 hC hX hbl hbA hin hj31 hw kk)
      | 32, _ => exact x_tabIn (tgt := 1099) hC dL_law_32 (by decide) (by decide) rfl (by decide) (law_32 hC hX hbl hbA hin hj32 hw kk)
      | 33, _ => exact x_tabIn (tgt := 1142) hC dL_law_32 (by decide) (by decide) rfl (by decide) (law_33 hC hX hbl hbA hin hj33 hw kk)
      | 34, _ => exact x_tabIn (tgt := 1165) hC dL_law_32 (by decide) (by decide) rfl (by decide) (law_34 hC hX hbl hbA hin hj34 hw kk)
      | 35, _ => exact x_tabIn (tgt := 1188) hC dL_law_32 (by decide) (by decide) rfl (by decide) (law_35 hC hX hbl hbA hin hj35 hw kk)
      | 36, _ => exact x_tabIn (tgt := 1231) hC dL_law_32 (by decide) (by decide) rfl (by decide) (law_36 hC hX hbl hbA hin hj36 hw kk)
      | 37, _ => exact x_tabIn (tgt := 1274) hC dL_law_32 (by decide) (by decide) rfl (by decide) (law_37 hC hX hbl hbA hin hj37 hw kk)
      | 38, _ => exact x_tabIn (tgt := 1327) hC dL_law_32 (by decide) (by decide) rfl (by decide) (law_38 hC hX hbl hbA hin hj38 hw kk)
      | 39, _ => exact x_tabIn (tgt := 1340) hC dL_law_32 (by decide) (by decide) rfl (by decide) (law_39 hC hX hbl hbA hin hj39 hw kk)
      | k + 40, h => exact absurd h (by omega)
    · refine x_tabOut (tgt := 1363) hC dL_law_32 (Or.inr ?_) (by decide) ?_
      · rw [nI_toInt (by omega)]
        omega
      · exact kk w hw
