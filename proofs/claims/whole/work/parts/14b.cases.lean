def KO (p : Program) (l : Launch) (e : Env) (s : State) (m : MethodId) (b : Nat) (below : List Frame) (meth : Method) (c : Code) (X : XT) (b2 : Nat → Nat) (o i cells slots : Nat) (Q : State → Prop) : Prop := ∀ (M m0 : Mem) (f : Nat → Int64) (H : Heap) (locs : List Loc) (ls : Array Slot), RB (i + 1) M m0 → HL X b2 o M m0 f s H locs → lv_has ls 7 [(0, .ref b), (1, .ref (X.2.2 0)), (2, .ref (b2 0)), (3, .ref o), (4, .int (nI (7 * i)))] → W p l e room_1 s m #[Value.ref b] below meth c H locs (cells + 4) (slots + 24) Q (F0 m 2116 ls [])
set_option maxRecDepth 100000 in
set_option maxHeartbeats 4000000 in
theorem lw_k0 (l : Launch) (hfl : l.stackTraces = false) {p : Program} {e : Env} {s : State} {m : MethodId} {below : List Frame} {meth : Method} {c : Code} {H : Heap} {locs : List Loc} {cells slots : Nat} {Q : State → Prop} {X : XT} {b2 : Nat → Nat} {o b L i : Nat} {xs : Nat → Int32} {M m0 : Mem} {f : Nat → Int64} {ls : Array Slot} (B : CL X b2 o p s m #[Value.ref b] c) (hX : va_X b L xs s s.heap) (hbl : b < s.heap.size) (hL : L ≤ 3584) (hi : 7 * i + 7 ≤ L) (hR : RB i M m0) (hw : HL X b2 o M m0 f s H locs) (hl : lv_has ls 7 [(0, .ref b), (1, .ref (X.2.2 0)), (2, .ref (b2 0)), (3, .ref o), (4, .int (nI (7 * i)))]) (hcs : cells + 4 ≤ 601024 ∧ slots + 24 ≤ 7293034) (hK : KO p l e s m b below meth c X b2 o i cells slots Q) : W p l e room_1 s m #[Value.ref b] below meth c H locs cells slots Q (F0 m 196 ls []) := by
  obtain ⟨k, v, N, w, n, hf, hg, ht, hv, hkk, hR'⟩ := ob_add (p1 := (xs (7 * i + 1))) (p2 := (xs (7 * i + 2))) (p3 := (xs (7 * i + 3))) (p4 := (xs (7 * i + 4))) (p5 := (xs (7 * i + 5))) hR (by omega)
  refine lv_aload_n B.hx B.hb dL_law_196 rfl (lv_at hl 1 rfl) ?_
  refine lv_aload_n B.hx B.hb dL_law_197 rfl (lv_at hl 0 rfl) ?_
  refine lv_iload B.hx B.hb dL_law_198 (lv_at hl 4 rfl) ?_
  refine lv_iconst (v := 1) B.hx B.hb dL_law_200 (by decide) ?_
  refine lv_iadd B.hx B.hb dL_law_201 ?_
  refine l_sld (k := 7 * i + 1) B hX hbl hw (nI_add (7 * i) 1) (by omega) hL dL_law_202 ?_
  refine lv_aload_n B.hx B.hb dL_law_203 rfl (lv_at hl 0 rfl) ?_
  refine lv_iload B.hx B.hb dL_law_204 (lv_at hl 4 rfl) ?_
  refine lv_iconst (v := 2) B.hx B.hb dL_law_206 (by decide) ?_
  refine lv_iadd B.hx B.hb dL_law_207 ?_
  refine l_sld (k := 7 * i + 2) B hX hbl hw (nI_add (7 * i) 2) (by omega) hL dL_law_208 ?_
  refine lv_aload_n B.hx B.hb dL_law_209 rfl (lv_at hl 0 rfl) ?_
  refine lv_iload B.hx B.hb dL_law_210 (lv_at hl 4 rfl) ?_
  refine lv_iconst (v := 3) B.hx B.hb dL_law_212 (by decide) ?_
  refine lv_iadd B.hx B.hb dL_law_213 ?_
  refine l_sld (k := 7 * i + 3) B hX hbl hw (nI_add (7 * i) 3) (by omega) hL dL_law_214 ?_
  refine lv_aload_n B.hx B.hb dL_law_215 rfl (lv_at hl 0 rfl) ?_
  refine lv_iload B.hx B.hb dL_law_216 (lv_at hl 4 rfl) ?_
  refine lv_iconst (v := 4) B.hx B.hb dL_law_218 (by decide) ?_
  refine lv_iadd B.hx B.hb dL_law_219 ?_
  refine l_sld (k := 7 * i + 4) B hX hbl hw (nI_add (7 * i) 4) (by omega) hL dL_law_220 ?_
  refine lv_aload_n B.hx B.hb dL_law_221 rfl (lv_at hl 0 rfl) ?_
  refine lv_iload B.hx B.hb dL_law_222 (lv_at hl 4 rfl) ?_
  refine lv_iconst (v := 5) B.hx B.hb dL_law_224 (by decide) ?_
  refine lv_iadd B.hx B.hb dL_law_225 ?_
  refine l_sld (k := 7 * i + 5) B hX hbl hw (nI_add (7 * i) 5) (by omega) hL dL_law_226 ?_
  refine lv_aload_n B.hx B.hb dL_law_227 rfl (lv_at hl 3 rfl) ?_
  refine l_wrap (n := 7) (As := [.ref (X.2.2 0), .int (xs (7 * i + 1)), .int (xs (7 * i + 2)), .int (xs (7 * i + 3)), .int (xs (7 * i + 4)), .int (xs (7 * i + 5)), .ref o]) (rest := []) B hw (c_L_add l hfl X o (xs (7 * i + 1)) (xs (7 * i + 2)) (xs (7 * i + 3)) (xs (7 * i + 4)) (xs (7 * i + 5)) M f (k, v, N) hf hkk _) (big_at 526 (by decide +kernel) (by decide +kernel)) (big_at 527 (by decide +kernel) (by decide +kernel)) (big_at 0 (by decide +kernel) (by decide +kernel)) (big_at 528 (by decide +kernel) (by decide +kernel)) ⟨by decide +kernel, by decide +kernel, by decide +kernel⟩ rfl hl.1 rfl rfl ⟨(Nat.le_of_ble_eq_true rfl), (Nat.le_of_ble_eq_true rfl)⟩ (Nat.le_of_ble_eq_true rfl) ⟨by show _ ≤ 601024; omega, by show _ ≤ 7293034; omega⟩ dL_law_228 rfl (fun g H locs hg0 hw => ?_)
  refine lv_istore (lv' := [(5, .int (nI (kmI k))), (0, .ref b), (1, .ref (X.2.2 0)), (2, .ref (b2 0)), (3, .ref o), (4, .int (nI (7 * i)))]) B.hx B.hb dL_law_231 hl (by decide) rfl (fun ls hl => ?_)
  refine lv_aload_n B.hx B.hb dL_law_233 rfl (lv_at hl 3 rfl) ?_
  refine lv_aload_n B.hx B.hb dL_law_234 rfl (lv_at hl 1 rfl) ?_
  refine lv_iload B.hx B.hb dL_law_235 (lv_at hl 5 rfl) ?_
  refine lv_iconst (v := 1) B.hx B.hb dL_law_237 (by decide) ?_
  refine lv_iadd B.hx B.hb dL_law_238 ?_
  refine l_sld (k := 7 * i + 1) B hX hbl hw (nI_add (7 * i) 1) (by omega) hL dL_law_239 ?_
  refine lv_aload_n B.hx B.hb dL_law_240 rfl (lv_at hl 1 rfl) ?_
  refine lv_iload B.hx B.hb dL_law_241 (lv_at hl 5 rfl) ?_
  refine lv_iconst (v := 2) B.hx B.hb dL_law_243 (by decide) ?_
  refine lv_iadd B.hx B.hb dL_law_244 ?_
  refine l_sld (k := 7 * i + 2) B hX hbl hw (nI_add (7 * i) 2) (by omega) hL dL_law_245 ?_
  refine lv_aload_n B.hx B.hb dL_law_246 rfl (lv_at hl 1 rfl) ?_
  refine lv_iload B.hx B.hb dL_law_247 (lv_at hl 5 rfl) ?_
  refine lv_iconst (v := 3) B.hx B.hb dL_law_249 (by decide) ?_
  refine lv_iadd B.hx B.hb dL_law_250 ?_
  refine l_sld (k := 7 * i + 3) B hX hbl hw (nI_add (7 * i) 3) (by omega) hL dL_law_251 ?_
  refine lv_aload_n B.hx B.hb dL_law_252 rfl (lv_at hl 1 rfl) ?_
  refine lv_iload B.hx B.hb dL_law_253 (lv_at hl 5 rfl) ?_
  refine lv_iconst (v := 4) B.hx B.hb dL_law_255 (by decide) ?_
  refine lv_iadd B.hx B.hb dL_law_256 ?_
  refine l_sld (k := 7 * i + 4) B hX hbl hw (nI_add (7 * i) 4) (by omega) hL dL_law_257 ?_
  refine lv_aload_n B.hx B.hb dL_law_258 rfl (lv_at hl 1 rfl) ?_
  refine lv_iload B.hx B.hb dL_law_259 (lv_at hl 5 rfl) ?_
  refine lv_iconst (v := 5) B.hx B.hb dL_law_261 (by decide) ?_
  refine lv_iadd B.hx B.hb dL_law_262 ?_
  refine l_sld (k := 7 * i + 5) B hX hbl hw (nI_add (7 * i) 5) (by omega) hL dL_law_263 ?_
  refine l_mod (As := [.int (xs (7 * i + 1)), .int (xs (7 * i + 2)), .int (xs (7 * i + 3)), .int (xs (7 * i + 4)), .int (xs (7 * i + 5))]) (rest := []) B hw (c_X11_add l (X.1, X.2.1, b2) 5000 (xs (7 * i + 1)) (xs (7 * i + 2)) (xs (7 * i + 3)) (xs (7 * i + 4)) (xs (7 * i + 5)) m0 (w, n) hg _) cv_L_106 rfl rfl hl.1 rfl rfl ⟨(Nat.le_of_ble_eq_true rfl), (Nat.le_of_ble_eq_true rfl)⟩ (Nat.le_of_ble_eq_true rfl) ⟨by show _ ≤ 601024; omega, by show _ ≤ 7293034; omega⟩ dL_law_264 rfl (fun H locs hw => ?_)
  refine lv_istore (lv' := [(6, .int w), (5, .int (nI (kmI k))), (0, .ref b), (1, .ref (X.2.2 0)), (2, .ref (b2 0)), (3, .ref o), (4, .int (nI (7 * i)))]) B.hx B.hb dL_law_267 hl (by decide) rfl (fun ls hl => ?_)
  refine lv_aload_n B.hx B.hb dL_law_269 rfl (lv_at hl 4 rfl) ?_
  refine l_mod (As := []) (rest := []) B hw (c_X11_thrown l (X.1, X.2.1, b2) 5000 n (nI (kmI k)) (by rw [← ht]; rfl) _) cv_L_107 rfl rfl hl.1 rfl rfl ⟨(Nat.le_of_ble_eq_true rfl), (Nat.le_of_ble_eq_true rfl)⟩ (Nat.le_of_ble_eq_true rfl) ⟨by show _ ≤ 601024; omega, by show _ ≤ 7293034; omega⟩ dL_law_270 rfl (fun H locs hw => ?_)
  refine lv_iload B.hx B.hb dL_law_273 (lv_at hl 1 rfl) ?_
  refine lv_icmp_eq (tgt := 280) B.hx B.hb dL_law_275 (by decide) (fun _ => ?_) (fun c9 => absurd rfl c9)
  refine lv_iload B.hx B.hb dL_law_280 (lv_at hl 1 rfl) ?_
  refine lv_if_ne (tgt := 297) B.hx B.hb dL_law_282 (by decide) (fun c9 => ?_) (fun c9 => ?_)
  · refine lv_goto (tgt := 2116) B.hx B.hb dL_law_297 (by decide) ?_
    refine W.widen (k := cells + 4) (n := slots + 24) (by omega) (by omega) ?_
    exact hK _ _ _ _ _ _ hR' hw (lv_sub hl [2, 3, 4, 5, 6] rfl)
  · have hk0 := km0 hkk c9
    refine lv_aload_n B.hx B.hb dL_law_285 rfl (lv_at hl 5 rfl) ?_
    refine lv_iconst (v := 0) B.hx B.hb dL_law_286 (by decide) ?_
    refine l_lald B hw dL_law_287 ?_
    refine lv_iload B.hx B.hb dL_law_288 (lv_at hl 0 rfl) ?_
    refine lv_i2l (v := w.toInt64) B.hx B.hb dL_law_290 rfl ?_
    refine W.lcmp B.hx B.hb dL_law_291 ?_
    refine lv_if_eq (tgt := 297) B.hx B.hb dL_law_292 (by decide) (fun _ => ?_) (fun c9 => absurd ((by rw [hg0 hk0, hv hk0]; exact lg_self _)) c9)
    refine lv_goto (tgt := 2116) B.hx B.hb dL_law_297 (by decide) ?_
    refine W.widen (k := cells + 4) (n := slots + 24) (by omega) (by omega) ?_
    exact hK _ _ _ _ _ _ hR' hw (lv_sub hl [2, 3, 4, 5, 6] rfl)
set_option maxRecDepth 100000 in
set_option maxHeartbeats 4000000 in
theorem lw_k1 (l : Launch) (hfl : l.stackTraces = false) {p : Program} {e : Env} {s : State} {m : MethodId} {below : List Frame} {meth : Method} {c : Code} {H : Heap} {locs : List Loc} {cells slots : Nat} {Q : State → Prop} {X : XT} {b2 : Nat → Nat} {o b L i : Nat} {xs : Nat → Int32} {M m0 : Mem} {f : Nat → Int64} {ls : Array Slot} (B : CL X b2 o p s m #[Value.ref b] c) (hX : va_X b L xs s s.heap) (hbl : b < s.heap.size) (hL : L ≤ 3584) (hi : 7 * i + 7 ≤ L) (hR : RB i M m0) (hw : HL X b2 o M m0 f s H locs) (hl : lv_has ls 7 [(0, .ref b), (1, .ref (X.2.2 0)), (2, .ref (b2 0)), (3, .ref o), (4, .int (nI (7 * i)))]) (hcs : cells + 4 ≤ 601024 ∧ slots + 24 ≤ 7293034) (hK : KO p l e s m b below meth c X b2 o i cells slots Q) : W p l e room_1 s m #[Value.ref b] below meth c H locs cells slots Q (F0 m 300 ls []) := by
  obtain ⟨k, v, N, w, n, hf, hg, ht, hv, hkk, hR'⟩ := ob_change (p1 := (xs (7 * i + 1))) (p2 := (xs (7 * i + 2))) (p3 := (xs (7 * i + 3))) (p4 := (xs (7 * i + 4))) hR (by omega)
  refine lv_aload_n B.hx B.hb dL_law_300 rfl (lv_at hl 1 rfl) ?_
  refine lv_aload_n B.hx B.hb dL_law_301 rfl (lv_at hl 0 rfl) ?_
  refine lv_iload B.hx B.hb dL_law_302 (lv_at hl 4 rfl) ?_
  refine lv_iconst (v := 1) B.hx B.hb dL_law_304 (by decide) ?_
  refine lv_iadd B.hx B.hb dL_law_305 ?_
  refine l_sld (k := 7 * i + 1) B hX hbl hw (nI_add (7 * i) 1) (by omega) hL dL_law_306 ?_
  refine lv_aload_n B.hx B.hb dL_law_307 rfl (lv_at hl 0 rfl) ?_
  refine lv_iload B.hx B.hb dL_law_308 (lv_at hl 4 rfl) ?_
  refine lv_iconst (v := 2) B.hx B.hb dL_law_310 (by decide) ?_
  refine lv_iadd B.hx B.hb dL_law_311 ?_
  refine l_sld (k := 7 * i + 2) B hX hbl hw (nI_add (7 * i) 2) (by omega) hL dL_law_312 ?_
  refine lv_aload_n B.hx B.hb dL_law_313 rfl (lv_at hl 0 rfl) ?_
  refine lv_iload B.hx B.hb dL_law_314 (lv_at hl 4 rfl) ?_
  refine lv_iconst (v := 3) B.hx B.hb dL_law_316 (by decide) ?_
  refine lv_iadd B.hx B.hb dL_law_317 ?_
  refine l_sld (k := 7 * i + 3) B hX hbl hw (nI_add (7 * i) 3) (by omega) hL dL_law_318 ?_
  refine lv_aload_n B.hx B.hb dL_law_319 rfl (lv_at hl 0 rfl) ?_
  refine lv_iload B.hx B.hb dL_law_320 (lv_at hl 4 rfl) ?_
  refine lv_iconst (v := 4) B.hx B.hb dL_law_322 (by decide) ?_
  refine lv_iadd B.hx B.hb dL_law_323 ?_
  refine l_sld (k := 7 * i + 4) B hX hbl hw (nI_add (7 * i) 4) (by omega) hL dL_law_324 ?_
  refine lv_aload_n B.hx B.hb dL_law_325 rfl (lv_at hl 3 rfl) ?_
  refine l_wrap (n := 6) (As := [.ref (X.2.2 0), .int (xs (7 * i + 1)), .int (xs (7 * i + 2)), .int (xs (7 * i + 3)), .int (xs (7 * i + 4)), .ref o]) (rest := []) B hw (c_L_change l hfl X o (xs (7 * i + 1)) (xs (7 * i + 2)) (xs (7 * i + 3)) (xs (7 * i + 4)) M f (k, v, N) hf hkk _) (big_at 718 (by decide +kernel) (by decide +kernel)) (big_at 719 (by decide +kernel) (by decide +kernel)) (big_at 0 (by decide +kernel) (by decide +kernel)) (big_at 720 (by decide +kernel) (by decide +kernel)) ⟨by decide +kernel, by decide +kernel, by decide +kernel⟩ rfl hl.1 rfl rfl ⟨(Nat.le_of_ble_eq_true rfl), (Nat.le_of_ble_eq_true rfl)⟩ (Nat.le_of_ble_eq_true rfl) ⟨by show _ ≤ 601024; omega, by show _ ≤ 7293034; omega⟩ dL_law_326 rfl (fun g H locs hg0 hw => ?_)
  refine lv_istore (lv' := [(5, .int (nI (kmB k))), (0, .ref b), (1, .ref (X.2.2 0)), (2, .ref (b2 0)), (3, .ref o), (4, .int (nI (7 * i)))]) B.hx B.hb dL_law_329 hl (by decide) rfl (fun ls hl => ?_)
  refine lv_aload_n B.hx B.hb dL_law_331 rfl (lv_at hl 3 rfl) ?_
  refine lv_aload_n B.hx B.hb dL_law_332 rfl (lv_at hl 1 rfl) ?_
  refine lv_iload B.hx B.hb dL_law_333 (lv_at hl 5 rfl) ?_
  refine lv_iconst (v := 1) B.hx B.hb dL_law_335 (by decide) ?_
  refine lv_iadd B.hx B.hb dL_law_336 ?_
  refine l_sld (k := 7 * i + 1) B hX hbl hw (nI_add (7 * i) 1) (by omega) hL dL_law_337 ?_
  refine lv_aload_n B.hx B.hb dL_law_338 rfl (lv_at hl 1 rfl) ?_
  refine lv_iload B.hx B.hb dL_law_339 (lv_at hl 5 rfl) ?_
  refine lv_iconst (v := 2) B.hx B.hb dL_law_341 (by decide) ?_
  refine lv_iadd B.hx B.hb dL_law_342 ?_
  refine l_sld (k := 7 * i + 2) B hX hbl hw (nI_add (7 * i) 2) (by omega) hL dL_law_343 ?_
  refine lv_aload_n B.hx B.hb dL_law_344 rfl (lv_at hl 1 rfl) ?_
  refine lv_iload B.hx B.hb dL_law_345 (lv_at hl 5 rfl) ?_
  refine lv_iconst (v := 3) B.hx B.hb dL_law_347 (by decide) ?_
  refine lv_iadd B.hx B.hb dL_law_348 ?_
  refine l_sld (k := 7 * i + 3) B hX hbl hw (nI_add (7 * i) 3) (by omega) hL dL_law_349 ?_
  refine lv_aload_n B.hx B.hb dL_law_350 rfl (lv_at hl 1 rfl) ?_
  refine lv_iload B.hx B.hb dL_law_351 (lv_at hl 5 rfl) ?_
  refine lv_iconst (v := 4) B.hx B.hb dL_law_353 (by decide) ?_
  refine lv_iadd B.hx B.hb dL_law_354 ?_
  refine l_sld (k := 7 * i + 4) B hX hbl hw (nI_add (7 * i) 4) (by omega) hL dL_law_355 ?_
  refine l_mod (As := [.int (xs (7 * i + 1)), .int (xs (7 * i + 2)), .int (xs (7 * i + 3)), .int (xs (7 * i + 4))]) (rest := []) B hw (c_X11_change l (X.1, X.2.1, b2) 5000 (xs (7 * i + 1)) (xs (7 * i + 2)) (xs (7 * i + 3)) (xs (7 * i + 4)) m0 (w, n) hg _) cv_L_113 rfl rfl hl.1 rfl rfl ⟨(Nat.le_of_ble_eq_true rfl), (Nat.le_of_ble_eq_true rfl)⟩ (Nat.le_of_ble_eq_true rfl) ⟨by show _ ≤ 601024; omega, by show _ ≤ 7293034; omega⟩ dL_law_356 rfl (fun H locs hw => ?_)
  refine lv_istore (lv' := [(6, .int w), (5, .int (nI (kmB k))), (0, .ref b), (1, .ref (X.2.2 0)), (2, .ref (b2 0)), (3, .ref o), (4, .int (nI (7 * i)))]) B.hx B.hb dL_law_359 hl (by decide) rfl (fun ls hl => ?_)
  refine lv_aload_n B.hx B.hb dL_law_361 rfl (lv_at hl 4 rfl) ?_
  refine l_mod (As := []) (rest := []) B hw (c_X11_thrown l (X.1, X.2.1, b2) 5000 n (nI (kmB k)) (by rw [← ht]; rfl) _) cv_L_107 rfl rfl hl.1 rfl rfl ⟨(Nat.le_of_ble_eq_true rfl), (Nat.le_of_ble_eq_true rfl)⟩ (Nat.le_of_ble_eq_true rfl) ⟨by show _ ≤ 601024; omega, by show _ ≤ 7293034; omega⟩ dL_law_362 rfl (fun H locs hw => ?_)
  refine lv_iload B.hx B.hb dL_law_365 (lv_at hl 1 rfl) ?_
  refine lv_icmp_eq (tgt := 372) B.hx B.hb dL_law_367 (by decide) (fun _ => ?_) (fun c9 => absurd rfl c9)
  refine lv_iload B.hx B.hb dL_law_372 (lv_at hl 1 rfl) ?_
  refine lv_if_ne (tgt := 389) B.hx B.hb dL_law_374 (by decide) (fun c9 => ?_) (fun c9 => ?_)
  · refine lv_goto (tgt := 2116) B.hx B.hb dL_law_389 (by decide) ?_
    refine W.widen (k := cells + 4) (n := slots + 24) (by omega) (by omega) ?_
    exact hK _ _ _ _ _ _ hR' hw (lv_sub hl [2, 3, 4, 5, 6] rfl)
  · have hk0 := km0 hkk c9
    refine lv_aload_n B.hx B.hb dL_law_377 rfl (lv_at hl 5 rfl) ?_
    refine lv_iconst (v := 0) B.hx B.hb dL_law_378 (by decide) ?_
    refine l_lald B hw dL_law_379 ?_
    refine lv_iload B.hx B.hb dL_law_380 (lv_at hl 0 rfl) ?_
    refine lv_i2l (v := w.toInt64) B.hx B.hb dL_law_382 rfl ?_
    refine W.lcmp B.hx B.hb dL_law_383 ?_
    refine lv_if_eq (tgt := 389) B.hx B.hb dL_law_384 (by decide) (fun _ => ?_) (fun c9 => absurd ((by rw [hg0 hk0, hv hk0]; exact lg_self _)) c9)
    refine lv_goto (tgt := 2116) B.hx B.hb dL_law_389 (by decide) ?_
    refine W.widen (k := cells + 4) (n := slots + 24) (by omega) (by omega) ?_
    exact hK _ _ _ _ _ _ hR' hw (lv_sub hl [2, 3, 4, 5, 6] rfl)
set_option maxRecDepth 100000 in
set_option maxHeartbeats 4000000 in
theorem lw_k2 (l : Launch) (hfl : l.stackTraces = false) {p : Program} {e : Env} {s : State} {m : MethodId} {below : List Frame} {meth : Method} {c : Code} {H : Heap} {locs : List Loc} {cells slots : Nat} {Q : State → Prop} {X : XT} {b2 : Nat → Nat} {o b L i : Nat} {xs : Nat → Int32} {M m0 : Mem} {f : Nat → Int64} {ls : Array Slot} (B : CL X b2 o p s m #[Value.ref b] c) (hX : va_X b L xs s s.heap) (hbl : b < s.heap.size) (hL : L ≤ 3584) (hi : 7 * i + 7 ≤ L) (hR : RB i M m0) (hw : HL X b2 o M m0 f s H locs) (hl : lv_has ls 7 [(0, .ref b), (1, .ref (X.2.2 0)), (2, .ref (b2 0)), (3, .ref o), (4, .int (nI (7 * i)))]) (hcs : cells + 4 ≤ 601024 ∧ slots + 24 ≤ 7293034) (hK : KO p l e s m b below meth c X b2 o i cells slots Q) : W p l e room_1 s m #[Value.ref b] below meth c H locs cells slots Q (F0 m 392 ls []) := by
  obtain ⟨k, v, N, w, n, hf, hg, ht, hv, hkk, hR'⟩ := ob_remove (p1 := (xs (7 * i + 1))) (p2 := (xs (7 * i + 2))) hR (by omega)
  refine lv_aload_n B.hx B.hb dL_law_392 rfl (lv_at hl 1 rfl) ?_
  refine lv_aload_n B.hx B.hb dL_law_393 rfl (lv_at hl 0 rfl) ?_
  refine lv_iload B.hx B.hb dL_law_394 (lv_at hl 4 rfl) ?_
  refine lv_iconst (v := 1) B.hx B.hb dL_law_396 (by decide) ?_
  refine lv_iadd B.hx B.hb dL_law_397 ?_
  refine l_sld (k := 7 * i + 1) B hX hbl hw (nI_add (7 * i) 1) (by omega) hL dL_law_398 ?_
  refine lv_aload_n B.hx B.hb dL_law_399 rfl (lv_at hl 0 rfl) ?_
  refine lv_iload B.hx B.hb dL_law_400 (lv_at hl 4 rfl) ?_
  refine lv_iconst (v := 2) B.hx B.hb dL_law_402 (by decide) ?_
  refine lv_iadd B.hx B.hb dL_law_403 ?_
  refine l_sld (k := 7 * i + 2) B hX hbl hw (nI_add (7 * i) 2) (by omega) hL dL_law_404 ?_
  refine lv_aload_n B.hx B.hb dL_law_405 rfl (lv_at hl 3 rfl) ?_
  refine l_wrap (n := 4) (As := [.ref (X.2.2 0), .int (xs (7 * i + 1)), .int (xs (7 * i + 2)), .ref o]) (rest := []) B hw (c_L_remove l hfl X o (xs (7 * i + 1)) (xs (7 * i + 2)) M f (k, v, N) hf hkk _) (big_at 742 (by decide +kernel) (by decide +kernel)) (big_at 743 (by decide +kernel) (by decide +kernel)) (big_at 0 (by decide +kernel) (by decide +kernel)) (big_at 744 (by decide +kernel) (by decide +kernel)) ⟨by decide +kernel, by decide +kernel, by decide +kernel⟩ rfl hl.1 rfl rfl ⟨(Nat.le_of_ble_eq_true rfl), (Nat.le_of_ble_eq_true rfl)⟩ (Nat.le_of_ble_eq_true rfl) ⟨by show _ ≤ 601024; omega, by show _ ≤ 7293034; omega⟩ dL_law_406 rfl (fun g H locs hg0 hw => ?_)
  refine lv_istore (lv' := [(5, .int (nI (kmC k))), (0, .ref b), (1, .ref (X.2.2 0)), (2, .ref (b2 0)), (3, .ref o), (4, .int (nI (7 * i)))]) B.hx B.hb dL_law_409 hl (by decide) rfl (fun ls hl => ?_)
  refine lv_aload_n B.hx B.hb dL_law_411 rfl (lv_at hl 3 rfl) ?_
  refine lv_aload_n B.hx B.hb dL_law_412 rfl (lv_at hl 1 rfl) ?_
  refine lv_iload B.hx B.hb dL_law_413 (lv_at hl 5 rfl) ?_
  refine lv_iconst (v := 1) B.hx B.hb dL_law_415 (by decide) ?_
  refine lv_iadd B.hx B.hb dL_law_416 ?_
  refine l_sld (k := 7 * i + 1) B hX hbl hw (nI_add (7 * i) 1) (by omega) hL dL_law_417 ?_
  refine lv_aload_n B.hx B.hb dL_law_418 rfl (lv_at hl 1 rfl) ?_
  refine lv_iload B.hx B.hb dL_law_419 (lv_at hl 5 rfl) ?_
  refine lv_iconst (v := 2) B.hx B.hb dL_law_421 (by decide) ?_
  refine lv_iadd B.hx B.hb dL_law_422 ?_
  refine l_sld (k := 7 * i + 2) B hX hbl hw (nI_add (7 * i) 2) (by omega) hL dL_law_423 ?_
  refine l_mod (As := [.int (xs (7 * i + 1)), .int (xs (7 * i + 2))]) (rest := []) B hw (c_X11_remove l (X.1, X.2.1, b2) 5000 (xs (7 * i + 1)) (xs (7 * i + 2)) m0 (w, n) hg _) cv_L_117 rfl rfl hl.1 rfl rfl ⟨(Nat.le_of_ble_eq_true rfl), (Nat.le_of_ble_eq_true rfl)⟩ (Nat.le_of_ble_eq_true rfl) ⟨by show _ ≤ 601024; omega, by show _ ≤ 7293034; omega⟩ dL_law_424 rfl (fun H locs hw => ?_)
  refine lv_istore (lv' := [(6, .int w), (5, .int (nI (kmC k))), (0, .ref b), (1, .ref (X.2.2 0)), (2, .ref (b2 0)), (3, .ref o), (4, .int (nI (7 * i)))]) B.hx B.hb dL_law_427 hl (by decide) rfl (fun ls hl => ?_)
  refine lv_aload_n B.hx B.hb dL_law_429 rfl (lv_at hl 4 rfl) ?_
  refine l_mod (As := []) (rest := []) B hw (c_X11_thrown l (X.1, X.2.1, b2) 5000 n (nI (kmC k)) (by rw [← ht]; rfl) _) cv_L_107 rfl rfl hl.1 rfl rfl ⟨(Nat.le_of_ble_eq_true rfl), (Nat.le_of_ble_eq_true rfl)⟩ (Nat.le_of_ble_eq_true rfl) ⟨by show _ ≤ 601024; omega, by show _ ≤ 7293034; omega⟩ dL_law_430 rfl (fun H locs hw => ?_)
  refine lv_iload B.hx B.hb dL_law_433 (lv_at hl 1 rfl) ?_
  refine lv_icmp_eq (tgt := 440) B.hx B.hb dL_law_435 (by decide) (fun _ => ?_) (fun c9 => absurd rfl c9)
  refine lv_iload B.hx B.hb dL_law_440 (lv_at hl 1 rfl) ?_
  refine lv_if_ne (tgt := 457) B.hx B.hb dL_law_442 (by decide) (fun c9 => ?_) (fun c9 => ?_)
  · refine lv_goto (tgt := 2116) B.hx B.hb dL_law_457 (by decide) ?_
    refine W.widen (k := cells + 4) (n := slots + 24) (by omega) (by omega) ?_
    exact hK _ _ _ _ _ _ hR' hw (lv_sub hl [2, 3, 4, 5, 6] rfl)
  · have hk0 := km0 hkk c9
    refine lv_aload_n B.hx B.hb dL_law_445 rfl (lv_at hl 5 rfl) ?_
    refine lv_iconst (v := 0) B.hx B.hb dL_law_446 (by decide) ?_
    refine l_lald B hw dL_law_447 ?_
    refine lv_iload B.hx B.hb dL_law_448 (lv_at hl 0 rfl) ?_
    refine lv_i2l (v := w.toInt64) B.hx B.hb dL_law_450 rfl ?_
    refine W.lcmp B.hx B.hb dL_law_451 ?_
    refine lv_if_eq (tgt := 457) B.hx B.hb dL_law_452 (by decide) (fun _ => ?_) (fun c9 => absurd ((by rw [hg0 hk0, hv hk0]; exact lg_self _)) c9)
    refine lv_goto (tgt := 2116) B.hx B.hb dL_law_457 (by decide) ?_
    refine W.widen (k := cells + 4) (n := slots + 24) (by omega) (by omega) ?_
    exact hK _ _ _ _ _ _ hR' hw (lv_sub hl [2, 3, 4, 5, 6] rfl)
set_option maxRecDepth 100000 in
set_option maxHeartbeats 4000000 in
theorem lw_k3 (l : Launch) (hfl : l.stackTraces = false) {p : Program} {e : Env} {s : State} {m : MethodId} {below : List Frame} {meth : Method} {c : Code} {H : Heap} {locs : List Loc} {cells slots : Nat} {Q : State → Prop} {X : XT} {b2 : Nat → Nat} {o b L i : Nat} {xs : Nat → Int32} {M m0 : Mem} {f : Nat → Int64} {ls : Array Slot} (B : CL X b2 o p s m #[Value.ref b] c) (hX : va_X b L xs s s.heap) (hbl : b < s.heap.size) (hL : L ≤ 3584) (hi : 7 * i + 7 ≤ L) (hR : RB i M m0) (hw : HL X b2 o M m0 f s H locs) (hl : lv_has ls 7 [(0, .ref b), (1, .ref (X.2.2 0)), (2, .ref (b2 0)), (3, .ref o), (4, .int (nI (7 * i)))]) (hcs : cells + 4 ≤ 601024 ∧ slots + 24 ≤ 7293034) (hK : KO p l e s m b below meth c X b2 o i cells slots Q) : W p l e room_1 s m #[Value.ref b] below meth c H locs cells slots Q (F0 m 460 ls []) := by
  obtain ⟨k, v, N, w, n, hf, hg, ht, hv, hkk, hR'⟩ := ob_count (p1 := (xs (7 * i + 1))) hR (by omega)
  refine lv_aload_n B.hx B.hb dL_law_460 rfl (lv_at hl 1 rfl) ?_
  refine lv_aload_n B.hx B.hb dL_law_461 rfl (lv_at hl 0 rfl) ?_
  refine lv_iload B.hx B.hb dL_law_462 (lv_at hl 4 rfl) ?_
  refine lv_iconst (v := 1) B.hx B.hb dL_law_464 (by decide) ?_
  refine lv_iadd B.hx B.hb dL_law_465 ?_
  refine l_sld (k := 7 * i + 1) B hX hbl hw (nI_add (7 * i) 1) (by omega) hL dL_law_466 ?_
  refine lv_aload_n B.hx B.hb dL_law_467 rfl (lv_at hl 3 rfl) ?_
  refine l_wrap (n := 3) (As := [.ref (X.2.2 0), .int (xs (7 * i + 1)), .ref o]) (rest := []) B hw (c_L_count l hfl X o (xs (7 * i + 1)) M f (k, v, N) hf hkk _) (big_at 757 (by decide +kernel) (by decide +kernel)) (big_at 758 (by decide +kernel) (by decide +kernel)) (big_at 0 (by decide +kernel) (by decide +kernel)) (big_at 759 (by decide +kernel) (by decide +kernel)) ⟨by decide +kernel, by decide +kernel, by decide +kernel⟩ rfl hl.1 rfl rfl ⟨(Nat.le_of_ble_eq_true rfl), (Nat.le_of_ble_eq_true rfl)⟩ (Nat.le_of_ble_eq_true rfl) ⟨by show _ ≤ 601024; omega, by show _ ≤ 7293034; omega⟩ dL_law_468 rfl (fun g H locs hg0 hw => ?_)
  refine lv_istore (lv' := [(5, .int (nI (kmC k))), (0, .ref b), (1, .ref (X.2.2 0)), (2, .ref (b2 0)), (3, .ref o), (4, .int (nI (7 * i)))]) B.hx B.hb dL_law_471 hl (by decide) rfl (fun ls hl => ?_)
  refine lv_aload_n B.hx B.hb dL_law_473 rfl (lv_at hl 3 rfl) ?_
  refine lv_aload_n B.hx B.hb dL_law_474 rfl (lv_at hl 1 rfl) ?_
  refine lv_iload B.hx B.hb dL_law_475 (lv_at hl 5 rfl) ?_
  refine lv_iconst (v := 1) B.hx B.hb dL_law_477 (by decide) ?_
  refine lv_iadd B.hx B.hb dL_law_478 ?_
  refine l_sld (k := 7 * i + 1) B hX hbl hw (nI_add (7 * i) 1) (by omega) hL dL_law_479 ?_
  refine l_mod (As := [.int (xs (7 * i + 1))]) (rest := []) B hw (c_X11_count l (X.1, X.2.1, b2) 5000 (xs (7 * i + 1)) m0 (w, n) hg _) cv_L_121 rfl rfl hl.1 rfl rfl ⟨(Nat.le_of_ble_eq_true rfl), (Nat.le_of_ble_eq_true rfl)⟩ (Nat.le_of_ble_eq_true rfl) ⟨by show _ ≤ 601024; omega, by show _ ≤ 7293034; omega⟩ dL_law_480 rfl (fun H locs hw => ?_)
  refine lv_istore (lv' := [(6, .int w), (5, .int (nI (kmC k))), (0, .ref b), (1, .ref (X.2.2 0)), (2, .ref (b2 0)), (3, .ref o), (4, .int (nI (7 * i)))]) B.hx B.hb dL_law_483 hl (by decide) rfl (fun ls hl => ?_)
  refine lv_aload_n B.hx B.hb dL_law_485 rfl (lv_at hl 4 rfl) ?_
  refine l_mod (As := []) (rest := []) B hw (c_X11_thrown l (X.1, X.2.1, b2) 5000 n (nI (kmC k)) (by rw [← ht]; rfl) _) cv_L_107 rfl rfl hl.1 rfl rfl ⟨(Nat.le_of_ble_eq_true rfl), (Nat.le_of_ble_eq_true rfl)⟩ (Nat.le_of_ble_eq_true rfl) ⟨by show _ ≤ 601024; omega, by show _ ≤ 7293034; omega⟩ dL_law_486 rfl (fun H locs hw => ?_)
  refine lv_iload B.hx B.hb dL_law_489 (lv_at hl 1 rfl) ?_
  refine lv_icmp_eq (tgt := 496) B.hx B.hb dL_law_491 (by decide) (fun _ => ?_) (fun c9 => absurd rfl c9)
  refine lv_iload B.hx B.hb dL_law_496 (lv_at hl 1 rfl) ?_
  refine lv_if_ne (tgt := 513) B.hx B.hb dL_law_498 (by decide) (fun c9 => ?_) (fun c9 => ?_)
  · refine lv_goto (tgt := 2116) B.hx B.hb dL_law_513 (by decide) ?_
    refine W.widen (k := cells + 4) (n := slots + 24) (by omega) (by omega) ?_
    exact hK _ _ _ _ _ _ hR' hw (lv_sub hl [2, 3, 4, 5, 6] rfl)
  · have hk0 := km0 hkk c9
    refine lv_aload_n B.hx B.hb dL_law_501 rfl (lv_at hl 5 rfl) ?_
    refine lv_iconst (v := 0) B.hx B.hb dL_law_502 (by decide) ?_
    refine l_lald B hw dL_law_503 ?_
    refine lv_iload B.hx B.hb dL_law_504 (lv_at hl 0 rfl) ?_
    refine lv_i2l (v := w.toInt64) B.hx B.hb dL_law_506 rfl ?_
    refine W.lcmp B.hx B.hb dL_law_507 ?_
    refine lv_if_eq (tgt := 513) B.hx B.hb dL_law_508 (by decide) (fun _ => ?_) (fun c9 => absurd ((by rw [hg0 hk0, hv hk0]; exact lg_self _)) c9)
    refine lv_goto (tgt := 2116) B.hx B.hb dL_law_513 (by decide) ?_
    refine W.widen (k := cells + 4) (n := slots + 24) (by omega) (by omega) ?_
    exact hK _ _ _ _ _ _ hR' hw (lv_sub hl [2, 3, 4, 5, 6] rfl)
set_option maxRecDepth 100000 in
set_option maxHeartbeats 4000000 in
theorem lw_k4 (l : Launch) (hfl : l.stackTraces = false) {p : Program} {e : Env} {s : State} {m : MethodId} {below : List Frame} {meth : Method} {c : Code} {H : Heap} {locs : List Loc} {cells slots : Nat} {Q : State → Prop} {X : XT} {b2 : Nat → Nat} {o b L i : Nat} {xs : Nat → Int32} {M m0 : Mem} {f : Nat → Int64} {ls : Array Slot} (B : CL X b2 o p s m #[Value.ref b] c) (hX : va_X b L xs s s.heap) (hbl : b < s.heap.size) (hL : L ≤ 3584) (hi : 7 * i + 7 ≤ L) (hR : RB i M m0) (hw : HL X b2 o M m0 f s H locs) (hl : lv_has ls 7 [(0, .ref b), (1, .ref (X.2.2 0)), (2, .ref (b2 0)), (3, .ref o), (4, .int (nI (7 * i)))]) (hcs : cells + 4 ≤ 601024 ∧ slots + 24 ≤ 7293034) (hK : KO p l e s m b below meth c X b2 o i cells slots Q) : W p l e room_1 s m #[Value.ref b] below meth c H locs cells slots Q (F0 m 516 ls []) := by
  obtain ⟨k, v, N, w, n, hf, hg, ht, hv, hkk, hR'⟩ := ob_cell (p1 := (xs (7 * i + 1))) (p2 := (xs (7 * i + 2))) (p3 := (xs (7 * i + 3))) hR (by omega)
  refine lv_aload_n B.hx B.hb dL_law_516 rfl (lv_at hl 1 rfl) ?_
  refine lv_aload_n B.hx B.hb dL_law_517 rfl (lv_at hl 0 rfl) ?_
  refine lv_iload B.hx B.hb dL_law_518 (lv_at hl 4 rfl) ?_
  refine lv_iconst (v := 1) B.hx B.hb dL_law_520 (by decide) ?_
  refine lv_iadd B.hx B.hb dL_law_521 ?_
  refine l_sld (k := 7 * i + 1) B hX hbl hw (nI_add (7 * i) 1) (by omega) hL dL_law_522 ?_
  refine lv_aload_n B.hx B.hb dL_law_523 rfl (lv_at hl 0 rfl) ?_
  refine lv_iload B.hx B.hb dL_law_524 (lv_at hl 4 rfl) ?_
  refine lv_iconst (v := 2) B.hx B.hb dL_law_526 (by decide) ?_
  refine lv_iadd B.hx B.hb dL_law_527 ?_
  refine l_sld (k := 7 * i + 2) B hX hbl hw (nI_add (7 * i) 2) (by omega) hL dL_law_528 ?_
  refine lv_aload_n B.hx B.hb dL_law_529 rfl (lv_at hl 0 rfl) ?_
  refine lv_iload B.hx B.hb dL_law_530 (lv_at hl 4 rfl) ?_
  refine lv_iconst (v := 3) B.hx B.hb dL_law_532 (by decide) ?_
  refine lv_iadd B.hx B.hb dL_law_533 ?_
  refine l_sld (k := 7 * i + 3) B hX hbl hw (nI_add (7 * i) 3) (by omega) hL dL_law_534 ?_
  refine lv_aload_n B.hx B.hb dL_law_535 rfl (lv_at hl 3 rfl) ?_
  refine l_wrap (n := 5) (As := [.ref (X.2.2 0), .int (xs (7 * i + 1)), .int (xs (7 * i + 2)), .int (xs (7 * i + 3)), .ref o]) (rest := []) B hw (c_L_cell l hfl X o (xs (7 * i + 1)) (xs (7 * i + 2)) (xs (7 * i + 3)) M f (k, v, N) hf hkk _) (big_at 764 (by decide +kernel) (by decide +kernel)) (big_at 765 (by decide +kernel) (by decide +kernel)) (big_at 0 (by decide +kernel) (by decide +kernel)) (big_at 766 (by decide +kernel) (by decide +kernel)) ⟨by decide +kernel, by decide +kernel, by decide +kernel⟩ rfl hl.1 rfl rfl ⟨(Nat.le_of_ble_eq_true rfl), (Nat.le_of_ble_eq_true rfl)⟩ (Nat.le_of_ble_eq_true rfl) ⟨by show _ ≤ 601024; omega, by show _ ≤ 7293034; omega⟩ dL_law_536 rfl (fun g H locs hg0 hw => ?_)
  refine lv_istore (lv' := [(5, .int (nI (kmC k))), (0, .ref b), (1, .ref (X.2.2 0)), (2, .ref (b2 0)), (3, .ref o), (4, .int (nI (7 * i)))]) B.hx B.hb dL_law_539 hl (by decide) rfl (fun ls hl => ?_)
  refine lv_aload_n B.hx B.hb dL_law_541 rfl (lv_at hl 3 rfl) ?_
  refine lv_aload_n B.hx B.hb dL_law_542 rfl (lv_at hl 1 rfl) ?_
  refine lv_iload B.hx B.hb dL_law_543 (lv_at hl 5 rfl) ?_
  refine lv_iconst (v := 1) B.hx B.hb dL_law_545 (by decide) ?_
  refine lv_iadd B.hx B.hb dL_law_546 ?_
  refine l_sld (k := 7 * i + 1) B hX hbl hw (nI_add (7 * i) 1) (by omega) hL dL_law_547 ?_
  refine lv_aload_n B.hx B.hb dL_law_548 rfl (lv_at hl 1 rfl) ?_
  refine lv_iload B.hx B.hb dL_law_549 (lv_at hl 5 rfl) ?_
  refine lv_iconst (v := 2) B.hx B.hb dL_law_551 (by decide) ?_
  refine lv_iadd B.hx B.hb dL_law_552 ?_
  refine l_sld (k := 7 * i + 2) B hX hbl hw (nI_add (7 * i) 2) (by omega) hL dL_law_553 ?_
  refine lv_aload_n B.hx B.hb dL_law_554 rfl (lv_at hl 1 rfl) ?_
  refine lv_iload B.hx B.hb dL_law_555 (lv_at hl 5 rfl) ?_
  refine lv_iconst (v := 3) B.hx B.hb dL_law_557 (by decide) ?_
  refine lv_iadd B.hx B.hb dL_law_558 ?_
  refine l_sld (k := 7 * i + 3) B hX hbl hw (nI_add (7 * i) 3) (by omega) hL dL_law_559 ?_
  refine l_mod (As := [.int (xs (7 * i + 1)), .int (xs (7 * i + 2)), .int (xs (7 * i + 3))]) (rest := []) B hw (c_X11_cell l (X.1, X.2.1, b2) 5000 (xs (7 * i + 1)) (xs (7 * i + 2)) (xs (7 * i + 3)) m0 (w, n) hg _) cv_L_125 rfl rfl hl.1 rfl rfl ⟨(Nat.le_of_ble_eq_true rfl), (Nat.le_of_ble_eq_true rfl)⟩ (Nat.le_of_ble_eq_true rfl) ⟨by show _ ≤ 601024; omega, by show _ ≤ 7293034; omega⟩ dL_law_560 rfl (fun H locs hw => ?_)
  refine lv_istore (lv' := [(6, .int w), (5, .int (nI (kmC k))), (0, .ref b), (1, .ref (X.2.2 0)), (2, .ref (b2 0)), (3, .ref o), (4, .int (nI (7 * i)))]) B.hx B.hb dL_law_563 hl (by decide) rfl (fun ls hl => ?_)
  refine lv_aload_n B.hx B.hb dL_law_565 rfl (lv_at hl 4 rfl) ?_
  refine l_mod (As := []) (rest := []) B hw (c_X11_thrown l (X.1, X.2.1, b2) 5000 n (nI (kmC k)) (by rw [← ht]; rfl) _) cv_L_107 rfl rfl hl.1 rfl rfl ⟨(Nat.le_of_ble_eq_true rfl), (Nat.le_of_ble_eq_true rfl)⟩ (Nat.le_of_ble_eq_true rfl) ⟨by show _ ≤ 601024; omega, by show _ ≤ 7293034; omega⟩ dL_law_566 rfl (fun H locs hw => ?_)
  refine lv_iload B.hx B.hb dL_law_569 (lv_at hl 1 rfl) ?_
  refine lv_icmp_eq (tgt := 576) B.hx B.hb dL_law_571 (by decide) (fun _ => ?_) (fun c9 => absurd rfl c9)
  refine lv_iload B.hx B.hb dL_law_576 (lv_at hl 1 rfl) ?_
  refine lv_if_ne (tgt := 593) B.hx B.hb dL_law_578 (by decide) (fun c9 => ?_) (fun c9 => ?_)
  · refine lv_goto (tgt := 2116) B.hx B.hb dL_law_593 (by decide) ?_
    refine W.widen (k := cells + 4) (n := slots + 24) (by omega) (by omega) ?_
    exact hK _ _ _ _ _ _ hR' hw (lv_sub hl [2, 3, 4, 5, 6] rfl)
  · have hk0 := km0 hkk c9
    refine lv_aload_n B.hx B.hb dL_law_581 rfl (lv_at hl 5 rfl) ?_
    refine lv_iconst (v := 0) B.hx B.hb dL_law_582 (by decide) ?_
    refine l_lald B hw dL_law_583 ?_
    refine lv_iload B.hx B.hb dL_law_584 (lv_at hl 0 rfl) ?_
    refine lv_i2l (v := w.toInt64) B.hx B.hb dL_law_586 rfl ?_
    refine W.lcmp B.hx B.hb dL_law_587 ?_
    refine lv_if_eq (tgt := 593) B.hx B.hb dL_law_588 (by decide) (fun _ => ?_) (fun c9 => absurd ((by rw [hg0 hk0, hv hk0]; exact lg_self _)) c9)
    refine lv_goto (tgt := 2116) B.hx B.hb dL_law_593 (by decide) ?_
    refine W.widen (k := cells + 4) (n := slots + 24) (by omega) (by omega) ?_
    exact hK _ _ _ _ _ _ hR' hw (lv_sub hl [2, 3, 4, 5, 6] rfl)
set_option maxRecDepth 100000 in
set_option maxHeartbeats 4000000 in
theorem lw_k5 (l : Launch) (hfl : l.stackTraces = false) {p : Program} {e : Env} {s : State} {m : MethodId} {below : List Frame} {meth : Method} {c : Code} {H : Heap} {locs : List Loc} {cells slots : Nat} {Q : State → Prop} {X : XT} {b2 : Nat → Nat} {o b L i : Nat} {xs : Nat → Int32} {M m0 : Mem} {f : Nat → Int64} {ls : Array Slot} (B : CL X b2 o p s m #[Value.ref b] c) (hX : va_X b L xs s s.heap) (hbl : b < s.heap.size) (hL : L ≤ 3584) (hi : 7 * i + 7 ≤ L) (hR : RB i M m0) (hw : HL X b2 o M m0 f s H locs) (hl : lv_has ls 7 [(0, .ref b), (1, .ref (X.2.2 0)), (2, .ref (b2 0)), (3, .ref o), (4, .int (nI (7 * i)))]) (hcs : cells + 4 ≤ 601024 ∧ slots + 24 ≤ 7293034) (hK : KO p l e s m b below meth c X b2 o i cells slots Q) : W p l e room_1 s m #[Value.ref b] below meth c H locs cells slots Q (F0 m 596 ls []) := by
  obtain ⟨v, n, hf, hg, hR'⟩ := (ob_gets hR).1
  refine lv_aload_n B.hx B.hb dL_law_596 rfl (lv_at hl 1 rfl) ?_
  refine l_cls (As := []) (rest := []) B hw (c_X10_losses l X 5000 M v hf _) cv_L_126 rfl rfl hl.1 rfl rfl ⟨(Nat.le_of_ble_eq_true rfl), (Nat.le_of_ble_eq_true rfl)⟩ (Nat.le_of_ble_eq_true rfl) ⟨by show _ ≤ 601024; omega, by show _ ≤ 7293034; omega⟩ dL_law_597 rfl (fun H locs hw => ?_)
  refine lv_aload_n B.hx B.hb dL_law_600 rfl (lv_at hl 2 rfl) ?_
  refine l_mod (As := []) (rest := [.int v]) B hw (c_X11_losses l (X.1, X.2.1, b2) 5000 m0 (v, n) hg _) cv_L_129 rfl rfl hl.1 rfl rfl ⟨(Nat.le_of_ble_eq_true rfl), (Nat.le_of_ble_eq_true rfl)⟩ (Nat.le_of_ble_eq_true rfl) ⟨by show _ ≤ 601024; omega, by show _ ≤ 7293034; omega⟩ dL_law_601 rfl (fun H locs hw => ?_)
  refine lv_icmp_eq (tgt := 2116) B.hx B.hb dL_law_604 (by decide) (fun _ => ?_) (fun c9 => absurd rfl c9)
  refine W.widen (k := cells + 4) (n := slots + 24) (by omega) (by omega) ?_
  exact hK _ _ _ _ _ _ hR' hw (lv_sub hl [0, 1, 2, 3, 4] rfl)
set_option maxRecDepth 100000 in
set_option maxHeartbeats 4000000 in
theorem lw_k6 (l : Launch) (hfl : l.stackTraces = false) {p : Program} {e : Env} {s : State} {m : MethodId} {below : List Frame} {meth : Method} {c : Code} {H : Heap} {locs : List Loc} {cells slots : Nat} {Q : State → Prop} {X : XT} {b2 : Nat → Nat} {o b L i : Nat} {xs : Nat → Int32} {M m0 : Mem} {f : Nat → Int64} {ls : Array Slot} (B : CL X b2 o p s m #[Value.ref b] c) (hX : va_X b L xs s s.heap) (hbl : b < s.heap.size) (hL : L ≤ 3584) (hi : 7 * i + 7 ≤ L) (hR : RB i M m0) (hw : HL X b2 o M m0 f s H locs) (hl : lv_has ls 7 [(0, .ref b), (1, .ref (X.2.2 0)), (2, .ref (b2 0)), (3, .ref o), (4, .int (nI (7 * i)))]) (hcs : cells + 4 ≤ 601024 ∧ slots + 24 ≤ 7293034) (hK : KO p l e s m b below meth c X b2 o i cells slots Q) : W p l e room_1 s m #[Value.ref b] below meth c H locs cells slots Q (F0 m 609 ls []) := by
  obtain ⟨v, n, hf, hg, hR'⟩ := (ob_gets hR).2.1
  refine lv_aload_n B.hx B.hb dL_law_609 rfl (lv_at hl 1 rfl) ?_
  refine l_cls (As := []) (rest := []) B hw (c_X10_moment l X 5000 M v hf _) cv_L_130 rfl rfl hl.1 rfl rfl ⟨(Nat.le_of_ble_eq_true rfl), (Nat.le_of_ble_eq_true rfl)⟩ (Nat.le_of_ble_eq_true rfl) ⟨by show _ ≤ 601024; omega, by show _ ≤ 7293034; omega⟩ dL_law_610 rfl (fun H locs hw => ?_)
  refine lv_aload_n B.hx B.hb dL_law_613 rfl (lv_at hl 2 rfl) ?_
  refine l_mod (As := []) (rest := [.int v]) B hw (c_X11_moment l (X.1, X.2.1, b2) 5000 m0 (v, n) hg _) cv_L_133 rfl rfl hl.1 rfl rfl ⟨(Nat.le_of_ble_eq_true rfl), (Nat.le_of_ble_eq_true rfl)⟩ (Nat.le_of_ble_eq_true rfl) ⟨by show _ ≤ 601024; omega, by show _ ≤ 7293034; omega⟩ dL_law_614 rfl (fun H locs hw => ?_)
  refine lv_icmp_eq (tgt := 2116) B.hx B.hb dL_law_617 (by decide) (fun _ => ?_) (fun c9 => absurd rfl c9)
  refine W.widen (k := cells + 4) (n := slots + 24) (by omega) (by omega) ?_
  exact hK _ _ _ _ _ _ hR' hw (lv_sub hl [0, 1, 2, 3, 4] rfl)
set_option maxRecDepth 100000 in
set_option maxHeartbeats 4000000 in
theorem lw_k7 (l : Launch) (hfl : l.stackTraces = false) {p : Program} {e : Env} {s : State} {m : MethodId} {below : List Frame} {meth : Method} {c : Code} {H : Heap} {locs : List Loc} {cells slots : Nat} {Q : State → Prop} {X : XT} {b2 : Nat → Nat} {o b L i : Nat} {xs : Nat → Int32} {M m0 : Mem} {f : Nat → Int64} {ls : Array Slot} (B : CL X b2 o p s m #[Value.ref b] c) (hX : va_X b L xs s s.heap) (hbl : b < s.heap.size) (hL : L ≤ 3584) (hi : 7 * i + 7 ≤ L) (hR : RB i M m0) (hw : HL X b2 o M m0 f s H locs) (hl : lv_has ls 7 [(0, .ref b), (1, .ref (X.2.2 0)), (2, .ref (b2 0)), (3, .ref o), (4, .int (nI (7 * i)))]) (hcs : cells + 4 ≤ 601024 ∧ slots + 24 ≤ 7293034) (hK : KO p l e s m b below meth c X b2 o i cells slots Q) : W p l e room_1 s m #[Value.ref b] below meth c H locs cells slots Q (F0 m 622 ls []) := by
  obtain ⟨k, v, N, w, n, hf, hg, ht, hv, hkk, hR'⟩ := ob_setPace (p1 := (xs (7 * i + 1))) (p2 := (xs (7 * i + 2))) (p3 := (xs (7 * i + 3))) hR (by omega)
  refine lv_aload_n B.hx B.hb dL_law_622 rfl (lv_at hl 1 rfl) ?_
  refine lv_aload_n B.hx B.hb dL_law_623 rfl (lv_at hl 0 rfl) ?_
  refine lv_iload B.hx B.hb dL_law_624 (lv_at hl 4 rfl) ?_
  refine lv_iconst (v := 1) B.hx B.hb dL_law_626 (by decide) ?_
  refine lv_iadd B.hx B.hb dL_law_627 ?_
  refine l_sld (k := 7 * i + 1) B hX hbl hw (nI_add (7 * i) 1) (by omega) hL dL_law_628 ?_
  refine lv_aload_n B.hx B.hb dL_law_629 rfl (lv_at hl 0 rfl) ?_
  refine lv_iload B.hx B.hb dL_law_630 (lv_at hl 4 rfl) ?_
  refine lv_iconst (v := 2) B.hx B.hb dL_law_632 (by decide) ?_
  refine lv_iadd B.hx B.hb dL_law_633 ?_
  refine l_sld (k := 7 * i + 2) B hX hbl hw (nI_add (7 * i) 2) (by omega) hL dL_law_634 ?_
  refine lv_aload_n B.hx B.hb dL_law_635 rfl (lv_at hl 0 rfl) ?_
  refine lv_iload B.hx B.hb dL_law_636 (lv_at hl 4 rfl) ?_
  refine lv_iconst (v := 3) B.hx B.hb dL_law_638 (by decide) ?_
  refine lv_iadd B.hx B.hb dL_law_639 ?_
  refine l_sld (k := 7 * i + 3) B hX hbl hw (nI_add (7 * i) 3) (by omega) hL dL_law_640 ?_
  refine lv_aload_n B.hx B.hb dL_law_641 rfl (lv_at hl 3 rfl) ?_
  refine l_wrap (n := 5) (As := [.ref (X.2.2 0), .int (xs (7 * i + 1)), .int (xs (7 * i + 2)), .int (xs (7 * i + 3)), .ref o]) (rest := []) B hw (c_L_setPace l hfl X o (xs (7 * i + 1)) (xs (7 * i + 2)) (xs (7 * i + 3)) M f (k, v, N) hf hkk _) (big_at 773 (by decide +kernel) (by decide +kernel)) (big_at 774 (by decide +kernel) (by decide +kernel)) (big_at 0 (by decide +kernel) (by decide +kernel)) (big_at 775 (by decide +kernel) (by decide +kernel)) ⟨by decide +kernel, by decide +kernel, by decide +kernel⟩ rfl hl.1 rfl rfl ⟨(Nat.le_of_ble_eq_true rfl), (Nat.le_of_ble_eq_true rfl)⟩ (Nat.le_of_ble_eq_true rfl) ⟨by show _ ≤ 601024; omega, by show _ ≤ 7293034; omega⟩ dL_law_642 rfl (fun g H locs hg0 hw => ?_)
  refine lv_istore (lv' := [(5, .int (nI (kmB k))), (0, .ref b), (1, .ref (X.2.2 0)), (2, .ref (b2 0)), (3, .ref o), (4, .int (nI (7 * i)))]) B.hx B.hb dL_law_645 hl (by decide) rfl (fun ls hl => ?_)
  refine lv_aload_n B.hx B.hb dL_law_647 rfl (lv_at hl 3 rfl) ?_
  refine lv_aload_n B.hx B.hb dL_law_648 rfl (lv_at hl 1 rfl) ?_
  refine lv_iload B.hx B.hb dL_law_649 (lv_at hl 5 rfl) ?_
  refine lv_iconst (v := 1) B.hx B.hb dL_law_651 (by decide) ?_
  refine lv_iadd B.hx B.hb dL_law_652 ?_
  refine l_sld (k := 7 * i + 1) B hX hbl hw (nI_add (7 * i) 1) (by omega) hL dL_law_653 ?_
  refine lv_aload_n B.hx B.hb dL_law_654 rfl (lv_at hl 1 rfl) ?_
  refine lv_iload B.hx B.hb dL_law_655 (lv_at hl 5 rfl) ?_
  refine lv_iconst (v := 2) B.hx B.hb dL_law_657 (by decide) ?_
  refine lv_iadd B.hx B.hb dL_law_658 ?_
  refine l_sld (k := 7 * i + 2) B hX hbl hw (nI_add (7 * i) 2) (by omega) hL dL_law_659 ?_
  refine lv_aload_n B.hx B.hb dL_law_660 rfl (lv_at hl 1 rfl) ?_
  refine lv_iload B.hx B.hb dL_law_661 (lv_at hl 5 rfl) ?_
  refine lv_iconst (v := 3) B.hx B.hb dL_law_663 (by decide) ?_
  refine lv_iadd B.hx B.hb dL_law_664 ?_
  refine l_sld (k := 7 * i + 3) B hX hbl hw (nI_add (7 * i) 3) (by omega) hL dL_law_665 ?_
  refine l_mod (As := [.int (xs (7 * i + 1)), .int (xs (7 * i + 2)), .int (xs (7 * i + 3))]) (rest := []) B hw (c_X11_setPace l (X.1, X.2.1, b2) 5000 (xs (7 * i + 1)) (xs (7 * i + 2)) (xs (7 * i + 3)) m0 (w, n) hg _) cv_L_136 rfl rfl hl.1 rfl rfl ⟨(Nat.le_of_ble_eq_true rfl), (Nat.le_of_ble_eq_true rfl)⟩ (Nat.le_of_ble_eq_true rfl) ⟨by show _ ≤ 601024; omega, by show _ ≤ 7293034; omega⟩ dL_law_666 rfl (fun H locs hw => ?_)
  refine lv_istore (lv' := [(6, .int w), (5, .int (nI (kmB k))), (0, .ref b), (1, .ref (X.2.2 0)), (2, .ref (b2 0)), (3, .ref o), (4, .int (nI (7 * i)))]) B.hx B.hb dL_law_669 hl (by decide) rfl (fun ls hl => ?_)
  refine lv_aload_n B.hx B.hb dL_law_671 rfl (lv_at hl 4 rfl) ?_
  refine l_mod (As := []) (rest := []) B hw (c_X11_thrown l (X.1, X.2.1, b2) 5000 n (nI (kmB k)) (by rw [← ht]; rfl) _) cv_L_107 rfl rfl hl.1 rfl rfl ⟨(Nat.le_of_ble_eq_true rfl), (Nat.le_of_ble_eq_true rfl)⟩ (Nat.le_of_ble_eq_true rfl) ⟨by show _ ≤ 601024; omega, by show _ ≤ 7293034; omega⟩ dL_law_672 rfl (fun H locs hw => ?_)
  refine lv_iload B.hx B.hb dL_law_675 (lv_at hl 1 rfl) ?_
  refine lv_icmp_eq (tgt := 682) B.hx B.hb dL_law_677 (by decide) (fun _ => ?_) (fun c9 => absurd rfl c9)
  refine lv_iload B.hx B.hb dL_law_682 (lv_at hl 1 rfl) ?_
  refine lv_if_ne (tgt := 699) B.hx B.hb dL_law_684 (by decide) (fun c9 => ?_) (fun c9 => ?_)
  · refine lv_goto (tgt := 2116) B.hx B.hb dL_law_699 (by decide) ?_
    refine W.widen (k := cells + 4) (n := slots + 24) (by omega) (by omega) ?_
    exact hK _ _ _ _ _ _ hR' hw (lv_sub hl [2, 3, 4, 5, 6] rfl)
  · have hk0 := km0 hkk c9
    refine lv_aload_n B.hx B.hb dL_law_687 rfl (lv_at hl 5 rfl) ?_
    refine lv_iconst (v := 0) B.hx B.hb dL_law_688 (by decide) ?_
    refine l_lald B hw dL_law_689 ?_
    refine lv_iload B.hx B.hb dL_law_690 (lv_at hl 0 rfl) ?_
    refine lv_i2l (v := w.toInt64) B.hx B.hb dL_law_692 rfl ?_
    refine W.lcmp B.hx B.hb dL_law_693 ?_
    refine lv_if_eq (tgt := 699) B.hx B.hb dL_law_694 (by decide) (fun _ => ?_) (fun c9 => absurd ((by rw [hg0 hk0, hv hk0]; exact lg_self _)) c9)
    refine lv_goto (tgt := 2116) B.hx B.hb dL_law_699 (by decide) ?_
    refine W.widen (k := cells + 4) (n := slots + 24) (by omega) (by omega) ?_
    exact hK _ _ _ _ _ _ hR' hw (lv_sub hl [2, 3, 4, 5, 6] rfl)
set_option maxRecDepth 100000 in
set_option maxHeartbeats 4000000 in
theorem lw_k8 (l : Launch) (hfl : l.stackTraces = false) {p : Program} {e : Env} {s : State} {m : MethodId} {below : List Frame} {meth : Method} {c : Code} {H : Heap} {locs : List Loc} {cells slots : Nat} {Q : State → Prop} {X : XT} {b2 : Nat → Nat} {o b L i : Nat} {xs : Nat → Int32} {M m0 : Mem} {f : Nat → Int64} {ls : Array Slot} (B : CL X b2 o p s m #[Value.ref b] c) (hX : va_X b L xs s s.heap) (hbl : b < s.heap.size) (hL : L ≤ 3584) (hi : 7 * i + 7 ≤ L) (hR : RB i M m0) (hw : HL X b2 o M m0 f s H locs) (hl : lv_has ls 7 [(0, .ref b), (1, .ref (X.2.2 0)), (2, .ref (b2 0)), (3, .ref o), (4, .int (nI (7 * i)))]) (hcs : cells + 4 ≤ 601024 ∧ slots + 24 ≤ 7293034) (hK : KO p l e s m b below meth c X b2 o i cells slots Q) : W p l e room_1 s m #[Value.ref b] below meth c H locs cells slots Q (F0 m 702 ls []) := by
  obtain ⟨k, v, N, w, n, hf, hg, ht, hv, hkk, hR'⟩ := ob_setBounds (p1 := (xs (7 * i + 1))) (p2 := (xs (7 * i + 2))) (p3 := (xs (7 * i + 3))) hR (by omega)
  refine lv_aload_n B.hx B.hb dL_law_702 rfl (lv_at hl 1 rfl) ?_
  refine lv_aload_n B.hx B.hb dL_law_703 rfl (lv_at hl 0 rfl) ?_
  refine lv_iload B.hx B.hb dL_law_704 (lv_at hl 4 rfl) ?_
  refine lv_iconst (v := 1) B.hx B.hb dL_law_706 (by decide) ?_
  refine lv_iadd B.hx B.hb dL_law_707 ?_
  refine l_sld (k := 7 * i + 1) B hX hbl hw (nI_add (7 * i) 1) (by omega) hL dL_law_708 ?_
  refine lv_aload_n B.hx B.hb dL_law_709 rfl (lv_at hl 0 rfl) ?_
  refine lv_iload B.hx B.hb dL_law_710 (lv_at hl 4 rfl) ?_
  refine lv_iconst (v := 2) B.hx B.hb dL_law_712 (by decide) ?_
  refine lv_iadd B.hx B.hb dL_law_713 ?_
  refine l_sld (k := 7 * i + 2) B hX hbl hw (nI_add (7 * i) 2) (by omega) hL dL_law_714 ?_
  refine lv_aload_n B.hx B.hb dL_law_715 rfl (lv_at hl 0 rfl) ?_
  refine lv_iload B.hx B.hb dL_law_716 (lv_at hl 4 rfl) ?_
  refine lv_iconst (v := 3) B.hx B.hb dL_law_718 (by decide) ?_
  refine lv_iadd B.hx B.hb dL_law_719 ?_
  refine l_sld (k := 7 * i + 3) B hX hbl hw (nI_add (7 * i) 3) (by omega) hL dL_law_720 ?_
  refine lv_aload_n B.hx B.hb dL_law_721 rfl (lv_at hl 3 rfl) ?_
  refine l_wrap (n := 5) (As := [.ref (X.2.2 0), .int (xs (7 * i + 1)), .int (xs (7 * i + 2)), .int (xs (7 * i + 3)), .ref o]) (rest := []) B hw (c_L_setBounds l hfl X o (xs (7 * i + 1)) (xs (7 * i + 2)) (xs (7 * i + 3)) M f (k, v, N) hf hkk _) (big_at 780 (by decide +kernel) (by decide +kernel)) (big_at 781 (by decide +kernel) (by decide +kernel)) (big_at 0 (by decide +kernel) (by decide +kernel)) (big_at 782 (by decide +kernel) (by decide +kernel)) ⟨by decide +kernel, by decide +kernel, by decide +kernel⟩ rfl hl.1 rfl rfl ⟨(Nat.le_of_ble_eq_true rfl), (Nat.le_of_ble_eq_true rfl)⟩ (Nat.le_of_ble_eq_true rfl) ⟨by show _ ≤ 601024; omega, by show _ ≤ 7293034; omega⟩ dL_law_722 rfl (fun g H locs hg0 hw => ?_)
  refine lv_istore (lv' := [(5, .int (nI (kmB k))), (0, .ref b), (1, .ref (X.2.2 0)), (2, .ref (b2 0)), (3, .ref o), (4, .int (nI (7 * i)))]) B.hx B.hb dL_law_725 hl (by decide) rfl (fun ls hl => ?_)
  refine lv_aload_n B.hx B.hb dL_law_727 rfl (lv_at hl 3 rfl) ?_
  refine lv_aload_n B.hx B.hb dL_law_728 rfl (lv_at hl 1 rfl) ?_
  refine lv_iload B.hx B.hb dL_law_729 (lv_at hl 5 rfl) ?_
  refine lv_iconst (v := 1) B.hx B.hb dL_law_731 (by decide) ?_
  refine lv_iadd B.hx B.hb dL_law_732 ?_
  refine l_sld (k := 7 * i + 1) B hX hbl hw (nI_add (7 * i) 1) (by omega) hL dL_law_733 ?_
  refine lv_aload_n B.hx B.hb dL_law_734 rfl (lv_at hl 1 rfl) ?_
  refine lv_iload B.hx B.hb dL_law_735 (lv_at hl 5 rfl) ?_
  refine lv_iconst (v := 2) B.hx B.hb dL_law_737 (by decide) ?_
  refine lv_iadd B.hx B.hb dL_law_738 ?_
  refine l_sld (k := 7 * i + 2) B hX hbl hw (nI_add (7 * i) 2) (by omega) hL dL_law_739 ?_
  refine lv_aload_n B.hx B.hb dL_law_740 rfl (lv_at hl 1 rfl) ?_
  refine lv_iload B.hx B.hb dL_law_741 (lv_at hl 5 rfl) ?_
  refine lv_iconst (v := 3) B.hx B.hb dL_law_743 (by decide) ?_
  refine lv_iadd B.hx B.hb dL_law_744 ?_
  refine l_sld (k := 7 * i + 3) B hX hbl hw (nI_add (7 * i) 3) (by omega) hL dL_law_745 ?_
  refine l_mod (As := [.int (xs (7 * i + 1)), .int (xs (7 * i + 2)), .int (xs (7 * i + 3))]) (rest := []) B hw (c_X11_setBounds l (X.1, X.2.1, b2) 5000 (xs (7 * i + 1)) (xs (7 * i + 2)) (xs (7 * i + 3)) m0 (w, n) hg _) cv_L_139 rfl rfl hl.1 rfl rfl ⟨(Nat.le_of_ble_eq_true rfl), (Nat.le_of_ble_eq_true rfl)⟩ (Nat.le_of_ble_eq_true rfl) ⟨by show _ ≤ 601024; omega, by show _ ≤ 7293034; omega⟩ dL_law_746 rfl (fun H locs hw => ?_)
  refine lv_istore (lv' := [(6, .int w), (5, .int (nI (kmB k))), (0, .ref b), (1, .ref (X.2.2 0)), (2, .ref (b2 0)), (3, .ref o), (4, .int (nI (7 * i)))]) B.hx B.hb dL_law_749 hl (by decide) rfl (fun ls hl => ?_)
  refine lv_aload_n B.hx B.hb dL_law_751 rfl (lv_at hl 4 rfl) ?_
  refine l_mod (As := []) (rest := []) B hw (c_X11_thrown l (X.1, X.2.1, b2) 5000 n (nI (kmB k)) (by rw [← ht]; rfl) _) cv_L_107 rfl rfl hl.1 rfl rfl ⟨(Nat.le_of_ble_eq_true rfl), (Nat.le_of_ble_eq_true rfl)⟩ (Nat.le_of_ble_eq_true rfl) ⟨by show _ ≤ 601024; omega, by show _ ≤ 7293034; omega⟩ dL_law_752 rfl (fun H locs hw => ?_)
  refine lv_iload B.hx B.hb dL_law_755 (lv_at hl 1 rfl) ?_
  refine lv_icmp_eq (tgt := 762) B.hx B.hb dL_law_757 (by decide) (fun _ => ?_) (fun c9 => absurd rfl c9)
  refine lv_iload B.hx B.hb dL_law_762 (lv_at hl 1 rfl) ?_
  refine lv_if_ne (tgt := 779) B.hx B.hb dL_law_764 (by decide) (fun c9 => ?_) (fun c9 => ?_)
  · refine lv_goto (tgt := 2116) B.hx B.hb dL_law_779 (by decide) ?_
    refine W.widen (k := cells + 4) (n := slots + 24) (by omega) (by omega) ?_
    exact hK _ _ _ _ _ _ hR' hw (lv_sub hl [2, 3, 4, 5, 6] rfl)
  · have hk0 := km0 hkk c9
    refine lv_aload_n B.hx B.hb dL_law_767 rfl (lv_at hl 5 rfl) ?_
    refine lv_iconst (v := 0) B.hx B.hb dL_law_768 (by decide) ?_
    refine l_lald B hw dL_law_769 ?_
    refine lv_iload B.hx B.hb dL_law_770 (lv_at hl 0 rfl) ?_
    refine lv_i2l (v := w.toInt64) B.hx B.hb dL_law_772 rfl ?_
    refine W.lcmp B.hx B.hb dL_law_773 ?_
    refine lv_if_eq (tgt := 779) B.hx B.hb dL_law_774 (by decide) (fun _ => ?_) (fun c9 => absurd ((by rw [hg0 hk0, hv hk0]; exact lg_self _)) c9)
    refine lv_goto (tgt := 2116) B.hx B.hb dL_law_779 (by decide) ?_
    refine W.widen (k := cells + 4) (n := slots + 24) (by omega) (by omega) ?_
    exact hK _ _ _ _ _ _ hR' hw (lv_sub hl [2, 3, 4, 5, 6] rfl)
set_option maxRecDepth 100000 in
set_option maxHeartbeats 4000000 in
theorem lw_k9 (l : Launch) (hfl : l.stackTraces = false) {p : Program} {e : Env} {s : State} {m : MethodId} {below : List Frame} {meth : Method} {c : Code} {H : Heap} {locs : List Loc} {cells slots : Nat} {Q : State → Prop} {X : XT} {b2 : Nat → Nat} {o b L i : Nat} {xs : Nat → Int32} {M m0 : Mem} {f : Nat → Int64} {ls : Array Slot} (B : CL X b2 o p s m #[Value.ref b] c) (hX : va_X b L xs s s.heap) (hbl : b < s.heap.size) (hL : L ≤ 3584) (hi : 7 * i + 7 ≤ L) (hR : RB i M m0) (hw : HL X b2 o M m0 f s H locs) (hl : lv_has ls 7 [(0, .ref b), (1, .ref (X.2.2 0)), (2, .ref (b2 0)), (3, .ref o), (4, .int (nI (7 * i)))]) (hcs : cells + 4 ≤ 601024 ∧ slots + 24 ≤ 7293034) (hK : KO p l e s m b below meth c X b2 o i cells slots Q) : W p l e room_1 s m #[Value.ref b] below meth c H locs cells slots Q (F0 m 782 ls []) := by
  obtain ⟨k, v, N, w, n, hf, hg, ht, hv, hkk, hR'⟩ := ob_setLease (p1 := (xs (7 * i + 1))) (p2 := (xs (7 * i + 2))) hR (by omega)
  refine lv_aload_n B.hx B.hb dL_law_782 rfl (lv_at hl 1 rfl) ?_
  refine lv_aload_n B.hx B.hb dL_law_783 rfl (lv_at hl 0 rfl) ?_
  refine lv_iload B.hx B.hb dL_law_784 (lv_at hl 4 rfl) ?_
  refine lv_iconst (v := 1) B.hx B.hb dL_law_786 (by decide) ?_
  refine lv_iadd B.hx B.hb dL_law_787 ?_
  refine l_sld (k := 7 * i + 1) B hX hbl hw (nI_add (7 * i) 1) (by omega) hL dL_law_788 ?_
  refine lv_aload_n B.hx B.hb dL_law_789 rfl (lv_at hl 0 rfl) ?_
  refine lv_iload B.hx B.hb dL_law_790 (lv_at hl 4 rfl) ?_
  refine lv_iconst (v := 2) B.hx B.hb dL_law_792 (by decide) ?_
  refine lv_iadd B.hx B.hb dL_law_793 ?_
  refine l_sld (k := 7 * i + 2) B hX hbl hw (nI_add (7 * i) 2) (by omega) hL dL_law_794 ?_
  refine lv_aload_n B.hx B.hb dL_law_795 rfl (lv_at hl 3 rfl) ?_
  refine l_wrap (n := 4) (As := [.ref (X.2.2 0), .int (xs (7 * i + 1)), .int (xs (7 * i + 2)), .ref o]) (rest := []) B hw (c_L_setLease l hfl X o (xs (7 * i + 1)) (xs (7 * i + 2)) M f (k, v, N) hf hkk _) (big_at 787 (by decide +kernel) (by decide +kernel)) (big_at 788 (by decide +kernel) (by decide +kernel)) (big_at 0 (by decide +kernel) (by decide +kernel)) (big_at 789 (by decide +kernel) (by decide +kernel)) ⟨by decide +kernel, by decide +kernel, by decide +kernel⟩ rfl hl.1 rfl rfl ⟨(Nat.le_of_ble_eq_true rfl), (Nat.le_of_ble_eq_true rfl)⟩ (Nat.le_of_ble_eq_true rfl) ⟨by show _ ≤ 601024; omega, by show _ ≤ 7293034; omega⟩ dL_law_796 rfl (fun g H locs hg0 hw => ?_)
  refine lv_istore (lv' := [(5, .int (nI (kmB k))), (0, .ref b), (1, .ref (X.2.2 0)), (2, .ref (b2 0)), (3, .ref o), (4, .int (nI (7 * i)))]) B.hx B.hb dL_law_799 hl (by decide) rfl (fun ls hl => ?_)
  refine lv_aload_n B.hx B.hb dL_law_801 rfl (lv_at hl 3 rfl) ?_
  refine lv_aload_n B.hx B.hb dL_law_802 rfl (lv_at hl 1 rfl) ?_
  refine lv_iload B.hx B.hb dL_law_803 (lv_at hl 5 rfl) ?_
  refine lv_iconst (v := 1) B.hx B.hb dL_law_805 (by decide) ?_
  refine lv_iadd B.hx B.hb dL_law_806 ?_
  refine l_sld (k := 7 * i + 1) B hX hbl hw (nI_add (7 * i) 1) (by omega) hL dL_law_807 ?_
  refine lv_aload_n B.hx B.hb dL_law_808 rfl (lv_at hl 1 rfl) ?_
  refine lv_iload B.hx B.hb dL_law_809 (lv_at hl 5 rfl) ?_
  refine lv_iconst (v := 2) B.hx B.hb dL_law_811 (by decide) ?_
  refine lv_iadd B.hx B.hb dL_law_812 ?_
  refine l_sld (k := 7 * i + 2) B hX hbl hw (nI_add (7 * i) 2) (by omega) hL dL_law_813 ?_
  refine l_mod (As := [.int (xs (7 * i + 1)), .int (xs (7 * i + 2))]) (rest := []) B hw (c_X11_setLease l (X.1, X.2.1, b2) 5000 (xs (7 * i + 1)) (xs (7 * i + 2)) m0 (w, n) hg _) cv_L_142 rfl rfl hl.1 rfl rfl ⟨(Nat.le_of_ble_eq_true rfl), (Nat.le_of_ble_eq_true rfl)⟩ (Nat.le_of_ble_eq_true rfl) ⟨by show _ ≤ 601024; omega, by show _ ≤ 7293034; omega⟩ dL_law_814 rfl (fun H locs hw => ?_)
  refine lv_istore (lv' := [(6, .int w), (5, .int (nI (kmB k))), (0, .ref b), (1, .ref (X.2.2 0)), (2, .ref (b2 0)), (3, .ref o), (4, .int (nI (7 * i)))]) B.hx B.hb dL_law_817 hl (by decide) rfl (fun ls hl => ?_)
  refine lv_aload_n B.hx B.hb dL_law_819 rfl (lv_at hl 4 rfl) ?_
  refine l_mod (As := []) (rest := []) B hw (c_X11_thrown l (X.1, X.2.1, b2) 5000 n (nI (kmB k)) (by rw [← ht]; rfl) _) cv_L_107 rfl rfl hl.1 rfl rfl ⟨(Nat.le_of_ble_eq_true rfl), (Nat.le_of_ble_eq_true rfl)⟩ (Nat.le_of_ble_eq_true rfl) ⟨by show _ ≤ 601024; omega, by show _ ≤ 7293034; omega⟩ dL_law_820 rfl (fun H locs hw => ?_)
  refine lv_iload B.hx B.hb dL_law_823 (lv_at hl 1 rfl) ?_
  refine lv_icmp_eq (tgt := 830) B.hx B.hb dL_law_825 (by decide) (fun _ => ?_) (fun c9 => absurd rfl c9)
  refine lv_iload B.hx B.hb dL_law_830 (lv_at hl 1 rfl) ?_
  refine lv_if_ne (tgt := 847) B.hx B.hb dL_law_832 (by decide) (fun c9 => ?_) (fun c9 => ?_)
  · refine lv_goto (tgt := 2116) B.hx B.hb dL_law_847 (by decide) ?_
    refine W.widen (k := cells + 4) (n := slots + 24) (by omega) (by omega) ?_
    exact hK _ _ _ _ _ _ hR' hw (lv_sub hl [2, 3, 4, 5, 6] rfl)
  · have hk0 := km0 hkk c9
    refine lv_aload_n B.hx B.hb dL_law_835 rfl (lv_at hl 5 rfl) ?_
    refine lv_iconst (v := 0) B.hx B.hb dL_law_836 (by decide) ?_
    refine l_lald B hw dL_law_837 ?_
    refine lv_iload B.hx B.hb dL_law_838 (lv_at hl 0 rfl) ?_
    refine lv_i2l (v := w.toInt64) B.hx B.hb dL_law_840 rfl ?_
    refine W.lcmp B.hx B.hb dL_law_841 ?_
    refine lv_if_eq (tgt := 847) B.hx B.hb dL_law_842 (by decide) (fun _ => ?_) (fun c9 => absurd ((by rw [hg0 hk0, hv hk0]; exact lg_self _)) c9)
    refine lv_goto (tgt := 2116) B.hx B.hb dL_law_847 (by decide) ?_
    refine W.widen (k := cells + 4) (n := slots + 24) (by omega) (by omega) ?_
    exact hK _ _ _ _ _ _ hR' hw (lv_sub hl [2, 3, 4, 5, 6] rfl)
set_option maxRecDepth 100000 in
set_option maxHeartbeats 4000000 in
theorem lw_k10 (l : Launch) (hfl : l.stackTraces = false) {p : Program} {e : Env} {s : State} {m : MethodId} {below : List Frame} {meth : Method} {c : Code} {H : Heap} {locs : List Loc} {cells slots : Nat} {Q : State → Prop} {X : XT} {b2 : Nat → Nat} {o b L i : Nat} {xs : Nat → Int32} {M m0 : Mem} {f : Nat → Int64} {ls : Array Slot} (B : CL X b2 o p s m #[Value.ref b] c) (hX : va_X b L xs s s.heap) (hbl : b < s.heap.size) (hL : L ≤ 3584) (hi : 7 * i + 7 ≤ L) (hR : RB i M m0) (hw : HL X b2 o M m0 f s H locs) (hl : lv_has ls 7 [(0, .ref b), (1, .ref (X.2.2 0)), (2, .ref (b2 0)), (3, .ref o), (4, .int (nI (7 * i)))]) (hcs : cells + 4 ≤ 601024 ∧ slots + 24 ≤ 7293034) (hK : KO p l e s m b below meth c X b2 o i cells slots Q) : W p l e room_1 s m #[Value.ref b] below meth c H locs cells slots Q (F0 m 850 ls []) := by
  by_cases hz : xs (7 * i + 3) = 0
  · obtain ⟨k, v, N, w, n, hf, hg, ht, hv, hkk, hR'⟩ := ob_fail (p1 := (xs (7 * i + 1))) (p2 := (xs (7 * i + 2))) (p3 := 0) hR (by omega) (by decide)
    refine lv_aload_n B.hx B.hb dL_law_850 rfl (lv_at hl 1 rfl) ?_
    refine lv_aload_n B.hx B.hb dL_law_851 rfl (lv_at hl 0 rfl) ?_
    refine lv_iload B.hx B.hb dL_law_852 (lv_at hl 4 rfl) ?_
    refine lv_iconst (v := 1) B.hx B.hb dL_law_854 (by decide) ?_
    refine lv_iadd B.hx B.hb dL_law_855 ?_
    refine l_sld (k := 7 * i + 1) B hX hbl hw (nI_add (7 * i) 1) (by omega) hL dL_law_856 ?_
    refine lv_aload_n B.hx B.hb dL_law_857 rfl (lv_at hl 0 rfl) ?_
    refine lv_iload B.hx B.hb dL_law_858 (lv_at hl 4 rfl) ?_
    refine lv_iconst (v := 2) B.hx B.hb dL_law_860 (by decide) ?_
    refine lv_iadd B.hx B.hb dL_law_861 ?_
    refine l_sld (k := 7 * i + 2) B hX hbl hw (nI_add (7 * i) 2) (by omega) hL dL_law_862 ?_
    refine lv_aload_n B.hx B.hb dL_law_863 rfl (lv_at hl 0 rfl) ?_
    refine lv_iload B.hx B.hb dL_law_864 (lv_at hl 4 rfl) ?_
    refine lv_iconst (v := 3) B.hx B.hb dL_law_866 (by decide) ?_
    refine lv_iadd B.hx B.hb dL_law_867 ?_
    refine l_sld (k := 7 * i + 3) B hX hbl hw (nI_add (7 * i) 3) (by omega) hL dL_law_868 ?_
    refine lv_if_eq (tgt := 876) B.hx B.hb dL_law_869 (by decide) (fun _ => ?_) (fun c9 => absurd hz c9)
    refine lv_iconst (v := 0) B.hx B.hb dL_law_876 (by decide) ?_
    refine lv_aload_n B.hx B.hb dL_law_877 rfl (lv_at hl 3 rfl) ?_
    refine l_wrap (n := 5) (As := [.ref (X.2.2 0), .int (xs (7 * i + 1)), .int (xs (7 * i + 2)), .int 0, .ref o]) (rest := []) B hw (c_L_fail l hfl X o (xs (7 * i + 1)) (xs (7 * i + 2)) 0 M f (k, v, N) hf hkk _) (big_at 795 (by decide +kernel) (by decide +kernel)) (big_at 796 (by decide +kernel) (by decide +kernel)) (big_at 0 (by decide +kernel) (by decide +kernel)) (big_at 797 (by decide +kernel) (by decide +kernel)) ⟨by decide +kernel, by decide +kernel, by decide +kernel⟩ rfl hl.1 rfl rfl ⟨(Nat.le_of_ble_eq_true rfl), (Nat.le_of_ble_eq_true rfl)⟩ (Nat.le_of_ble_eq_true rfl) ⟨by show _ ≤ 601024; omega, by show _ ≤ 7293034; omega⟩ dL_law_878 rfl (fun g H locs hg0 hw => ?_)
    refine lv_istore (lv' := [(5, .int (nI (kmB k))), (0, .ref b), (1, .ref (X.2.2 0)), (2, .ref (b2 0)), (3, .ref o), (4, .int (nI (7 * i)))]) B.hx B.hb dL_law_881 hl (by decide) rfl (fun ls hl => ?_)
    refine lv_aload_n B.hx B.hb dL_law_883 rfl (lv_at hl 3 rfl) ?_
    refine lv_aload_n B.hx B.hb dL_law_884 rfl (lv_at hl 1 rfl) ?_
    refine lv_iload B.hx B.hb dL_law_885 (lv_at hl 5 rfl) ?_
    refine lv_iconst (v := 1) B.hx B.hb dL_law_887 (by decide) ?_
    refine lv_iadd B.hx B.hb dL_law_888 ?_
    refine l_sld (k := 7 * i + 1) B hX hbl hw (nI_add (7 * i) 1) (by omega) hL dL_law_889 ?_
    refine lv_aload_n B.hx B.hb dL_law_890 rfl (lv_at hl 1 rfl) ?_
    refine lv_iload B.hx B.hb dL_law_891 (lv_at hl 5 rfl) ?_
    refine lv_iconst (v := 2) B.hx B.hb dL_law_893 (by decide) ?_
    refine lv_iadd B.hx B.hb dL_law_894 ?_
    refine l_sld (k := 7 * i + 2) B hX hbl hw (nI_add (7 * i) 2) (by omega) hL dL_law_895 ?_
    refine lv_aload_n B.hx B.hb dL_law_896 rfl (lv_at hl 1 rfl) ?_
    refine lv_iload B.hx B.hb dL_law_897 (lv_at hl 5 rfl) ?_
    refine lv_iconst (v := 3) B.hx B.hb dL_law_899 (by decide) ?_
    refine lv_iadd B.hx B.hb dL_law_900 ?_
    refine l_sld (k := 7 * i + 3) B hX hbl hw (nI_add (7 * i) 3) (by omega) hL dL_law_901 ?_
    refine lv_if_eq (tgt := 909) B.hx B.hb dL_law_902 (by decide) (fun _ => ?_) (fun c9 => absurd hz c9)
    refine lv_iconst (v := 0) B.hx B.hb dL_law_909 (by decide) ?_
    refine l_mod (As := [.int (xs (7 * i + 1)), .int (xs (7 * i + 2)), .int 0]) (rest := []) B hw (c_X11_fail l (X.1, X.2.1, b2) 5000 (xs (7 * i + 1)) (xs (7 * i + 2)) 0 m0 (w, n) hg _) cv_L_146 rfl rfl hl.1 rfl rfl ⟨(Nat.le_of_ble_eq_true rfl), (Nat.le_of_ble_eq_true rfl)⟩ (Nat.le_of_ble_eq_true rfl) ⟨by show _ ≤ 601024; omega, by show _ ≤ 7293034; omega⟩ dL_law_910 rfl (fun H locs hw => ?_)
    refine lv_istore (lv' := [(6, .int w), (5, .int (nI (kmB k))), (0, .ref b), (1, .ref (X.2.2 0)), (2, .ref (b2 0)), (3, .ref o), (4, .int (nI (7 * i)))]) B.hx B.hb dL_law_913 hl (by decide) rfl (fun ls hl => ?_)
    refine lv_aload_n B.hx B.hb dL_law_915 rfl (lv_at hl 4 rfl) ?_
    refine l_mod (As := []) (rest := []) B hw (c_X11_thrown l (X.1, X.2.1, b2) 5000 n (nI (kmB k)) (by rw [← ht]; rfl) _) cv_L_107 rfl rfl hl.1 rfl rfl ⟨(Nat.le_of_ble_eq_true rfl), (Nat.le_of_ble_eq_true rfl)⟩ (Nat.le_of_ble_eq_true rfl) ⟨by show _ ≤ 601024; omega, by show _ ≤ 7293034; omega⟩ dL_law_916 rfl (fun H locs hw => ?_)
    refine lv_iload B.hx B.hb dL_law_919 (lv_at hl 1 rfl) ?_
    refine lv_icmp_eq (tgt := 926) B.hx B.hb dL_law_921 (by decide) (fun _ => ?_) (fun c9 => absurd rfl c9)
    refine lv_iload B.hx B.hb dL_law_926 (lv_at hl 1 rfl) ?_
    refine lv_if_ne (tgt := 943) B.hx B.hb dL_law_928 (by decide) (fun c9 => ?_) (fun c9 => ?_)
    · refine lv_goto (tgt := 2116) B.hx B.hb dL_law_943 (by decide) ?_
      refine W.widen (k := cells + 4) (n := slots + 24) (by omega) (by omega) ?_
      exact hK _ _ _ _ _ _ hR' hw (lv_sub hl [2, 3, 4, 5, 6] rfl)
    · have hk0 := km0 hkk c9
      refine lv_aload_n B.hx B.hb dL_law_931 rfl (lv_at hl 5 rfl) ?_
      refine lv_iconst (v := 0) B.hx B.hb dL_law_932 (by decide) ?_
      refine l_lald B hw dL_law_933 ?_
      refine lv_iload B.hx B.hb dL_law_934 (lv_at hl 0 rfl) ?_
      refine lv_i2l (v := w.toInt64) B.hx B.hb dL_law_936 rfl ?_
      refine W.lcmp B.hx B.hb dL_law_937 ?_
      refine lv_if_eq (tgt := 943) B.hx B.hb dL_law_938 (by decide) (fun _ => ?_) (fun c9 => absurd ((by rw [hg0 hk0, hv hk0]; exact lg_self _)) c9)
      refine lv_goto (tgt := 2116) B.hx B.hb dL_law_943 (by decide) ?_
      refine W.widen (k := cells + 4) (n := slots + 24) (by omega) (by omega) ?_
      exact hK _ _ _ _ _ _ hR' hw (lv_sub hl [2, 3, 4, 5, 6] rfl)
  · obtain ⟨k, v, N, w, n, hf, hg, ht, hv, hkk, hR'⟩ := ob_fail (p1 := (xs (7 * i + 1))) (p2 := (xs (7 * i + 2))) (p3 := 1) hR (by omega) (by decide)
    refine lv_aload_n B.hx B.hb dL_law_850 rfl (lv_at hl 1 rfl) ?_
    refine lv_aload_n B.hx B.hb dL_law_851 rfl (lv_at hl 0 rfl) ?_
    refine lv_iload B.hx B.hb dL_law_852 (lv_at hl 4 rfl) ?_
    refine lv_iconst (v := 1) B.hx B.hb dL_law_854 (by decide) ?_
    refine lv_iadd B.hx B.hb dL_law_855 ?_
    refine l_sld (k := 7 * i + 1) B hX hbl hw (nI_add (7 * i) 1) (by omega) hL dL_law_856 ?_
    refine lv_aload_n B.hx B.hb dL_law_857 rfl (lv_at hl 0 rfl) ?_
    refine lv_iload B.hx B.hb dL_law_858 (lv_at hl 4 rfl) ?_
    refine lv_iconst (v := 2) B.hx B.hb dL_law_860 (by decide) ?_
    refine lv_iadd B.hx B.hb dL_law_861 ?_
    refine l_sld (k := 7 * i + 2) B hX hbl hw (nI_add (7 * i) 2) (by omega) hL dL_law_862 ?_
    refine lv_aload_n B.hx B.hb dL_law_863 rfl (lv_at hl 0 rfl) ?_
    refine lv_iload B.hx B.hb dL_law_864 (lv_at hl 4 rfl) ?_
    refine lv_iconst (v := 3) B.hx B.hb dL_law_866 (by decide) ?_
    refine lv_iadd B.hx B.hb dL_law_867 ?_
    refine l_sld (k := 7 * i + 3) B hX hbl hw (nI_add (7 * i) 3) (by omega) hL dL_law_868 ?_
    refine lv_if_eq (tgt := 876) B.hx B.hb dL_law_869 (by decide) (fun c9 => absurd c9 hz) (fun _ => ?_)
    refine lv_iconst (v := 1) B.hx B.hb dL_law_872 (by decide) ?_
    refine lv_goto (tgt := 877) B.hx B.hb dL_law_873 (by decide) ?_
    refine lv_aload_n B.hx B.hb dL_law_877 rfl (lv_at hl 3 rfl) ?_
    refine l_wrap (n := 5) (As := [.ref (X.2.2 0), .int (xs (7 * i + 1)), .int (xs (7 * i + 2)), .int 1, .ref o]) (rest := []) B hw (c_L_fail l hfl X o (xs (7 * i + 1)) (xs (7 * i + 2)) 1 M f (k, v, N) hf hkk _) (big_at 795 (by decide +kernel) (by decide +kernel)) (big_at 796 (by decide +kernel) (by decide +kernel)) (big_at 0 (by decide +kernel) (by decide +kernel)) (big_at 797 (by decide +kernel) (by decide +kernel)) ⟨by decide +kernel, by decide +kernel, by decide +kernel⟩ rfl hl.1 rfl rfl ⟨(Nat.le_of_ble_eq_true rfl), (Nat.le_of_ble_eq_true rfl)⟩ (Nat.le_of_ble_eq_true rfl) ⟨by show _ ≤ 601024; omega, by show _ ≤ 7293034; omega⟩ dL_law_878 rfl (fun g H locs hg0 hw => ?_)
    refine lv_istore (lv' := [(5, .int (nI (kmB k))), (0, .ref b), (1, .ref (X.2.2 0)), (2, .ref (b2 0)), (3, .ref o), (4, .int (nI (7 * i)))]) B.hx B.hb dL_law_881 hl (by decide) rfl (fun ls hl => ?_)
    refine lv_aload_n B.hx B.hb dL_law_883 rfl (lv_at hl 3 rfl) ?_
    refine lv_aload_n B.hx B.hb dL_law_884 rfl (lv_at hl 1 rfl) ?_
    refine lv_iload B.hx B.hb dL_law_885 (lv_at hl 5 rfl) ?_
    refine lv_iconst (v := 1) B.hx B.hb dL_law_887 (by decide) ?_
    refine lv_iadd B.hx B.hb dL_law_888 ?_
    refine l_sld (k := 7 * i + 1) B hX hbl hw (nI_add (7 * i) 1) (by omega) hL dL_law_889 ?_
    refine lv_aload_n B.hx B.hb dL_law_890 rfl (lv_at hl 1 rfl) ?_
    refine lv_iload B.hx B.hb dL_law_891 (lv_at hl 5 rfl) ?_
    refine lv_iconst (v := 2) B.hx B.hb dL_law_893 (by decide) ?_
    refine lv_iadd B.hx B.hb dL_law_894 ?_
    refine l_sld (k := 7 * i + 2) B hX hbl hw (nI_add (7 * i) 2) (by omega) hL dL_law_895 ?_
    refine lv_aload_n B.hx B.hb dL_law_896 rfl (lv_at hl 1 rfl) ?_
    refine lv_iload B.hx B.hb dL_law_897 (lv_at hl 5 rfl) ?_
    refine lv_iconst (v := 3) B.hx B.hb dL_law_899 (by decide) ?_
    refine lv_iadd B.hx B.hb dL_law_900 ?_
    refine l_sld (k := 7 * i + 3) B hX hbl hw (nI_add (7 * i) 3) (by omega) hL dL_law_901 ?_
    refine lv_if_eq (tgt := 909) B.hx B.hb dL_law_902 (by decide) (fun c9 => absurd c9 hz) (fun _ => ?_)
    refine lv_iconst (v := 1) B.hx B.hb dL_law_905 (by decide) ?_
    refine lv_goto (tgt := 910) B.hx B.hb dL_law_906 (by decide) ?_
    refine l_mod (As := [.int (xs (7 * i + 1)), .int (xs (7 * i + 2)), .int 1]) (rest := []) B hw (c_X11_fail l (X.1, X.2.1, b2) 5000 (xs (7 * i + 1)) (xs (7 * i + 2)) 1 m0 (w, n) hg _) cv_L_146 rfl rfl hl.1 rfl rfl ⟨(Nat.le_of_ble_eq_true rfl), (Nat.le_of_ble_eq_true rfl)⟩ (Nat.le_of_ble_eq_true rfl) ⟨by show _ ≤ 601024; omega, by show _ ≤ 7293034; omega⟩ dL_law_910 rfl (fun H locs hw => ?_)
    refine lv_istore (lv' := [(6, .int w), (5, .int (nI (kmB k))), (0, .ref b), (1, .ref (X.2.2 0)), (2, .ref (b2 0)), (3, .ref o), (4, .int (nI (7 * i)))]) B.hx B.hb dL_law_913 hl (by decide) rfl (fun ls hl => ?_)
    refine lv_aload_n B.hx B.hb dL_law_915 rfl (lv_at hl 4 rfl) ?_
    refine l_mod (As := []) (rest := []) B hw (c_X11_thrown l (X.1, X.2.1, b2) 5000 n (nI (kmB k)) (by rw [← ht]; rfl) _) cv_L_107 rfl rfl hl.1 rfl rfl ⟨(Nat.le_of_ble_eq_true rfl), (Nat.le_of_ble_eq_true rfl)⟩ (Nat.le_of_ble_eq_true rfl) ⟨by show _ ≤ 601024; omega, by show _ ≤ 7293034; omega⟩ dL_law_916 rfl (fun H locs hw => ?_)
    refine lv_iload B.hx B.hb dL_law_919 (lv_at hl 1 rfl) ?_
    refine lv_icmp_eq (tgt := 926) B.hx B.hb dL_law_921 (by decide) (fun _ => ?_) (fun c9 => absurd rfl c9)
    refine lv_iload B.hx B.hb dL_law_926 (lv_at hl 1 rfl) ?_
    refine lv_if_ne (tgt := 943) B.hx B.hb dL_law_928 (by decide) (fun c9 => ?_) (fun c9 => ?_)
    · refine lv_goto (tgt := 2116) B.hx B.hb dL_law_943 (by decide) ?_
      refine W.widen (k := cells + 4) (n := slots + 24) (by omega) (by omega) ?_
      exact hK _ _ _ _ _ _ hR' hw (lv_sub hl [2, 3, 4, 5, 6] rfl)
    · have hk0 := km0 hkk c9
      refine lv_aload_n B.hx B.hb dL_law_931 rfl (lv_at hl 5 rfl) ?_
      refine lv_iconst (v := 0) B.hx B.hb dL_law_932 (by decide) ?_
      refine l_lald B hw dL_law_933 ?_
      refine lv_iload B.hx B.hb dL_law_934 (lv_at hl 0 rfl) ?_
      refine lv_i2l (v := w.toInt64) B.hx B.hb dL_law_936 rfl ?_
      refine W.lcmp B.hx B.hb dL_law_937 ?_
      refine lv_if_eq (tgt := 943) B.hx B.hb dL_law_938 (by decide) (fun _ => ?_) (fun c9 => absurd ((by rw [hg0 hk0, hv hk0]; exact lg_self _)) c9)
      refine lv_goto (tgt := 2116) B.hx B.hb dL_law_943 (by decide) ?_
      refine W.widen (k := cells + 4) (n := slots + 24) (by omega) (by omega) ?_
      exact hK _ _ _ _ _ _ hR' hw (lv_sub hl [2, 3, 4, 5, 6] rfl)
set_option maxRecDepth 100000 in
set_option maxHeartbeats 4000000 in
theorem lw_k11 (l : Launch) (hfl : l.stackTraces = false) {p : Program} {e : Env} {s : State} {m : MethodId} {below : List Frame} {meth : Method} {c : Code} {H : Heap} {locs : List Loc} {cells slots : Nat} {Q : State → Prop} {X : XT} {b2 : Nat → Nat} {o b L i : Nat} {xs : Nat → Int32} {M m0 : Mem} {f : Nat → Int64} {ls : Array Slot} (B : CL X b2 o p s m #[Value.ref b] c) (hX : va_X b L xs s s.heap) (hbl : b < s.heap.size) (hL : L ≤ 3584) (hi : 7 * i + 7 ≤ L) (hR : RB i M m0) (hw : HL X b2 o M m0 f s H locs) (hl : lv_has ls 7 [(0, .ref b), (1, .ref (X.2.2 0)), (2, .ref (b2 0)), (3, .ref o), (4, .int (nI (7 * i)))]) (hcs : cells + 4 ≤ 601024 ∧ slots + 24 ≤ 7293034) (hK : KO p l e s m b below meth c X b2 o i cells slots Q) : W p l e room_1 s m #[Value.ref b] below meth c H locs cells slots Q (F0 m 946 ls []) := by
  by_cases hz : xs (7 * i + 3) = 0
  · obtain ⟨k, v, N, w, n, hf, hg, ht, hv, hkk, hR'⟩ := ob_forbid (p1 := (xs (7 * i + 1))) (p2 := (xs (7 * i + 2))) (p3 := 0) hR (by omega) (by decide)
    refine lv_aload_n B.hx B.hb dL_law_946 rfl (lv_at hl 1 rfl) ?_
    refine lv_aload_n B.hx B.hb dL_law_947 rfl (lv_at hl 0 rfl) ?_
    refine lv_iload B.hx B.hb dL_law_948 (lv_at hl 4 rfl) ?_
    refine lv_iconst (v := 1) B.hx B.hb dL_law_950 (by decide) ?_
    refine lv_iadd B.hx B.hb dL_law_951 ?_
    refine l_sld (k := 7 * i + 1) B hX hbl hw (nI_add (7 * i) 1) (by omega) hL dL_law_952 ?_
    refine lv_aload_n B.hx B.hb dL_law_953 rfl (lv_at hl 0 rfl) ?_
    refine lv_iload B.hx B.hb dL_law_954 (lv_at hl 4 rfl) ?_
    refine lv_iconst (v := 2) B.hx B.hb dL_law_956 (by decide) ?_
    refine lv_iadd B.hx B.hb dL_law_957 ?_
    refine l_sld (k := 7 * i + 2) B hX hbl hw (nI_add (7 * i) 2) (by omega) hL dL_law_958 ?_
    refine lv_aload_n B.hx B.hb dL_law_959 rfl (lv_at hl 0 rfl) ?_
    refine lv_iload B.hx B.hb dL_law_960 (lv_at hl 4 rfl) ?_
    refine lv_iconst (v := 3) B.hx B.hb dL_law_962 (by decide) ?_
    refine lv_iadd B.hx B.hb dL_law_963 ?_
    refine l_sld (k := 7 * i + 3) B hX hbl hw (nI_add (7 * i) 3) (by omega) hL dL_law_964 ?_
    refine lv_if_eq (tgt := 972) B.hx B.hb dL_law_965 (by decide) (fun _ => ?_) (fun c9 => absurd hz c9)
    refine lv_iconst (v := 0) B.hx B.hb dL_law_972 (by decide) ?_
    refine lv_aload_n B.hx B.hb dL_law_973 rfl (lv_at hl 3 rfl) ?_
    refine l_wrap (n := 5) (As := [.ref (X.2.2 0), .int (xs (7 * i + 1)), .int (xs (7 * i + 2)), .int 0, .ref o]) (rest := []) B hw (c_L_forbid l hfl X o (xs (7 * i + 1)) (xs (7 * i + 2)) 0 M f (k, v, N) hf hkk _) (big_at 802 (by decide +kernel) (by decide +kernel)) (big_at 803 (by decide +kernel) (by decide +kernel)) (big_at 0 (by decide +kernel) (by decide +kernel)) (big_at 804 (by decide +kernel) (by decide +kernel)) ⟨by decide +kernel, by decide +kernel, by decide +kernel⟩ rfl hl.1 rfl rfl ⟨(Nat.le_of_ble_eq_true rfl), (Nat.le_of_ble_eq_true rfl)⟩ (Nat.le_of_ble_eq_true rfl) ⟨by show _ ≤ 601024; omega, by show _ ≤ 7293034; omega⟩ dL_law_974 rfl (fun g H locs hg0 hw => ?_)
    refine lv_istore (lv' := [(5, .int (nI (kmC k))), (0, .ref b), (1, .ref (X.2.2 0)), (2, .ref (b2 0)), (3, .ref o), (4, .int (nI (7 * i)))]) B.hx B.hb dL_law_977 hl (by decide) rfl (fun ls hl => ?_)
    refine lv_aload_n B.hx B.hb dL_law_979 rfl (lv_at hl 3 rfl) ?_
    refine lv_aload_n B.hx B.hb dL_law_980 rfl (lv_at hl 1 rfl) ?_
    refine lv_iload B.hx B.hb dL_law_981 (lv_at hl 5 rfl) ?_
    refine lv_iconst (v := 1) B.hx B.hb dL_law_983 (by decide) ?_
    refine lv_iadd B.hx B.hb dL_law_984 ?_
    refine l_sld (k := 7 * i + 1) B hX hbl hw (nI_add (7 * i) 1) (by omega) hL dL_law_985 ?_
    refine lv_aload_n B.hx B.hb dL_law_986 rfl (lv_at hl 1 rfl) ?_
    refine lv_iload B.hx B.hb dL_law_987 (lv_at hl 5 rfl) ?_
    refine lv_iconst (v := 2) B.hx B.hb dL_law_989 (by decide) ?_
    refine lv_iadd B.hx B.hb dL_law_990 ?_
    refine l_sld (k := 7 * i + 2) B hX hbl hw (nI_add (7 * i) 2) (by omega) hL dL_law_991 ?_
    refine lv_aload_n B.hx B.hb dL_law_992 rfl (lv_at hl 1 rfl) ?_
    refine lv_iload B.hx B.hb dL_law_993 (lv_at hl 5 rfl) ?_
    refine lv_iconst (v := 3) B.hx B.hb dL_law_995 (by decide) ?_
    refine lv_iadd B.hx B.hb dL_law_996 ?_
    refine l_sld (k := 7 * i + 3) B hX hbl hw (nI_add (7 * i) 3) (by omega) hL dL_law_997 ?_
    refine lv_if_eq (tgt := 1005) B.hx B.hb dL_law_998 (by decide) (fun _ => ?_) (fun c9 => absurd hz c9)
    refine lv_iconst (v := 0) B.hx B.hb dL_law_1005 (by decide) ?_
    refine l_mod (As := [.int (xs (7 * i + 1)), .int (xs (7 * i + 2)), .int 0]) (rest := []) B hw (c_X11_forbid l (X.1, X.2.1, b2) 5000 (xs (7 * i + 1)) (xs (7 * i + 2)) 0 m0 (w, n) hg _) cv_L_149 rfl rfl hl.1 rfl rfl ⟨(Nat.le_of_ble_eq_true rfl), (Nat.le_of_ble_eq_true rfl)⟩ (Nat.le_of_ble_eq_true rfl) ⟨by show _ ≤ 601024; omega, by show _ ≤ 7293034; omega⟩ dL_law_1006 rfl (fun H locs hw => ?_)
    refine lv_istore (lv' := [(6, .int w), (5, .int (nI (kmC k))), (0, .ref b), (1, .ref (X.2.2 0)), (2, .ref (b2 0)), (3, .ref o), (4, .int (nI (7 * i)))]) B.hx B.hb dL_law_1009 hl (by decide) rfl (fun ls hl => ?_)
    refine lv_aload_n B.hx B.hb dL_law_1011 rfl (lv_at hl 4 rfl) ?_
    refine l_mod (As := []) (rest := []) B hw (c_X11_thrown l (X.1, X.2.1, b2) 5000 n (nI (kmC k)) (by rw [← ht]; rfl) _) cv_L_107 rfl rfl hl.1 rfl rfl ⟨(Nat.le_of_ble_eq_true rfl), (Nat.le_of_ble_eq_true rfl)⟩ (Nat.le_of_ble_eq_true rfl) ⟨by show _ ≤ 601024; omega, by show _ ≤ 7293034; omega⟩ dL_law_1012 rfl (fun H locs hw => ?_)
    refine lv_iload B.hx B.hb dL_law_1015 (lv_at hl 1 rfl) ?_
    refine lv_icmp_eq (tgt := 1022) B.hx B.hb dL_law_1017 (by decide) (fun _ => ?_) (fun c9 => absurd rfl c9)
    refine lv_iload B.hx B.hb dL_law_1022 (lv_at hl 1 rfl) ?_
    refine lv_if_ne (tgt := 1046) B.hx B.hb dL_law_1024 (by decide) (fun c9 => ?_) (fun c9 => ?_)
    · refine lv_goto (tgt := 2116) B.hx B.hb dL_law_1046 (by decide) ?_
      refine W.widen (k := cells + 4) (n := slots + 24) (by omega) (by omega) ?_
      exact hK _ _ _ _ _ _ hR' hw (lv_sub hl [2, 3, 4, 5, 6] rfl)
    · have hk0 := km0 hkk c9
      refine lv_aload_n B.hx B.hb dL_law_1027 rfl (lv_at hl 5 rfl) ?_
      refine lv_iconst (v := 0) B.hx B.hb dL_law_1028 (by decide) ?_
      refine l_lald B hw dL_law_1029 ?_
      refine lv_iload B.hx B.hb dL_law_1030 (lv_at hl 0 rfl) ?_
      refine lv_if_eq (tgt := 1039) B.hx B.hb dL_law_1032 (by decide) (fun cw => ?_) (fun cw => ?_)
      · refine lv_lconst (v := 0) B.hx B.hb dL_law_1039 (by decide) ?_
        refine W.lcmp B.hx B.hb dL_law_1040 ?_
        refine lv_if_eq (tgt := 1046) B.hx B.hb dL_law_1041 (by decide) (fun _ => ?_) (fun c9 => absurd ((by rw [hg0 hk0, hv hk0, if_pos cw]; rfl)) c9)
        refine lv_goto (tgt := 2116) B.hx B.hb dL_law_1046 (by decide) ?_
        refine W.widen (k := cells + 4) (n := slots + 24) (by omega) (by omega) ?_
        exact hK _ _ _ _ _ _ hR' hw (lv_sub hl [2, 3, 4, 5, 6] rfl)
      · refine lv_lconst (v := 1) B.hx B.hb dL_law_1035 (by decide) ?_
        refine lv_goto (tgt := 1040) B.hx B.hb dL_law_1036 (by decide) ?_
        refine W.lcmp B.hx B.hb dL_law_1040 ?_
        refine lv_if_eq (tgt := 1046) B.hx B.hb dL_law_1041 (by decide) (fun _ => ?_) (fun c9 => absurd ((by rw [hg0 hk0, hv hk0, if_neg cw]; rfl)) c9)
        refine lv_goto (tgt := 2116) B.hx B.hb dL_law_1046 (by decide) ?_
        refine W.widen (k := cells + 4) (n := slots + 24) (by omega) (by omega) ?_
        exact hK _ _ _ _ _ _ hR' hw (lv_sub hl [2, 3, 4, 5, 6] rfl)
  · obtain ⟨k, v, N, w, n, hf, hg, ht, hv, hkk, hR'⟩ := ob_forbid (p1 := (xs (7 * i + 1))) (p2 := (xs (7 * i + 2))) (p3 := 1) hR (by omega) (by decide)
    refine lv_aload_n B.hx B.hb dL_law_946 rfl (lv_at hl 1 rfl) ?_
    refine lv_aload_n B.hx B.hb dL_law_947 rfl (lv_at hl 0 rfl) ?_
    refine lv_iload B.hx B.hb dL_law_948 (lv_at hl 4 rfl) ?_
    refine lv_iconst (v := 1) B.hx B.hb dL_law_950 (by decide) ?_
    refine lv_iadd B.hx B.hb dL_law_951 ?_
    refine l_sld (k := 7 * i + 1) B hX hbl hw (nI_add (7 * i) 1) (by omega) hL dL_law_952 ?_
    refine lv_aload_n B.hx B.hb dL_law_953 rfl (lv_at hl 0 rfl) ?_
    refine lv_iload B.hx B.hb dL_law_954 (lv_at hl 4 rfl) ?_
    refine lv_iconst (v := 2) B.hx B.hb dL_law_956 (by decide) ?_
    refine lv_iadd B.hx B.hb dL_law_957 ?_
    refine l_sld (k := 7 * i + 2) B hX hbl hw (nI_add (7 * i) 2) (by omega) hL dL_law_958 ?_
    refine lv_aload_n B.hx B.hb dL_law_959 rfl (lv_at hl 0 rfl) ?_
    refine lv_iload B.hx B.hb dL_law_960 (lv_at hl 4 rfl) ?_
    refine lv_iconst (v := 3) B.hx B.hb dL_law_962 (by decide) ?_
    refine lv_iadd B.hx B.hb dL_law_963 ?_
    refine l_sld (k := 7 * i + 3) B hX hbl hw (nI_add (7 * i) 3) (by omega) hL dL_law_964 ?_
    refine lv_if_eq (tgt := 972) B.hx B.hb dL_law_965 (by decide) (fun c9 => absurd c9 hz) (fun _ => ?_)
    refine lv_iconst (v := 1) B.hx B.hb dL_law_968 (by decide) ?_
    refine lv_goto (tgt := 973) B.hx B.hb dL_law_969 (by decide) ?_
    refine lv_aload_n B.hx B.hb dL_law_973 rfl (lv_at hl 3 rfl) ?_
    refine l_wrap (n := 5) (As := [.ref (X.2.2 0), .int (xs (7 * i + 1)), .int (xs (7 * i + 2)), .int 1, .ref o]) (rest := []) B hw (c_L_forbid l hfl X o (xs (7 * i + 1)) (xs (7 * i + 2)) 1 M f (k, v, N) hf hkk _) (big_at 802 (by decide +kernel) (by decide +kernel)) (big_at 803 (by decide +kernel) (by decide +kernel)) (big_at 0 (by decide +kernel) (by decide +kernel)) (big_at 804 (by decide +kernel) (by decide +kernel)) ⟨by decide +kernel, by decide +kernel, by decide +kernel⟩ rfl hl.1 rfl rfl ⟨(Nat.le_of_ble_eq_true rfl), (Nat.le_of_ble_eq_true rfl)⟩ (Nat.le_of_ble_eq_true rfl) ⟨by show _ ≤ 601024; omega, by show _ ≤ 7293034; omega⟩ dL_law_974 rfl (fun g H locs hg0 hw => ?_)
    refine lv_istore (lv' := [(5, .int (nI (kmC k))), (0, .ref b), (1, .ref (X.2.2 0)), (2, .ref (b2 0)), (3, .ref o), (4, .int (nI (7 * i)))]) B.hx B.hb dL_law_977 hl (by decide) rfl (fun ls hl => ?_)
    refine lv_aload_n B.hx B.hb dL_law_979 rfl (lv_at hl 3 rfl) ?_
    refine lv_aload_n B.hx B.hb dL_law_980 rfl (lv_at hl 1 rfl) ?_
    refine lv_iload B.hx B.hb dL_law_981 (lv_at hl 5 rfl) ?_
    refine lv_iconst (v := 1) B.hx B.hb dL_law_983 (by decide) ?_
    refine lv_iadd B.hx B.hb dL_law_984 ?_
    refine l_sld (k := 7 * i + 1) B hX hbl hw (nI_add (7 * i) 1) (by omega) hL dL_law_985 ?_
    refine lv_aload_n B.hx B.hb dL_law_986 rfl (lv_at hl 1 rfl) ?_
    refine lv_iload B.hx B.hb dL_law_987 (lv_at hl 5 rfl) ?_
    refine lv_iconst (v := 2) B.hx B.hb dL_law_989 (by decide) ?_
    refine lv_iadd B.hx B.hb dL_law_990 ?_
    refine l_sld (k := 7 * i + 2) B hX hbl hw (nI_add (7 * i) 2) (by omega) hL dL_law_991 ?_
    refine lv_aload_n B.hx B.hb dL_law_992 rfl (lv_at hl 1 rfl) ?_
    refine lv_iload B.hx B.hb dL_law_993 (lv_at hl 5 rfl) ?_
    refine lv_iconst (v := 3) B.hx B.hb dL_law_995 (by decide) ?_
    refine lv_iadd B.hx B.hb dL_law_996 ?_
    refine l_sld (k := 7 * i + 3) B hX hbl hw (nI_add (7 * i) 3) (by omega) hL dL_law_997 ?_
    refine lv_if_eq (tgt := 1005) B.hx B.hb dL_law_998 (by decide) (fun c9 => absurd c9 hz) (fun _ => ?_)
    refine lv_iconst (v := 1) B.hx B.hb dL_law_1001 (by decide) ?_
    refine lv_goto (tgt := 1006) B.hx B.hb dL_law_1002 (by decide) ?_
    refine l_mod (As := [.int (xs (7 * i + 1)), .int (xs (7 * i + 2)), .int 1]) (rest := []) B hw (c_X11_forbid l (X.1, X.2.1, b2) 5000 (xs (7 * i + 1)) (xs (7 * i + 2)) 1 m0 (w, n) hg _) cv_L_149 rfl rfl hl.1 rfl rfl ⟨(Nat.le_of_ble_eq_true rfl), (Nat.le_of_ble_eq_true rfl)⟩ (Nat.le_of_ble_eq_true rfl) ⟨by show _ ≤ 601024; omega, by show _ ≤ 7293034; omega⟩ dL_law_1006 rfl (fun H locs hw => ?_)
    refine lv_istore (lv' := [(6, .int w), (5, .int (nI (kmC k))), (0, .ref b), (1, .ref (X.2.2 0)), (2, .ref (b2 0)), (3, .ref o), (4, .int (nI (7 * i)))]) B.hx B.hb dL_law_1009 hl (by decide) rfl (fun ls hl => ?_)
    refine lv_aload_n B.hx B.hb dL_law_1011 rfl (lv_at hl 4 rfl) ?_
    refine l_mod (As := []) (rest := []) B hw (c_X11_thrown l (X.1, X.2.1, b2) 5000 n (nI (kmC k)) (by rw [← ht]; rfl) _) cv_L_107 rfl rfl hl.1 rfl rfl ⟨(Nat.le_of_ble_eq_true rfl), (Nat.le_of_ble_eq_true rfl)⟩ (Nat.le_of_ble_eq_true rfl) ⟨by show _ ≤ 601024; omega, by show _ ≤ 7293034; omega⟩ dL_law_1012 rfl (fun H locs hw => ?_)
    refine lv_iload B.hx B.hb dL_law_1015 (lv_at hl 1 rfl) ?_
    refine lv_icmp_eq (tgt := 1022) B.hx B.hb dL_law_1017 (by decide) (fun _ => ?_) (fun c9 => absurd rfl c9)
    refine lv_iload B.hx B.hb dL_law_1022 (lv_at hl 1 rfl) ?_
    refine lv_if_ne (tgt := 1046) B.hx B.hb dL_law_1024 (by decide) (fun c9 => ?_) (fun c9 => ?_)
    · refine lv_goto (tgt := 2116) B.hx B.hb dL_law_1046 (by decide) ?_
      refine W.widen (k := cells + 4) (n := slots + 24) (by omega) (by omega) ?_
      exact hK _ _ _ _ _ _ hR' hw (lv_sub hl [2, 3, 4, 5, 6] rfl)
    · have hk0 := km0 hkk c9
      refine lv_aload_n B.hx B.hb dL_law_1027 rfl (lv_at hl 5 rfl) ?_
      refine lv_iconst (v := 0) B.hx B.hb dL_law_1028 (by decide) ?_
      refine l_lald B hw dL_law_1029 ?_
      refine lv_iload B.hx B.hb dL_law_1030 (lv_at hl 0 rfl) ?_
      refine lv_if_eq (tgt := 1039) B.hx B.hb dL_law_1032 (by decide) (fun cw => ?_) (fun cw => ?_)
      · refine lv_lconst (v := 0) B.hx B.hb dL_law_1039 (by decide) ?_
        refine W.lcmp B.hx B.hb dL_law_1040 ?_
        refine lv_if_eq (tgt := 1046) B.hx B.hb dL_law_1041 (by decide) (fun _ => ?_) (fun c9 => absurd ((by rw [hg0 hk0, hv hk0, if_pos cw]; rfl)) c9)
        refine lv_goto (tgt := 2116) B.hx B.hb dL_law_1046 (by decide) ?_
        refine W.widen (k := cells + 4) (n := slots + 24) (by omega) (by omega) ?_
        exact hK _ _ _ _ _ _ hR' hw (lv_sub hl [2, 3, 4, 5, 6] rfl)
      · refine lv_lconst (v := 1) B.hx B.hb dL_law_1035 (by decide) ?_
        refine lv_goto (tgt := 1040) B.hx B.hb dL_law_1036 (by decide) ?_
        refine W.lcmp B.hx B.hb dL_law_1040 ?_
        refine lv_if_eq (tgt := 1046) B.hx B.hb dL_law_1041 (by decide) (fun _ => ?_) (fun c9 => absurd ((by rw [hg0 hk0, hv hk0, if_neg cw]; rfl)) c9)
        refine lv_goto (tgt := 2116) B.hx B.hb dL_law_1046 (by decide) ?_
        refine W.widen (k := cells + 4) (n := slots + 24) (by omega) (by omega) ?_
        exact hK _ _ _ _ _ _ hR' hw (lv_sub hl [2, 3, 4, 5, 6] rfl)
set_option maxRecDepth 100000 in
set_option maxHeartbeats 4000000 in
theorem lw_k12 (l : Launch) (hfl : l.stackTraces = false) {p : Program} {e : Env} {s : State} {m : MethodId} {below : List Frame} {meth : Method} {c : Code} {H : Heap} {locs : List Loc} {cells slots : Nat} {Q : State → Prop} {X : XT} {b2 : Nat → Nat} {o b L i : Nat} {xs : Nat → Int32} {M m0 : Mem} {f : Nat → Int64} {ls : Array Slot} (B : CL X b2 o p s m #[Value.ref b] c) (hX : va_X b L xs s s.heap) (hbl : b < s.heap.size) (hL : L ≤ 3584) (hi : 7 * i + 7 ≤ L) (hR : RB i M m0) (hw : HL X b2 o M m0 f s H locs) (hl : lv_has ls 7 [(0, .ref b), (1, .ref (X.2.2 0)), (2, .ref (b2 0)), (3, .ref o), (4, .int (nI (7 * i)))]) (hcs : cells + 4 ≤ 601024 ∧ slots + 24 ≤ 7293034) (hK : KO p l e s m b below meth c X b2 o i cells slots Q) : W p l e room_1 s m #[Value.ref b] below meth c H locs cells slots Q (F0 m 1049 ls []) := by
  obtain ⟨k, v, N, w, n, hf, hg, ht, hv, hkk, hR'⟩ := ob_pass (p1 := (xs (7 * i + 1))) hR (by omega)
  refine lv_aload_n B.hx B.hb dL_law_1049 rfl (lv_at hl 1 rfl) ?_
  refine lv_aload_n B.hx B.hb dL_law_1050 rfl (lv_at hl 0 rfl) ?_
  refine lv_iload B.hx B.hb dL_law_1051 (lv_at hl 4 rfl) ?_
  refine lv_iconst (v := 1) B.hx B.hb dL_law_1053 (by decide) ?_
  refine lv_iadd B.hx B.hb dL_law_1054 ?_
  refine l_sld (k := 7 * i + 1) B hX hbl hw (nI_add (7 * i) 1) (by omega) hL dL_law_1055 ?_
  refine lv_aload_n B.hx B.hb dL_law_1056 rfl (lv_at hl 3 rfl) ?_
  refine l_wrap (n := 3) (As := [.ref (X.2.2 0), .int (xs (7 * i + 1)), .ref o]) (rest := []) B hw (c_L_pass l hfl X o (xs (7 * i + 1)) M f (k, v, N) hf hkk _) (big_at 809 (by decide +kernel) (by decide +kernel)) (big_at 810 (by decide +kernel) (by decide +kernel)) (big_at 0 (by decide +kernel) (by decide +kernel)) (big_at 811 (by decide +kernel) (by decide +kernel)) ⟨by decide +kernel, by decide +kernel, by decide +kernel⟩ rfl hl.1 rfl rfl ⟨(Nat.le_of_ble_eq_true rfl), (Nat.le_of_ble_eq_true rfl)⟩ (Nat.le_of_ble_eq_true rfl) ⟨by show _ ≤ 601024; omega, by show _ ≤ 7293034; omega⟩ dL_law_1057 rfl (fun g H locs hg0 hw => ?_)
  refine lv_istore (lv' := [(5, .int (nI (kmP k))), (0, .ref b), (1, .ref (X.2.2 0)), (2, .ref (b2 0)), (3, .ref o), (4, .int (nI (7 * i)))]) B.hx B.hb dL_law_1060 hl (by decide) rfl (fun ls hl => ?_)
  refine lv_aload_n B.hx B.hb dL_law_1062 rfl (lv_at hl 3 rfl) ?_
  refine lv_aload_n B.hx B.hb dL_law_1063 rfl (lv_at hl 1 rfl) ?_
  refine lv_iload B.hx B.hb dL_law_1064 (lv_at hl 5 rfl) ?_
  refine lv_iconst (v := 1) B.hx B.hb dL_law_1066 (by decide) ?_
  refine lv_iadd B.hx B.hb dL_law_1067 ?_
  refine l_sld (k := 7 * i + 1) B hX hbl hw (nI_add (7 * i) 1) (by omega) hL dL_law_1068 ?_
  refine l_mod (As := [.int (xs (7 * i + 1))]) (rest := []) B hw (c_X11_pass l (X.1, X.2.1, b2) 5000 (xs (7 * i + 1)) m0 (w, n) hg _) cv_L_152 rfl rfl hl.1 rfl rfl ⟨(Nat.le_of_ble_eq_true rfl), (Nat.le_of_ble_eq_true rfl)⟩ (Nat.le_of_ble_eq_true rfl) ⟨by show _ ≤ 601024; omega, by show _ ≤ 7293034; omega⟩ dL_law_1069 rfl (fun H locs hw => ?_)
  refine lv_istore (lv' := [(6, .int w), (5, .int (nI (kmP k))), (0, .ref b), (1, .ref (X.2.2 0)), (2, .ref (b2 0)), (3, .ref o), (4, .int (nI (7 * i)))]) B.hx B.hb dL_law_1072 hl (by decide) rfl (fun ls hl => ?_)
  refine lv_aload_n B.hx B.hb dL_law_1074 rfl (lv_at hl 4 rfl) ?_
  refine l_mod (As := []) (rest := []) B hw (c_X11_thrown l (X.1, X.2.1, b2) 5000 n (nI (kmP k)) (by rw [← ht]; rfl) _) cv_L_107 rfl rfl hl.1 rfl rfl ⟨(Nat.le_of_ble_eq_true rfl), (Nat.le_of_ble_eq_true rfl)⟩ (Nat.le_of_ble_eq_true rfl) ⟨by show _ ≤ 601024; omega, by show _ ≤ 7293034; omega⟩ dL_law_1075 rfl (fun H locs hw => ?_)
  refine lv_iload B.hx B.hb dL_law_1078 (lv_at hl 1 rfl) ?_
  refine lv_icmp_eq (tgt := 1085) B.hx B.hb dL_law_1080 (by decide) (fun _ => ?_) (fun c9 => absurd rfl c9)
  refine lv_iload B.hx B.hb dL_law_1085 (lv_at hl 1 rfl) ?_
  refine lv_if_ne (tgt := 1102) B.hx B.hb dL_law_1087 (by decide) (fun c9 => ?_) (fun c9 => ?_)
  · refine lv_goto (tgt := 2116) B.hx B.hb dL_law_1102 (by decide) ?_
    refine W.widen (k := cells + 4) (n := slots + 24) (by omega) (by omega) ?_
    exact hK _ _ _ _ _ _ hR' hw (lv_sub hl [2, 3, 4, 5, 6] rfl)
  · have hk0 := km0 hkk c9
    refine lv_aload_n B.hx B.hb dL_law_1090 rfl (lv_at hl 5 rfl) ?_
    refine lv_iconst (v := 0) B.hx B.hb dL_law_1091 (by decide) ?_
    refine l_lald B hw dL_law_1092 ?_
    refine lv_iload B.hx B.hb dL_law_1093 (lv_at hl 0 rfl) ?_
    refine lv_i2l (v := w.toInt64) B.hx B.hb dL_law_1095 rfl ?_
    refine W.lcmp B.hx B.hb dL_law_1096 ?_
    refine lv_if_eq (tgt := 1102) B.hx B.hb dL_law_1097 (by decide) (fun _ => ?_) (fun c9 => absurd ((by rw [hg0 hk0, hv hk0]; exact lg_self _)) c9)
    refine lv_goto (tgt := 2116) B.hx B.hb dL_law_1102 (by decide) ?_
    refine W.widen (k := cells + 4) (n := slots + 24) (by omega) (by omega) ?_
    exact hK _ _ _ _ _ _ hR' hw (lv_sub hl [2, 3, 4, 5, 6] rfl)
set_option maxRecDepth 100000 in
set_option maxHeartbeats 4000000 in
theorem lw_k13 (l : Launch) (hfl : l.stackTraces = false) {p : Program} {e : Env} {s : State} {m : MethodId} {below : List Frame} {meth : Method} {c : Code} {H : Heap} {locs : List Loc} {cells slots : Nat} {Q : State → Prop} {X : XT} {b2 : Nat → Nat} {o b L i : Nat} {xs : Nat → Int32} {M m0 : Mem} {f : Nat → Int64} {ls : Array Slot} (B : CL X b2 o p s m #[Value.ref b] c) (hX : va_X b L xs s s.heap) (hbl : b < s.heap.size) (hL : L ≤ 3584) (hi : 7 * i + 7 ≤ L) (hR : RB i M m0) (hw : HL X b2 o M m0 f s H locs) (hl : lv_has ls 7 [(0, .ref b), (1, .ref (X.2.2 0)), (2, .ref (b2 0)), (3, .ref o), (4, .int (nI (7 * i)))]) (hcs : cells + 4 ≤ 601024 ∧ slots + 24 ≤ 7293034) (hK : KO p l e s m b below meth c X b2 o i cells slots Q) : W p l e room_1 s m #[Value.ref b] below meth c H locs cells slots Q (F0 m 1105 ls []) := by
  obtain ⟨v, n, hf, hg, hR'⟩ := (ob_gets hR).2.2.1
  refine lv_aload_n B.hx B.hb dL_law_1105 rfl (lv_at hl 1 rfl) ?_
  refine l_cls (As := []) (rest := []) B hw (c_X10_now l X 5000 M v hf _) cv_L_153 rfl rfl hl.1 rfl rfl ⟨(Nat.le_of_ble_eq_true rfl), (Nat.le_of_ble_eq_true rfl)⟩ (Nat.le_of_ble_eq_true rfl) ⟨by show _ ≤ 601024; omega, by show _ ≤ 7293034; omega⟩ dL_law_1106 rfl (fun H locs hw => ?_)
  refine lv_aload_n B.hx B.hb dL_law_1109 rfl (lv_at hl 2 rfl) ?_
  refine l_mod (As := []) (rest := [.int v]) B hw (c_X11_now l (X.1, X.2.1, b2) 5000 m0 (v, n) hg _) cv_L_156 rfl rfl hl.1 rfl rfl ⟨(Nat.le_of_ble_eq_true rfl), (Nat.le_of_ble_eq_true rfl)⟩ (Nat.le_of_ble_eq_true rfl) ⟨by show _ ≤ 601024; omega, by show _ ≤ 7293034; omega⟩ dL_law_1110 rfl (fun H locs hw => ?_)
  refine lv_icmp_eq (tgt := 2116) B.hx B.hb dL_law_1113 (by decide) (fun _ => ?_) (fun c9 => absurd rfl c9)
  refine W.widen (k := cells + 4) (n := slots + 24) (by omega) (by omega) ?_
  exact hK _ _ _ _ _ _ hR' hw (lv_sub hl [0, 1, 2, 3, 4] rfl)
set_option maxRecDepth 100000 in
set_option maxHeartbeats 4000000 in
theorem lw_k14 (l : Launch) (hfl : l.stackTraces = false) {p : Program} {e : Env} {s : State} {m : MethodId} {below : List Frame} {meth : Method} {c : Code} {H : Heap} {locs : List Loc} {cells slots : Nat} {Q : State → Prop} {X : XT} {b2 : Nat → Nat} {o b L i : Nat} {xs : Nat → Int32} {M m0 : Mem} {f : Nat → Int64} {ls : Array Slot} (B : CL X b2 o p s m #[Value.ref b] c) (hX : va_X b L xs s s.heap) (hbl : b < s.heap.size) (hL : L ≤ 3584) (hi : 7 * i + 7 ≤ L) (hR : RB i M m0) (hw : HL X b2 o M m0 f s H locs) (hl : lv_has ls 7 [(0, .ref b), (1, .ref (X.2.2 0)), (2, .ref (b2 0)), (3, .ref o), (4, .int (nI (7 * i)))]) (hcs : cells + 4 ≤ 601024 ∧ slots + 24 ≤ 7293034) (hK : KO p l e s m b below meth c X b2 o i cells slots Q) : W p l e room_1 s m #[Value.ref b] below meth c H locs cells slots Q (F0 m 1118 ls []) := by
  obtain ⟨k, v, N, w, n, hf, hg, ht, hv, hkk, hR'⟩ := ob_seat (p1 := (xs (7 * i + 1))) hR (by omega)
  refine lv_aload_n B.hx B.hb dL_law_1118 rfl (lv_at hl 1 rfl) ?_
  refine lv_aload_n B.hx B.hb dL_law_1119 rfl (lv_at hl 0 rfl) ?_
  refine lv_iload B.hx B.hb dL_law_1120 (lv_at hl 4 rfl) ?_
  refine lv_iconst (v := 1) B.hx B.hb dL_law_1122 (by decide) ?_
  refine lv_iadd B.hx B.hb dL_law_1123 ?_
  refine l_sld (k := 7 * i + 1) B hX hbl hw (nI_add (7 * i) 1) (by omega) hL dL_law_1124 ?_
  refine lv_aload_n B.hx B.hb dL_law_1125 rfl (lv_at hl 3 rfl) ?_
  refine l_wrap (n := 3) (As := [.ref (X.2.2 0), .int (xs (7 * i + 1)), .ref o]) (rest := []) B hw (c_L_seat l hfl X o (xs (7 * i + 1)) M f (k, v, N) hf hkk _) (big_at 821 (by decide +kernel) (by decide +kernel)) (big_at 822 (by decide +kernel) (by decide +kernel)) (big_at 0 (by decide +kernel) (by decide +kernel)) (big_at 823 (by decide +kernel) (by decide +kernel)) ⟨by decide +kernel, by decide +kernel, by decide +kernel⟩ rfl hl.1 rfl rfl ⟨(Nat.le_of_ble_eq_true rfl), (Nat.le_of_ble_eq_true rfl)⟩ (Nat.le_of_ble_eq_true rfl) ⟨by show _ ≤ 601024; omega, by show _ ≤ 7293034; omega⟩ dL_law_1126 rfl (fun g H locs hg0 hw => ?_)
  refine lv_istore (lv' := [(5, .int (nI (kmS k))), (0, .ref b), (1, .ref (X.2.2 0)), (2, .ref (b2 0)), (3, .ref o), (4, .int (nI (7 * i)))]) B.hx B.hb dL_law_1129 hl (by decide) rfl (fun ls hl => ?_)
  refine lv_aload_n B.hx B.hb dL_law_1131 rfl (lv_at hl 3 rfl) ?_
  refine lv_aload_n B.hx B.hb dL_law_1132 rfl (lv_at hl 1 rfl) ?_
  refine lv_iload B.hx B.hb dL_law_1133 (lv_at hl 5 rfl) ?_
  refine lv_iconst (v := 1) B.hx B.hb dL_law_1135 (by decide) ?_
  refine lv_iadd B.hx B.hb dL_law_1136 ?_
  refine l_sld (k := 7 * i + 1) B hX hbl hw (nI_add (7 * i) 1) (by omega) hL dL_law_1137 ?_
  refine l_mod (As := [.int (xs (7 * i + 1))]) (rest := []) B hw (c_X11_seat l (X.1, X.2.1, b2) 5000 (xs (7 * i + 1)) m0 (w, n) hg _) cv_L_159 rfl rfl hl.1 rfl rfl ⟨(Nat.le_of_ble_eq_true rfl), (Nat.le_of_ble_eq_true rfl)⟩ (Nat.le_of_ble_eq_true rfl) ⟨by show _ ≤ 601024; omega, by show _ ≤ 7293034; omega⟩ dL_law_1138 rfl (fun H locs hw => ?_)
  refine lv_istore (lv' := [(6, .int w), (5, .int (nI (kmS k))), (0, .ref b), (1, .ref (X.2.2 0)), (2, .ref (b2 0)), (3, .ref o), (4, .int (nI (7 * i)))]) B.hx B.hb dL_law_1141 hl (by decide) rfl (fun ls hl => ?_)
  refine lv_aload_n B.hx B.hb dL_law_1143 rfl (lv_at hl 4 rfl) ?_
  refine l_mod (As := []) (rest := []) B hw (c_X11_thrown l (X.1, X.2.1, b2) 5000 n (nI (kmS k)) (by rw [← ht]; rfl) _) cv_L_107 rfl rfl hl.1 rfl rfl ⟨(Nat.le_of_ble_eq_true rfl), (Nat.le_of_ble_eq_true rfl)⟩ (Nat.le_of_ble_eq_true rfl) ⟨by show _ ≤ 601024; omega, by show _ ≤ 7293034; omega⟩ dL_law_1144 rfl (fun H locs hw => ?_)
  refine lv_iload B.hx B.hb dL_law_1147 (lv_at hl 1 rfl) ?_
  refine lv_icmp_eq (tgt := 1154) B.hx B.hb dL_law_1149 (by decide) (fun _ => ?_) (fun c9 => absurd rfl c9)
  refine lv_iload B.hx B.hb dL_law_1154 (lv_at hl 1 rfl) ?_
  refine lv_if_ne (tgt := 1171) B.hx B.hb dL_law_1156 (by decide) (fun c9 => ?_) (fun c9 => ?_)
  · refine lv_goto (tgt := 2116) B.hx B.hb dL_law_1171 (by decide) ?_
    refine W.widen (k := cells + 4) (n := slots + 24) (by omega) (by omega) ?_
    exact hK _ _ _ _ _ _ hR' hw (lv_sub hl [2, 3, 4, 5, 6] rfl)
  · have hk0 := km0 hkk c9
    refine lv_aload_n B.hx B.hb dL_law_1159 rfl (lv_at hl 5 rfl) ?_
    refine lv_iconst (v := 0) B.hx B.hb dL_law_1160 (by decide) ?_
    refine l_lald B hw dL_law_1161 ?_
    refine lv_iload B.hx B.hb dL_law_1162 (lv_at hl 0 rfl) ?_
    refine lv_i2l (v := w.toInt64) B.hx B.hb dL_law_1164 rfl ?_
    refine W.lcmp B.hx B.hb dL_law_1165 ?_
    refine lv_if_eq (tgt := 1171) B.hx B.hb dL_law_1166 (by decide) (fun _ => ?_) (fun c9 => absurd ((by rw [hg0 hk0, hv hk0]; exact lg_self _)) c9)
    refine lv_goto (tgt := 2116) B.hx B.hb dL_law_1171 (by decide) ?_
    refine W.widen (k := cells + 4) (n := slots + 24) (by omega) (by omega) ?_
    exact hK _ _ _ _ _ _ hR' hw (lv_sub hl [2, 3, 4, 5, 6] rfl)
set_option maxRecDepth 100000 in
set_option maxHeartbeats 4000000 in
theorem lw_k15 (l : Launch) (hfl : l.stackTraces = false) {p : Program} {e : Env} {s : State} {m : MethodId} {below : List Frame} {meth : Method} {c : Code} {H : Heap} {locs : List Loc} {cells slots : Nat} {Q : State → Prop} {X : XT} {b2 : Nat → Nat} {o b L i : Nat} {xs : Nat → Int32} {M m0 : Mem} {f : Nat → Int64} {ls : Array Slot} (B : CL X b2 o p s m #[Value.ref b] c) (hX : va_X b L xs s s.heap) (hbl : b < s.heap.size) (hL : L ≤ 3584) (hi : 7 * i + 7 ≤ L) (hR : RB i M m0) (hw : HL X b2 o M m0 f s H locs) (hl : lv_has ls 7 [(0, .ref b), (1, .ref (X.2.2 0)), (2, .ref (b2 0)), (3, .ref o), (4, .int (nI (7 * i)))]) (hcs : cells + 4 ≤ 601024 ∧ slots + 24 ≤ 7293034) (hK : KO p l e s m b below meth c X b2 o i cells slots Q) : W p l e room_1 s m #[Value.ref b] below meth c H locs cells slots Q (F0 m 1174 ls []) := by
  obtain ⟨k, v, N, w, n, hf, hg, ht, hv, hkk, hR'⟩ := ob_link (p1 := (xs (7 * i + 1))) (p2 := (xs (7 * i + 2))) (p3 := (xs (7 * i + 3))) (p4 := (xs (7 * i + 4))) hR (by omega)
  refine lv_aload_n B.hx B.hb dL_law_1174 rfl (lv_at hl 1 rfl) ?_
  refine lv_aload_n B.hx B.hb dL_law_1175 rfl (lv_at hl 0 rfl) ?_
  refine lv_iload B.hx B.hb dL_law_1176 (lv_at hl 4 rfl) ?_
  refine lv_iconst (v := 1) B.hx B.hb dL_law_1178 (by decide) ?_
  refine lv_iadd B.hx B.hb dL_law_1179 ?_
  refine l_sld (k := 7 * i + 1) B hX hbl hw (nI_add (7 * i) 1) (by omega) hL dL_law_1180 ?_
  refine lv_aload_n B.hx B.hb dL_law_1181 rfl (lv_at hl 0 rfl) ?_
  refine lv_iload B.hx B.hb dL_law_1182 (lv_at hl 4 rfl) ?_
  refine lv_iconst (v := 2) B.hx B.hb dL_law_1184 (by decide) ?_
  refine lv_iadd B.hx B.hb dL_law_1185 ?_
  refine l_sld (k := 7 * i + 2) B hX hbl hw (nI_add (7 * i) 2) (by omega) hL dL_law_1186 ?_
  refine lv_aload_n B.hx B.hb dL_law_1187 rfl (lv_at hl 0 rfl) ?_
  refine lv_iload B.hx B.hb dL_law_1188 (lv_at hl 4 rfl) ?_
  refine lv_iconst (v := 3) B.hx B.hb dL_law_1190 (by decide) ?_
  refine lv_iadd B.hx B.hb dL_law_1191 ?_
  refine l_sld (k := 7 * i + 3) B hX hbl hw (nI_add (7 * i) 3) (by omega) hL dL_law_1192 ?_
  refine lv_aload_n B.hx B.hb dL_law_1193 rfl (lv_at hl 0 rfl) ?_
  refine lv_iload B.hx B.hb dL_law_1194 (lv_at hl 4 rfl) ?_
  refine lv_iconst (v := 4) B.hx B.hb dL_law_1196 (by decide) ?_
  refine lv_iadd B.hx B.hb dL_law_1197 ?_
  refine l_sld (k := 7 * i + 4) B hX hbl hw (nI_add (7 * i) 4) (by omega) hL dL_law_1198 ?_
  refine lv_aload_n B.hx B.hb dL_law_1199 rfl (lv_at hl 3 rfl) ?_
  refine l_wrap (n := 6) (As := [.ref (X.2.2 0), .int (xs (7 * i + 1)), .int (xs (7 * i + 2)), .int (xs (7 * i + 3)), .int (xs (7 * i + 4)), .ref o]) (rest := []) B hw (c_L_link l hfl X o (xs (7 * i + 1)) (xs (7 * i + 2)) (xs (7 * i + 3)) (xs (7 * i + 4)) M f (k, v, N) hf hkk _) (big_at 832 (by decide +kernel) (by decide +kernel)) (big_at 833 (by decide +kernel) (by decide +kernel)) (big_at 0 (by decide +kernel) (by decide +kernel)) (big_at 834 (by decide +kernel) (by decide +kernel)) ⟨by decide +kernel, by decide +kernel, by decide +kernel⟩ rfl hl.1 rfl rfl ⟨(Nat.le_of_ble_eq_true rfl), (Nat.le_of_ble_eq_true rfl)⟩ (Nat.le_of_ble_eq_true rfl) ⟨by show _ ≤ 601024; omega, by show _ ≤ 7293034; omega⟩ dL_law_1200 rfl (fun g H locs hg0 hw => ?_)
  refine lv_istore (lv' := [(5, .int (nI (kmI k))), (0, .ref b), (1, .ref (X.2.2 0)), (2, .ref (b2 0)), (3, .ref o), (4, .int (nI (7 * i)))]) B.hx B.hb dL_law_1203 hl (by decide) rfl (fun ls hl => ?_)
  refine lv_aload_n B.hx B.hb dL_law_1205 rfl (lv_at hl 3 rfl) ?_
  refine lv_aload_n B.hx B.hb dL_law_1206 rfl (lv_at hl 1 rfl) ?_
  refine lv_iload B.hx B.hb dL_law_1207 (lv_at hl 5 rfl) ?_
  refine lv_iconst (v := 1) B.hx B.hb dL_law_1209 (by decide) ?_
  refine lv_iadd B.hx B.hb dL_law_1210 ?_
  refine l_sld (k := 7 * i + 1) B hX hbl hw (nI_add (7 * i) 1) (by omega) hL dL_law_1211 ?_
  refine lv_aload_n B.hx B.hb dL_law_1212 rfl (lv_at hl 1 rfl) ?_
  refine lv_iload B.hx B.hb dL_law_1213 (lv_at hl 5 rfl) ?_
  refine lv_iconst (v := 2) B.hx B.hb dL_law_1215 (by decide) ?_
  refine lv_iadd B.hx B.hb dL_law_1216 ?_
  refine l_sld (k := 7 * i + 2) B hX hbl hw (nI_add (7 * i) 2) (by omega) hL dL_law_1217 ?_
  refine lv_aload_n B.hx B.hb dL_law_1218 rfl (lv_at hl 1 rfl) ?_
  refine lv_iload B.hx B.hb dL_law_1219 (lv_at hl 5 rfl) ?_
  refine lv_iconst (v := 3) B.hx B.hb dL_law_1221 (by decide) ?_
  refine lv_iadd B.hx B.hb dL_law_1222 ?_
  refine l_sld (k := 7 * i + 3) B hX hbl hw (nI_add (7 * i) 3) (by omega) hL dL_law_1223 ?_
  refine lv_aload_n B.hx B.hb dL_law_1224 rfl (lv_at hl 1 rfl) ?_
  refine lv_iload B.hx B.hb dL_law_1225 (lv_at hl 5 rfl) ?_
  refine lv_iconst (v := 4) B.hx B.hb dL_law_1227 (by decide) ?_
  refine lv_iadd B.hx B.hb dL_law_1228 ?_
  refine l_sld (k := 7 * i + 4) B hX hbl hw (nI_add (7 * i) 4) (by omega) hL dL_law_1229 ?_
  refine l_mod (As := [.int (xs (7 * i + 1)), .int (xs (7 * i + 2)), .int (xs (7 * i + 3)), .int (xs (7 * i + 4))]) (rest := []) B hw (c_X11_link l (X.1, X.2.1, b2) 5000 (xs (7 * i + 1)) (xs (7 * i + 2)) (xs (7 * i + 3)) (xs (7 * i + 4)) m0 (w, n) hg _) cv_L_162 rfl rfl hl.1 rfl rfl ⟨(Nat.le_of_ble_eq_true rfl), (Nat.le_of_ble_eq_true rfl)⟩ (Nat.le_of_ble_eq_true rfl) ⟨by show _ ≤ 601024; omega, by show _ ≤ 7293034; omega⟩ dL_law_1230 rfl (fun H locs hw => ?_)
  refine lv_istore (lv' := [(6, .int w), (5, .int (nI (kmI k))), (0, .ref b), (1, .ref (X.2.2 0)), (2, .ref (b2 0)), (3, .ref o), (4, .int (nI (7 * i)))]) B.hx B.hb dL_law_1233 hl (by decide) rfl (fun ls hl => ?_)
  refine lv_aload_n B.hx B.hb dL_law_1235 rfl (lv_at hl 4 rfl) ?_
  refine l_mod (As := []) (rest := []) B hw (c_X11_thrown l (X.1, X.2.1, b2) 5000 n (nI (kmI k)) (by rw [← ht]; rfl) _) cv_L_107 rfl rfl hl.1 rfl rfl ⟨(Nat.le_of_ble_eq_true rfl), (Nat.le_of_ble_eq_true rfl)⟩ (Nat.le_of_ble_eq_true rfl) ⟨by show _ ≤ 601024; omega, by show _ ≤ 7293034; omega⟩ dL_law_1236 rfl (fun H locs hw => ?_)
  refine lv_iload B.hx B.hb dL_law_1239 (lv_at hl 1 rfl) ?_
  refine lv_icmp_eq (tgt := 1246) B.hx B.hb dL_law_1241 (by decide) (fun _ => ?_) (fun c9 => absurd rfl c9)
  refine lv_iload B.hx B.hb dL_law_1246 (lv_at hl 1 rfl) ?_
  refine lv_if_ne (tgt := 1263) B.hx B.hb dL_law_1248 (by decide) (fun c9 => ?_) (fun c9 => ?_)
  · refine lv_goto (tgt := 2116) B.hx B.hb dL_law_1263 (by decide) ?_
    refine W.widen (k := cells + 4) (n := slots + 24) (by omega) (by omega) ?_
    exact hK _ _ _ _ _ _ hR' hw (lv_sub hl [2, 3, 4, 5, 6] rfl)
  · have hk0 := km0 hkk c9
    refine lv_aload_n B.hx B.hb dL_law_1251 rfl (lv_at hl 5 rfl) ?_
    refine lv_iconst (v := 0) B.hx B.hb dL_law_1252 (by decide) ?_
    refine l_lald B hw dL_law_1253 ?_
    refine lv_iload B.hx B.hb dL_law_1254 (lv_at hl 0 rfl) ?_
    refine lv_i2l (v := w.toInt64) B.hx B.hb dL_law_1256 rfl ?_
    refine W.lcmp B.hx B.hb dL_law_1257 ?_
    refine lv_if_eq (tgt := 1263) B.hx B.hb dL_law_1258 (by decide) (fun _ => ?_) (fun c9 => absurd ((by rw [hg0 hk0, hv hk0]; exact lg_self _)) c9)
    refine lv_goto (tgt := 2116) B.hx B.hb dL_law_1263 (by decide) ?_
    refine W.widen (k := cells + 4) (n := slots + 24) (by omega) (by omega) ?_
    exact hK _ _ _ _ _ _ hR' hw (lv_sub hl [2, 3, 4, 5, 6] rfl)
set_option maxRecDepth 100000 in
set_option maxHeartbeats 4000000 in
theorem lw_k16 (l : Launch) (hfl : l.stackTraces = false) {p : Program} {e : Env} {s : State} {m : MethodId} {below : List Frame} {meth : Method} {c : Code} {H : Heap} {locs : List Loc} {cells slots : Nat} {Q : State → Prop} {X : XT} {b2 : Nat → Nat} {o b L i : Nat} {xs : Nat → Int32} {M m0 : Mem} {f : Nat → Int64} {ls : Array Slot} (B : CL X b2 o p s m #[Value.ref b] c) (hX : va_X b L xs s s.heap) (hbl : b < s.heap.size) (hL : L ≤ 3584) (hi : 7 * i + 7 ≤ L) (hR : RB i M m0) (hw : HL X b2 o M m0 f s H locs) (hl : lv_has ls 7 [(0, .ref b), (1, .ref (X.2.2 0)), (2, .ref (b2 0)), (3, .ref o), (4, .int (nI (7 * i)))]) (hcs : cells + 4 ≤ 601024 ∧ slots + 24 ≤ 7293034) (hK : KO p l e s m b below meth c X b2 o i cells slots Q) : W p l e room_1 s m #[Value.ref b] below meth c H locs cells slots Q (F0 m 1266 ls []) := by
  obtain ⟨k, v, N, w, n, hf, hg, ht, hv, hkk, hR'⟩ := ob_where (p1 := (xs (7 * i + 1))) (p2 := (xs (7 * i + 2))) (p3 := (xs (7 * i + 3))) (p4 := (xs (7 * i + 4))) hR (by omega)
  refine lv_aload_n B.hx B.hb dL_law_1266 rfl (lv_at hl 1 rfl) ?_
  refine lv_aload_n B.hx B.hb dL_law_1267 rfl (lv_at hl 0 rfl) ?_
  refine lv_iload B.hx B.hb dL_law_1268 (lv_at hl 4 rfl) ?_
  refine lv_iconst (v := 1) B.hx B.hb dL_law_1270 (by decide) ?_
  refine lv_iadd B.hx B.hb dL_law_1271 ?_
  refine l_sld (k := 7 * i + 1) B hX hbl hw (nI_add (7 * i) 1) (by omega) hL dL_law_1272 ?_
  refine lv_aload_n B.hx B.hb dL_law_1273 rfl (lv_at hl 0 rfl) ?_
  refine lv_iload B.hx B.hb dL_law_1274 (lv_at hl 4 rfl) ?_
  refine lv_iconst (v := 2) B.hx B.hb dL_law_1276 (by decide) ?_
  refine lv_iadd B.hx B.hb dL_law_1277 ?_
  refine l_sld (k := 7 * i + 2) B hX hbl hw (nI_add (7 * i) 2) (by omega) hL dL_law_1278 ?_
  refine lv_aload_n B.hx B.hb dL_law_1279 rfl (lv_at hl 0 rfl) ?_
  refine lv_iload B.hx B.hb dL_law_1280 (lv_at hl 4 rfl) ?_
  refine lv_iconst (v := 3) B.hx B.hb dL_law_1282 (by decide) ?_
  refine lv_iadd B.hx B.hb dL_law_1283 ?_
  refine l_sld (k := 7 * i + 3) B hX hbl hw (nI_add (7 * i) 3) (by omega) hL dL_law_1284 ?_
  refine lv_aload_n B.hx B.hb dL_law_1285 rfl (lv_at hl 0 rfl) ?_
  refine lv_iload B.hx B.hb dL_law_1286 (lv_at hl 4 rfl) ?_
  refine lv_iconst (v := 4) B.hx B.hb dL_law_1288 (by decide) ?_
  refine lv_iadd B.hx B.hb dL_law_1289 ?_
  refine l_sld (k := 7 * i + 4) B hX hbl hw (nI_add (7 * i) 4) (by omega) hL dL_law_1290 ?_
  refine lv_aload_n B.hx B.hb dL_law_1291 rfl (lv_at hl 3 rfl) ?_
  refine l_wrap (n := 6) (As := [.ref (X.2.2 0), .int (xs (7 * i + 1)), .int (xs (7 * i + 2)), .int (xs (7 * i + 3)), .int (xs (7 * i + 4)), .ref o]) (rest := []) B hw (c_L_where l hfl X o (xs (7 * i + 1)) (xs (7 * i + 2)) (xs (7 * i + 3)) (xs (7 * i + 4)) M f (k, v, N) hf hkk _) (big_at 849 (by decide +kernel) (by decide +kernel)) (big_at 850 (by decide +kernel) (by decide +kernel)) (big_at 0 (by decide +kernel) (by decide +kernel)) (big_at 851 (by decide +kernel) (by decide +kernel)) ⟨by decide +kernel, by decide +kernel, by decide +kernel⟩ rfl hl.1 rfl rfl ⟨(Nat.le_of_ble_eq_true rfl), (Nat.le_of_ble_eq_true rfl)⟩ (Nat.le_of_ble_eq_true rfl) ⟨by show _ ≤ 601024; omega, by show _ ≤ 7293034; omega⟩ dL_law_1292 rfl (fun g H locs hg0 hw => ?_)
  refine lv_istore (lv' := [(5, .int (nI (kmI k))), (0, .ref b), (1, .ref (X.2.2 0)), (2, .ref (b2 0)), (3, .ref o), (4, .int (nI (7 * i)))]) B.hx B.hb dL_law_1295 hl (by decide) rfl (fun ls hl => ?_)
  refine lv_aload_n B.hx B.hb dL_law_1297 rfl (lv_at hl 3 rfl) ?_
  refine lv_aload_n B.hx B.hb dL_law_1298 rfl (lv_at hl 1 rfl) ?_
  refine lv_iload B.hx B.hb dL_law_1299 (lv_at hl 5 rfl) ?_
  refine lv_iconst (v := 1) B.hx B.hb dL_law_1301 (by decide) ?_
  refine lv_iadd B.hx B.hb dL_law_1302 ?_
  refine l_sld (k := 7 * i + 1) B hX hbl hw (nI_add (7 * i) 1) (by omega) hL dL_law_1303 ?_
  refine lv_aload_n B.hx B.hb dL_law_1304 rfl (lv_at hl 1 rfl) ?_
  refine lv_iload B.hx B.hb dL_law_1305 (lv_at hl 5 rfl) ?_
  refine lv_iconst (v := 2) B.hx B.hb dL_law_1307 (by decide) ?_
  refine lv_iadd B.hx B.hb dL_law_1308 ?_
  refine l_sld (k := 7 * i + 2) B hX hbl hw (nI_add (7 * i) 2) (by omega) hL dL_law_1309 ?_
  refine lv_aload_n B.hx B.hb dL_law_1310 rfl (lv_at hl 1 rfl) ?_
  refine lv_iload B.hx B.hb dL_law_1311 (lv_at hl 5 rfl) ?_
  refine lv_iconst (v := 3) B.hx B.hb dL_law_1313 (by decide) ?_
  refine lv_iadd B.hx B.hb dL_law_1314 ?_
  refine l_sld (k := 7 * i + 3) B hX hbl hw (nI_add (7 * i) 3) (by omega) hL dL_law_1315 ?_
  refine lv_aload_n B.hx B.hb dL_law_1316 rfl (lv_at hl 1 rfl) ?_
  refine lv_iload B.hx B.hb dL_law_1317 (lv_at hl 5 rfl) ?_
  refine lv_iconst (v := 4) B.hx B.hb dL_law_1319 (by decide) ?_
  refine lv_iadd B.hx B.hb dL_law_1320 ?_
  refine l_sld (k := 7 * i + 4) B hX hbl hw (nI_add (7 * i) 4) (by omega) hL dL_law_1321 ?_
  refine l_mod (As := [.int (xs (7 * i + 1)), .int (xs (7 * i + 2)), .int (xs (7 * i + 3)), .int (xs (7 * i + 4))]) (rest := []) B hw (c_X11_where l (X.1, X.2.1, b2) 5000 (xs (7 * i + 1)) (xs (7 * i + 2)) (xs (7 * i + 3)) (xs (7 * i + 4)) m0 (w, n) hg _) cv_L_165 rfl rfl hl.1 rfl rfl ⟨(Nat.le_of_ble_eq_true rfl), (Nat.le_of_ble_eq_true rfl)⟩ (Nat.le_of_ble_eq_true rfl) ⟨by show _ ≤ 601024; omega, by show _ ≤ 7293034; omega⟩ dL_law_1322 rfl (fun H locs hw => ?_)
  refine lv_istore (lv' := [(6, .int w), (5, .int (nI (kmI k))), (0, .ref b), (1, .ref (X.2.2 0)), (2, .ref (b2 0)), (3, .ref o), (4, .int (nI (7 * i)))]) B.hx B.hb dL_law_1325 hl (by decide) rfl (fun ls hl => ?_)
  refine lv_aload_n B.hx B.hb dL_law_1327 rfl (lv_at hl 4 rfl) ?_
  refine l_mod (As := []) (rest := []) B hw (c_X11_thrown l (X.1, X.2.1, b2) 5000 n (nI (kmI k)) (by rw [← ht]; rfl) _) cv_L_107 rfl rfl hl.1 rfl rfl ⟨(Nat.le_of_ble_eq_true rfl), (Nat.le_of_ble_eq_true rfl)⟩ (Nat.le_of_ble_eq_true rfl) ⟨by show _ ≤ 601024; omega, by show _ ≤ 7293034; omega⟩ dL_law_1328 rfl (fun H locs hw => ?_)
  refine lv_iload B.hx B.hb dL_law_1331 (lv_at hl 1 rfl) ?_
  refine lv_icmp_eq (tgt := 1338) B.hx B.hb dL_law_1333 (by decide) (fun _ => ?_) (fun c9 => absurd rfl c9)
  refine lv_iload B.hx B.hb dL_law_1338 (lv_at hl 1 rfl) ?_
  refine lv_if_ne (tgt := 1355) B.hx B.hb dL_law_1340 (by decide) (fun c9 => ?_) (fun c9 => ?_)
  · refine lv_goto (tgt := 2116) B.hx B.hb dL_law_1355 (by decide) ?_
    refine W.widen (k := cells + 4) (n := slots + 24) (by omega) (by omega) ?_
    exact hK _ _ _ _ _ _ hR' hw (lv_sub hl [2, 3, 4, 5, 6] rfl)
  · have hk0 := km0 hkk c9
    refine lv_aload_n B.hx B.hb dL_law_1343 rfl (lv_at hl 5 rfl) ?_
    refine lv_iconst (v := 0) B.hx B.hb dL_law_1344 (by decide) ?_
    refine l_lald B hw dL_law_1345 ?_
    refine lv_iload B.hx B.hb dL_law_1346 (lv_at hl 0 rfl) ?_
    refine lv_i2l (v := w.toInt64) B.hx B.hb dL_law_1348 rfl ?_
    refine W.lcmp B.hx B.hb dL_law_1349 ?_
    refine lv_if_eq (tgt := 1355) B.hx B.hb dL_law_1350 (by decide) (fun _ => ?_) (fun c9 => absurd ((by rw [hg0 hk0, hv hk0]; exact lg_self _)) c9)
    refine lv_goto (tgt := 2116) B.hx B.hb dL_law_1355 (by decide) ?_
    refine W.widen (k := cells + 4) (n := slots + 24) (by omega) (by omega) ?_
    exact hK _ _ _ _ _ _ hR' hw (lv_sub hl [2, 3, 4, 5, 6] rfl)
set_option maxRecDepth 100000 in
set_option maxHeartbeats 4000000 in
theorem lw_k17 (l : Launch) (hfl : l.stackTraces = false) {p : Program} {e : Env} {s : State} {m : MethodId} {below : List Frame} {meth : Method} {c : Code} {H : Heap} {locs : List Loc} {cells slots : Nat} {Q : State → Prop} {X : XT} {b2 : Nat → Nat} {o b L i : Nat} {xs : Nat → Int32} {M m0 : Mem} {f : Nat → Int64} {ls : Array Slot} (B : CL X b2 o p s m #[Value.ref b] c) (hX : va_X b L xs s s.heap) (hbl : b < s.heap.size) (hL : L ≤ 3584) (hi : 7 * i + 7 ≤ L) (hR : RB i M m0) (hw : HL X b2 o M m0 f s H locs) (hl : lv_has ls 7 [(0, .ref b), (1, .ref (X.2.2 0)), (2, .ref (b2 0)), (3, .ref o), (4, .int (nI (7 * i)))]) (hcs : cells + 4 ≤ 601024 ∧ slots + 24 ≤ 7293034) (hK : KO p l e s m b below meth c X b2 o i cells slots Q) : W p l e room_1 s m #[Value.ref b] below meth c H locs cells slots Q (F0 m 1358 ls []) := by
  obtain ⟨k, v, N, w, n, hf, hg, ht, hv, hkk, hR'⟩ := ob_out (p1 := (xs (7 * i + 1))) (p2 := (xs (7 * i + 2))) hR (by omega)
  refine lv_aload_n B.hx B.hb dL_law_1358 rfl (lv_at hl 1 rfl) ?_
  refine lv_aload_n B.hx B.hb dL_law_1359 rfl (lv_at hl 0 rfl) ?_
  refine lv_iload B.hx B.hb dL_law_1360 (lv_at hl 4 rfl) ?_
  refine lv_iconst (v := 1) B.hx B.hb dL_law_1362 (by decide) ?_
  refine lv_iadd B.hx B.hb dL_law_1363 ?_
  refine l_sld (k := 7 * i + 1) B hX hbl hw (nI_add (7 * i) 1) (by omega) hL dL_law_1364 ?_
  refine lv_aload_n B.hx B.hb dL_law_1365 rfl (lv_at hl 0 rfl) ?_
  refine lv_iload B.hx B.hb dL_law_1366 (lv_at hl 4 rfl) ?_
  refine lv_iconst (v := 2) B.hx B.hb dL_law_1368 (by decide) ?_
  refine lv_iadd B.hx B.hb dL_law_1369 ?_
  refine l_sld (k := 7 * i + 2) B hX hbl hw (nI_add (7 * i) 2) (by omega) hL dL_law_1370 ?_
  refine lv_aload_n B.hx B.hb dL_law_1371 rfl (lv_at hl 3 rfl) ?_
  refine l_wrap (n := 4) (As := [.ref (X.2.2 0), .int (xs (7 * i + 1)), .int (xs (7 * i + 2)), .ref o]) (rest := []) B hw (c_L_out l hfl X o (xs (7 * i + 1)) (xs (7 * i + 2)) M f (k, v, N) hf hkk _) (big_at 863 (by decide +kernel) (by decide +kernel)) (big_at 864 (by decide +kernel) (by decide +kernel)) (big_at 0 (by decide +kernel) (by decide +kernel)) (big_at 865 (by decide +kernel) (by decide +kernel)) ⟨by decide +kernel, by decide +kernel, by decide +kernel⟩ rfl hl.1 rfl rfl ⟨(Nat.le_of_ble_eq_true rfl), (Nat.le_of_ble_eq_true rfl)⟩ (Nat.le_of_ble_eq_true rfl) ⟨by show _ ≤ 601024; omega, by show _ ≤ 7293034; omega⟩ dL_law_1372 rfl (fun g H locs hg0 hw => ?_)
  refine lv_istore (lv' := [(5, .int (nI (kmS k))), (0, .ref b), (1, .ref (X.2.2 0)), (2, .ref (b2 0)), (3, .ref o), (4, .int (nI (7 * i)))]) B.hx B.hb dL_law_1375 hl (by decide) rfl (fun ls hl => ?_)
  refine lv_aload_n B.hx B.hb dL_law_1377 rfl (lv_at hl 3 rfl) ?_
  refine lv_aload_n B.hx B.hb dL_law_1378 rfl (lv_at hl 1 rfl) ?_
  refine lv_iload B.hx B.hb dL_law_1379 (lv_at hl 5 rfl) ?_
  refine lv_iconst (v := 1) B.hx B.hb dL_law_1381 (by decide) ?_
  refine lv_iadd B.hx B.hb dL_law_1382 ?_
  refine l_sld (k := 7 * i + 1) B hX hbl hw (nI_add (7 * i) 1) (by omega) hL dL_law_1383 ?_
  refine lv_aload_n B.hx B.hb dL_law_1384 rfl (lv_at hl 1 rfl) ?_
  refine lv_iload B.hx B.hb dL_law_1385 (lv_at hl 5 rfl) ?_
  refine lv_iconst (v := 2) B.hx B.hb dL_law_1387 (by decide) ?_
  refine lv_iadd B.hx B.hb dL_law_1388 ?_
  refine l_sld (k := 7 * i + 2) B hX hbl hw (nI_add (7 * i) 2) (by omega) hL dL_law_1389 ?_
  refine l_mod (As := [.int (xs (7 * i + 1)), .int (xs (7 * i + 2))]) (rest := []) B hw (c_X11_out l (X.1, X.2.1, b2) 5000 (xs (7 * i + 1)) (xs (7 * i + 2)) m0 (w, n) hg _) cv_L_168 rfl rfl hl.1 rfl rfl ⟨(Nat.le_of_ble_eq_true rfl), (Nat.le_of_ble_eq_true rfl)⟩ (Nat.le_of_ble_eq_true rfl) ⟨by show _ ≤ 601024; omega, by show _ ≤ 7293034; omega⟩ dL_law_1390 rfl (fun H locs hw => ?_)
  refine lv_istore (lv' := [(6, .int w), (5, .int (nI (kmS k))), (0, .ref b), (1, .ref (X.2.2 0)), (2, .ref (b2 0)), (3, .ref o), (4, .int (nI (7 * i)))]) B.hx B.hb dL_law_1393 hl (by decide) rfl (fun ls hl => ?_)
  refine lv_aload_n B.hx B.hb dL_law_1395 rfl (lv_at hl 4 rfl) ?_
  refine l_mod (As := []) (rest := []) B hw (c_X11_thrown l (X.1, X.2.1, b2) 5000 n (nI (kmS k)) (by rw [← ht]; rfl) _) cv_L_107 rfl rfl hl.1 rfl rfl ⟨(Nat.le_of_ble_eq_true rfl), (Nat.le_of_ble_eq_true rfl)⟩ (Nat.le_of_ble_eq_true rfl) ⟨by show _ ≤ 601024; omega, by show _ ≤ 7293034; omega⟩ dL_law_1396 rfl (fun H locs hw => ?_)
  refine lv_iload B.hx B.hb dL_law_1399 (lv_at hl 1 rfl) ?_
  refine lv_icmp_eq (tgt := 1406) B.hx B.hb dL_law_1401 (by decide) (fun _ => ?_) (fun c9 => absurd rfl c9)
  refine lv_iload B.hx B.hb dL_law_1406 (lv_at hl 1 rfl) ?_
  refine lv_if_ne (tgt := 1423) B.hx B.hb dL_law_1408 (by decide) (fun c9 => ?_) (fun c9 => ?_)
  · refine lv_goto (tgt := 2116) B.hx B.hb dL_law_1423 (by decide) ?_
    refine W.widen (k := cells + 4) (n := slots + 24) (by omega) (by omega) ?_
    exact hK _ _ _ _ _ _ hR' hw (lv_sub hl [2, 3, 4, 5, 6] rfl)
  · have hk0 := km0 hkk c9
    refine lv_aload_n B.hx B.hb dL_law_1411 rfl (lv_at hl 5 rfl) ?_
    refine lv_iconst (v := 0) B.hx B.hb dL_law_1412 (by decide) ?_
    refine l_lald B hw dL_law_1413 ?_
    refine lv_iload B.hx B.hb dL_law_1414 (lv_at hl 0 rfl) ?_
    refine lv_i2l (v := w.toInt64) B.hx B.hb dL_law_1416 rfl ?_
    refine W.lcmp B.hx B.hb dL_law_1417 ?_
    refine lv_if_eq (tgt := 1423) B.hx B.hb dL_law_1418 (by decide) (fun _ => ?_) (fun c9 => absurd ((by rw [hg0 hk0, hv hk0]; exact lg_self _)) c9)
    refine lv_goto (tgt := 2116) B.hx B.hb dL_law_1423 (by decide) ?_
    refine W.widen (k := cells + 4) (n := slots + 24) (by omega) (by omega) ?_
    exact hK _ _ _ _ _ _ hR' hw (lv_sub hl [2, 3, 4, 5, 6] rfl)
set_option maxRecDepth 100000 in
set_option maxHeartbeats 4000000 in
theorem lw_k18 (l : Launch) (hfl : l.stackTraces = false) {p : Program} {e : Env} {s : State} {m : MethodId} {below : List Frame} {meth : Method} {c : Code} {H : Heap} {locs : List Loc} {cells slots : Nat} {Q : State → Prop} {X : XT} {b2 : Nat → Nat} {o b L i : Nat} {xs : Nat → Int32} {M m0 : Mem} {f : Nat → Int64} {ls : Array Slot} (B : CL X b2 o p s m #[Value.ref b] c) (hX : va_X b L xs s s.heap) (hbl : b < s.heap.size) (hL : L ≤ 3584) (hi : 7 * i + 7 ≤ L) (hR : RB i M m0) (hw : HL X b2 o M m0 f s H locs) (hl : lv_has ls 7 [(0, .ref b), (1, .ref (X.2.2 0)), (2, .ref (b2 0)), (3, .ref o), (4, .int (nI (7 * i)))]) (hcs : cells + 4 ≤ 601024 ∧ slots + 24 ≤ 7293034) (hK : KO p l e s m b below meth c X b2 o i cells slots Q) : W p l e room_1 s m #[Value.ref b] below meth c H locs cells slots Q (F0 m 1426 ls []) := by
  by_cases hz : xs (7 * i + 2) = 0
  · obtain ⟨k, N, n, hf, hg, hk1, hR'⟩ := ob_shape (p1 := (xs (7 * i + 1))) (p2 := 0) hR (by decide)
    have ht : n 0 0 = nI (kmP k) := by rcases hk1 with ⟨h1, h2⟩ | ⟨h1, h2⟩ <;> rw [h1, h2] <;> rfl
    have hkk : kk kmP k := by rcases hk1 with ⟨h1, h2⟩ | ⟨h1, h2⟩ <;> rw [h1] <;> decide
    refine lv_aload_n B.hx B.hb dL_law_1426 rfl (lv_at hl 1 rfl) ?_
    refine lv_aload_n B.hx B.hb dL_law_1427 rfl (lv_at hl 0 rfl) ?_
    refine lv_iload B.hx B.hb dL_law_1428 (lv_at hl 4 rfl) ?_
    refine lv_iconst (v := 1) B.hx B.hb dL_law_1430 (by decide) ?_
    refine lv_iadd B.hx B.hb dL_law_1431 ?_
    refine l_sld (k := 7 * i + 1) B hX hbl hw (nI_add (7 * i) 1) (by omega) hL dL_law_1432 ?_
    refine lv_aload_n B.hx B.hb dL_law_1433 rfl (lv_at hl 0 rfl) ?_
    refine lv_iload B.hx B.hb dL_law_1434 (lv_at hl 4 rfl) ?_
    refine lv_iconst (v := 2) B.hx B.hb dL_law_1436 (by decide) ?_
    refine lv_iadd B.hx B.hb dL_law_1437 ?_
    refine l_sld (k := 7 * i + 2) B hX hbl hw (nI_add (7 * i) 2) (by omega) hL dL_law_1438 ?_
    refine lv_if_eq (tgt := 1446) B.hx B.hb dL_law_1439 (by decide) (fun _ => ?_) (fun c9 => absurd hz c9)
    refine lv_iconst (v := 0) B.hx B.hb dL_law_1446 (by decide) ?_
    refine l_wrap (n := 3) (As := [.ref (X.2.2 0), .int (xs (7 * i + 1)), .int 0]) (rest := []) B hw (c_L_shape l hfl X o (xs (7 * i + 1)) 0 M f (k, 0, N) hf hkk _) (big_at 874 (by decide +kernel) (by decide +kernel)) (big_at 875 (by decide +kernel) (by decide +kernel)) (big_at 0 (by decide +kernel) (by decide +kernel)) (big_at 876 (by decide +kernel) (by decide +kernel)) ⟨by decide +kernel, by decide +kernel, by decide +kernel⟩ rfl hl.1 rfl rfl ⟨(Nat.le_of_ble_eq_true rfl), (Nat.le_of_ble_eq_true rfl)⟩ (Nat.le_of_ble_eq_true rfl) ⟨by show _ ≤ 601024; omega, by show _ ≤ 7293034; omega⟩ dL_law_1447 rfl (fun g H locs hg0 hw => ?_)
    refine lv_istore (lv' := [(5, .int (nI (kmP k))), (0, .ref b), (1, .ref (X.2.2 0)), (2, .ref (b2 0)), (3, .ref o), (4, .int (nI (7 * i)))]) B.hx B.hb dL_law_1450 hl (by decide) rfl (fun ls hl => ?_)
    refine lv_aload_n B.hx B.hb dL_law_1452 rfl (lv_at hl 3 rfl) ?_
    refine lv_aload_n B.hx B.hb dL_law_1453 rfl (lv_at hl 1 rfl) ?_
    refine lv_iload B.hx B.hb dL_law_1454 (lv_at hl 5 rfl) ?_
    refine lv_iconst (v := 1) B.hx B.hb dL_law_1456 (by decide) ?_
    refine lv_iadd B.hx B.hb dL_law_1457 ?_
    refine l_sld (k := 7 * i + 1) B hX hbl hw (nI_add (7 * i) 1) (by omega) hL dL_law_1458 ?_
    refine lv_aload_n B.hx B.hb dL_law_1459 rfl (lv_at hl 1 rfl) ?_
    refine lv_iload B.hx B.hb dL_law_1460 (lv_at hl 5 rfl) ?_
    refine lv_iconst (v := 2) B.hx B.hb dL_law_1462 (by decide) ?_
    refine lv_iadd B.hx B.hb dL_law_1463 ?_
    refine l_sld (k := 7 * i + 2) B hX hbl hw (nI_add (7 * i) 2) (by omega) hL dL_law_1464 ?_
    refine lv_if_eq (tgt := 1472) B.hx B.hb dL_law_1465 (by decide) (fun _ => ?_) (fun c9 => absurd hz c9)
    refine lv_iconst (v := 0) B.hx B.hb dL_law_1472 (by decide) ?_
    refine l_modv (As := [.int (xs (7 * i + 1)), .int 0]) (rest := []) B hw (c_X11_shape l (X.1, X.2.1, b2) 5000 (xs (7 * i + 1)) 0 m0 n hg _) cv_L_172 rfl rfl hl.1 rfl rfl ⟨(Nat.le_of_ble_eq_true rfl), (Nat.le_of_ble_eq_true rfl)⟩ (Nat.le_of_ble_eq_true rfl) ⟨by show _ ≤ 601024; omega, by show _ ≤ 7293034; omega⟩ dL_law_1473 rfl (fun H locs hw => ?_)
    refine lv_aload_n B.hx B.hb dL_law_1476 rfl (lv_at hl 3 rfl) ?_
    refine l_mod (As := []) (rest := []) B hw (c_X11_thrown l (X.1, X.2.1, b2) 5000 n (nI (kmP k)) (by rw [← ht]; rfl) _) cv_L_107 rfl rfl hl.1 rfl rfl ⟨(Nat.le_of_ble_eq_true rfl), (Nat.le_of_ble_eq_true rfl)⟩ (Nat.le_of_ble_eq_true rfl) ⟨by show _ ≤ 601024; omega, by show _ ≤ 7293034; omega⟩ dL_law_1477 rfl (fun H locs hw => ?_)
    refine lv_iload B.hx B.hb dL_law_1480 (lv_at hl 0 rfl) ?_
    refine lv_icmp_eq (tgt := 1487) B.hx B.hb dL_law_1482 (by decide) (fun _ => ?_) (fun c9 => absurd rfl c9)
    refine lv_goto (tgt := 2116) B.hx B.hb dL_law_1487 (by decide) ?_
    refine W.widen (k := cells + 4) (n := slots + 24) (by omega) (by omega) ?_
    exact hK _ _ _ _ _ _ hR' hw (lv_sub hl [1, 2, 3, 4, 5] rfl)
  · obtain ⟨k, N, n, hf, hg, hk1, hR'⟩ := ob_shape (p1 := (xs (7 * i + 1))) (p2 := 1) hR (by decide)
    have ht : n 0 0 = nI (kmP k) := by rcases hk1 with ⟨h1, h2⟩ | ⟨h1, h2⟩ <;> rw [h1, h2] <;> rfl
    have hkk : kk kmP k := by rcases hk1 with ⟨h1, h2⟩ | ⟨h1, h2⟩ <;> rw [h1] <;> decide
    refine lv_aload_n B.hx B.hb dL_law_1426 rfl (lv_at hl 1 rfl) ?_
    refine lv_aload_n B.hx B.hb dL_law_1427 rfl (lv_at hl 0 rfl) ?_
    refine lv_iload B.hx B.hb dL_law_1428 (lv_at hl 4 rfl) ?_
    refine lv_iconst (v := 1) B.hx B.hb dL_law_1430 (by decide) ?_
    refine lv_iadd B.hx B.hb dL_law_1431 ?_
    refine l_sld (k := 7 * i + 1) B hX hbl hw (nI_add (7 * i) 1) (by omega) hL dL_law_1432 ?_
    refine lv_aload_n B.hx B.hb dL_law_1433 rfl (lv_at hl 0 rfl) ?_
    refine lv_iload B.hx B.hb dL_law_1434 (lv_at hl 4 rfl) ?_
    refine lv_iconst (v := 2) B.hx B.hb dL_law_1436 (by decide) ?_
    refine lv_iadd B.hx B.hb dL_law_1437 ?_
    refine l_sld (k := 7 * i + 2) B hX hbl hw (nI_add (7 * i) 2) (by omega) hL dL_law_1438 ?_
    refine lv_if_eq (tgt := 1446) B.hx B.hb dL_law_1439 (by decide) (fun c9 => absurd c9 hz) (fun _ => ?_)
    refine lv_iconst (v := 1) B.hx B.hb dL_law_1442 (by decide) ?_
    refine lv_goto (tgt := 1447) B.hx B.hb dL_law_1443 (by decide) ?_
    refine l_wrap (n := 3) (As := [.ref (X.2.2 0), .int (xs (7 * i + 1)), .int 1]) (rest := []) B hw (c_L_shape l hfl X o (xs (7 * i + 1)) 1 M f (k, 0, N) hf hkk _) (big_at 874 (by decide +kernel) (by decide +kernel)) (big_at 875 (by decide +kernel) (by decide +kernel)) (big_at 0 (by decide +kernel) (by decide +kernel)) (big_at 876 (by decide +kernel) (by decide +kernel)) ⟨by decide +kernel, by decide +kernel, by decide +kernel⟩ rfl hl.1 rfl rfl ⟨(Nat.le_of_ble_eq_true rfl), (Nat.le_of_ble_eq_true rfl)⟩ (Nat.le_of_ble_eq_true rfl) ⟨by show _ ≤ 601024; omega, by show _ ≤ 7293034; omega⟩ dL_law_1447 rfl (fun g H locs hg0 hw => ?_)
    refine lv_istore (lv' := [(5, .int (nI (kmP k))), (0, .ref b), (1, .ref (X.2.2 0)), (2, .ref (b2 0)), (3, .ref o), (4, .int (nI (7 * i)))]) B.hx B.hb dL_law_1450 hl (by decide) rfl (fun ls hl => ?_)
    refine lv_aload_n B.hx B.hb dL_law_1452 rfl (lv_at hl 3 rfl) ?_
    refine lv_aload_n B.hx B.hb dL_law_1453 rfl (lv_at hl 1 rfl) ?_
    refine lv_iload B.hx B.hb dL_law_1454 (lv_at hl 5 rfl) ?_
    refine lv_iconst (v := 1) B.hx B.hb dL_law_1456 (by decide) ?_
    refine lv_iadd B.hx B.hb dL_law_1457 ?_
    refine l_sld (k := 7 * i + 1) B hX hbl hw (nI_add (7 * i) 1) (by omega) hL dL_law_1458 ?_
    refine lv_aload_n B.hx B.hb dL_law_1459 rfl (lv_at hl 1 rfl) ?_
    refine lv_iload B.hx B.hb dL_law_1460 (lv_at hl 5 rfl) ?_
    refine lv_iconst (v := 2) B.hx B.hb dL_law_1462 (by decide) ?_
    refine lv_iadd B.hx B.hb dL_law_1463 ?_
    refine l_sld (k := 7 * i + 2) B hX hbl hw (nI_add (7 * i) 2) (by omega) hL dL_law_1464 ?_
    refine lv_if_eq (tgt := 1472) B.hx B.hb dL_law_1465 (by decide) (fun c9 => absurd c9 hz) (fun _ => ?_)
    refine lv_iconst (v := 1) B.hx B.hb dL_law_1468 (by decide) ?_
    refine lv_goto (tgt := 1473) B.hx B.hb dL_law_1469 (by decide) ?_
    refine l_modv (As := [.int (xs (7 * i + 1)), .int 1]) (rest := []) B hw (c_X11_shape l (X.1, X.2.1, b2) 5000 (xs (7 * i + 1)) 1 m0 n hg _) cv_L_172 rfl rfl hl.1 rfl rfl ⟨(Nat.le_of_ble_eq_true rfl), (Nat.le_of_ble_eq_true rfl)⟩ (Nat.le_of_ble_eq_true rfl) ⟨by show _ ≤ 601024; omega, by show _ ≤ 7293034; omega⟩ dL_law_1473 rfl (fun H locs hw => ?_)
    refine lv_aload_n B.hx B.hb dL_law_1476 rfl (lv_at hl 3 rfl) ?_
    refine l_mod (As := []) (rest := []) B hw (c_X11_thrown l (X.1, X.2.1, b2) 5000 n (nI (kmP k)) (by rw [← ht]; rfl) _) cv_L_107 rfl rfl hl.1 rfl rfl ⟨(Nat.le_of_ble_eq_true rfl), (Nat.le_of_ble_eq_true rfl)⟩ (Nat.le_of_ble_eq_true rfl) ⟨by show _ ≤ 601024; omega, by show _ ≤ 7293034; omega⟩ dL_law_1477 rfl (fun H locs hw => ?_)
    refine lv_iload B.hx B.hb dL_law_1480 (lv_at hl 0 rfl) ?_
    refine lv_icmp_eq (tgt := 1487) B.hx B.hb dL_law_1482 (by decide) (fun _ => ?_) (fun c9 => absurd rfl c9)
    refine lv_goto (tgt := 2116) B.hx B.hb dL_law_1487 (by decide) ?_
    refine W.widen (k := cells + 4) (n := slots + 24) (by omega) (by omega) ?_
    exact hK _ _ _ _ _ _ hR' hw (lv_sub hl [1, 2, 3, 4, 5] rfl)
set_option maxRecDepth 100000 in
set_option maxHeartbeats 4000000 in
theorem lw_k19 (l : Launch) (hfl : l.stackTraces = false) {p : Program} {e : Env} {s : State} {m : MethodId} {below : List Frame} {meth : Method} {c : Code} {H : Heap} {locs : List Loc} {cells slots : Nat} {Q : State → Prop} {X : XT} {b2 : Nat → Nat} {o b L i : Nat} {xs : Nat → Int32} {M m0 : Mem} {f : Nat → Int64} {ls : Array Slot} (B : CL X b2 o p s m #[Value.ref b] c) (hX : va_X b L xs s s.heap) (hbl : b < s.heap.size) (hL : L ≤ 3584) (hi : 7 * i + 7 ≤ L) (hR : RB i M m0) (hw : HL X b2 o M m0 f s H locs) (hl : lv_has ls 7 [(0, .ref b), (1, .ref (X.2.2 0)), (2, .ref (b2 0)), (3, .ref o), (4, .int (nI (7 * i)))]) (hcs : cells + 4 ≤ 601024 ∧ slots + 24 ≤ 7293034) (hK : KO p l e s m b below meth c X b2 o i cells slots Q) : W p l e room_1 s m #[Value.ref b] below meth c H locs cells slots Q (F0 m 1490 ls []) := by
  obtain ⟨v, N, n, hf, hg, hR'⟩ := ob_clear hR
  refine lv_aload_n B.hx B.hb dL_law_1490 rfl (lv_at hl 1 rfl) ?_
  refine l_cls (As := []) (rest := []) B hw (c_X10_clear l X 5000 M (v, N) hf _) cv_L_173 rfl rfl hl.1 rfl rfl ⟨(Nat.le_of_ble_eq_true rfl), (Nat.le_of_ble_eq_true rfl)⟩ (Nat.le_of_ble_eq_true rfl) ⟨by show _ ≤ 601024; omega, by show _ ≤ 7293034; omega⟩ dL_law_1491 rfl (fun H locs hw => ?_)
  refine lv_aload_n B.hx B.hb dL_law_1494 rfl (lv_at hl 2 rfl) ?_
  refine l_mod (As := []) (rest := [.int v]) B hw (c_X11_clear l (X.1, X.2.1, b2) 5000 m0 (v, n) hg _) cv_L_176 rfl rfl hl.1 rfl rfl ⟨(Nat.le_of_ble_eq_true rfl), (Nat.le_of_ble_eq_true rfl)⟩ (Nat.le_of_ble_eq_true rfl) ⟨by show _ ≤ 601024; omega, by show _ ≤ 7293034; omega⟩ dL_law_1495 rfl (fun H locs hw => ?_)
  refine lv_icmp_eq (tgt := 2116) B.hx B.hb dL_law_1498 (by decide) (fun _ => ?_) (fun c9 => absurd rfl c9)
  refine W.widen (k := cells + 4) (n := slots + 24) (by omega) (by omega) ?_
  exact hK _ _ _ _ _ _ hR' hw (lv_sub hl [0, 1, 2, 3, 4] rfl)
set_option maxRecDepth 100000 in
set_option maxHeartbeats 4000000 in
theorem lw_k20 (l : Launch) (hfl : l.stackTraces = false) {p : Program} {e : Env} {s : State} {m : MethodId} {below : List Frame} {meth : Method} {c : Code} {H : Heap} {locs : List Loc} {cells slots : Nat} {Q : State → Prop} {X : XT} {b2 : Nat → Nat} {o b L i : Nat} {xs : Nat → Int32} {M m0 : Mem} {f : Nat → Int64} {ls : Array Slot} (B : CL X b2 o p s m #[Value.ref b] c) (hX : va_X b L xs s s.heap) (hbl : b < s.heap.size) (hL : L ≤ 3584) (hi : 7 * i + 7 ≤ L) (hR : RB i M m0) (hw : HL X b2 o M m0 f s H locs) (hl : lv_has ls 7 [(0, .ref b), (1, .ref (X.2.2 0)), (2, .ref (b2 0)), (3, .ref o), (4, .int (nI (7 * i)))]) (hcs : cells + 4 ≤ 601024 ∧ slots + 24 ≤ 7293034) (hK : KO p l e s m b below meth c X b2 o i cells slots Q) : W p l e room_1 s m #[Value.ref b] below meth c H locs cells slots Q (F0 m 1503 ls []) := by
  obtain ⟨k, v, N, w, n, hf, hg, ht, hv, hkk, hR'⟩ := ob_ask (p1 := (xs (7 * i + 1))) (p2 := (xs (7 * i + 2))) hR (by omega)
  refine lv_aload_n B.hx B.hb dL_law_1503 rfl (lv_at hl 1 rfl) ?_
  refine lv_aload_n B.hx B.hb dL_law_1504 rfl (lv_at hl 0 rfl) ?_
  refine lv_iload B.hx B.hb dL_law_1505 (lv_at hl 4 rfl) ?_
  refine lv_iconst (v := 1) B.hx B.hb dL_law_1507 (by decide) ?_
  refine lv_iadd B.hx B.hb dL_law_1508 ?_
  refine l_sld (k := 7 * i + 1) B hX hbl hw (nI_add (7 * i) 1) (by omega) hL dL_law_1509 ?_
  refine lv_aload_n B.hx B.hb dL_law_1510 rfl (lv_at hl 0 rfl) ?_
  refine lv_iload B.hx B.hb dL_law_1511 (lv_at hl 4 rfl) ?_
  refine lv_iconst (v := 2) B.hx B.hb dL_law_1513 (by decide) ?_
  refine lv_iadd B.hx B.hb dL_law_1514 ?_
  refine l_sld (k := 7 * i + 2) B hX hbl hw (nI_add (7 * i) 2) (by omega) hL dL_law_1515 ?_
  refine lv_aload_n B.hx B.hb dL_law_1516 rfl (lv_at hl 3 rfl) ?_
  refine l_wrap (n := 4) (As := [.ref (X.2.2 0), .int (xs (7 * i + 1)), .int (xs (7 * i + 2)), .ref o]) (rest := []) B hw (c_L_ask l hfl X o (xs (7 * i + 1)) (xs (7 * i + 2)) M f (k, v, N) hf hkk _) (big_at 881 (by decide +kernel) (by decide +kernel)) (big_at 882 (by decide +kernel) (by decide +kernel)) (big_at 0 (by decide +kernel) (by decide +kernel)) (big_at 883 (by decide +kernel) (by decide +kernel)) ⟨by decide +kernel, by decide +kernel, by decide +kernel⟩ rfl hl.1 rfl rfl ⟨(Nat.le_of_ble_eq_true rfl), (Nat.le_of_ble_eq_true rfl)⟩ (Nat.le_of_ble_eq_true rfl) ⟨by show _ ≤ 601024; omega, by show _ ≤ 7293034; omega⟩ dL_law_1517 rfl (fun g H locs hg0 hw => ?_)
  refine lv_istore (lv' := [(5, .int (nI (kmA k))), (0, .ref b), (1, .ref (X.2.2 0)), (2, .ref (b2 0)), (3, .ref o), (4, .int (nI (7 * i)))]) B.hx B.hb dL_law_1520 hl (by decide) rfl (fun ls hl => ?_)
  refine lv_aload_n B.hx B.hb dL_law_1522 rfl (lv_at hl 3 rfl) ?_
  refine lv_aload_n B.hx B.hb dL_law_1523 rfl (lv_at hl 1 rfl) ?_
  refine lv_iload B.hx B.hb dL_law_1524 (lv_at hl 5 rfl) ?_
  refine lv_iconst (v := 1) B.hx B.hb dL_law_1526 (by decide) ?_
  refine lv_iadd B.hx B.hb dL_law_1527 ?_
  refine l_sld (k := 7 * i + 1) B hX hbl hw (nI_add (7 * i) 1) (by omega) hL dL_law_1528 ?_
  refine lv_aload_n B.hx B.hb dL_law_1529 rfl (lv_at hl 1 rfl) ?_
  refine lv_iload B.hx B.hb dL_law_1530 (lv_at hl 5 rfl) ?_
  refine lv_iconst (v := 2) B.hx B.hb dL_law_1532 (by decide) ?_
  refine lv_iadd B.hx B.hb dL_law_1533 ?_
  refine l_sld (k := 7 * i + 2) B hX hbl hw (nI_add (7 * i) 2) (by omega) hL dL_law_1534 ?_
  refine l_mod (As := [.int (xs (7 * i + 1)), .int (xs (7 * i + 2))]) (rest := []) B hw (c_X11_ask l (X.1, X.2.1, b2) 5000 (xs (7 * i + 1)) (xs (7 * i + 2)) m0 (w, n) hg _) cv_L_179 rfl rfl hl.1 rfl rfl ⟨(Nat.le_of_ble_eq_true rfl), (Nat.le_of_ble_eq_true rfl)⟩ (Nat.le_of_ble_eq_true rfl) ⟨by show _ ≤ 601024; omega, by show _ ≤ 7293034; omega⟩ dL_law_1535 rfl (fun H locs hw => ?_)
  refine lv_istore (lv' := [(6, .int w), (5, .int (nI (kmA k))), (0, .ref b), (1, .ref (X.2.2 0)), (2, .ref (b2 0)), (3, .ref o), (4, .int (nI (7 * i)))]) B.hx B.hb dL_law_1538 hl (by decide) rfl (fun ls hl => ?_)
  refine lv_aload_n B.hx B.hb dL_law_1540 rfl (lv_at hl 4 rfl) ?_
  refine l_mod (As := []) (rest := []) B hw (c_X11_thrown l (X.1, X.2.1, b2) 5000 n (nI (kmA k)) (by rw [← ht]; rfl) _) cv_L_107 rfl rfl hl.1 rfl rfl ⟨(Nat.le_of_ble_eq_true rfl), (Nat.le_of_ble_eq_true rfl)⟩ (Nat.le_of_ble_eq_true rfl) ⟨by show _ ≤ 601024; omega, by show _ ≤ 7293034; omega⟩ dL_law_1541 rfl (fun H locs hw => ?_)
  refine lv_iload B.hx B.hb dL_law_1544 (lv_at hl 1 rfl) ?_
  refine lv_icmp_eq (tgt := 1551) B.hx B.hb dL_law_1546 (by decide) (fun _ => ?_) (fun c9 => absurd rfl c9)
  refine lv_iload B.hx B.hb dL_law_1551 (lv_at hl 1 rfl) ?_
  refine lv_if_ne (tgt := 1568) B.hx B.hb dL_law_1553 (by decide) (fun c9 => ?_) (fun c9 => ?_)
  · refine lv_goto (tgt := 2116) B.hx B.hb dL_law_1568 (by decide) ?_
    refine W.widen (k := cells + 4) (n := slots + 24) (by omega) (by omega) ?_
    exact hK _ _ _ _ _ _ hR' hw (lv_sub hl [2, 3, 4, 5, 6] rfl)
  · have hk0 := km0 hkk c9
    refine lv_aload_n B.hx B.hb dL_law_1556 rfl (lv_at hl 5 rfl) ?_
    refine lv_iconst (v := 0) B.hx B.hb dL_law_1557 (by decide) ?_
    refine l_lald B hw dL_law_1558 ?_
    refine lv_iload B.hx B.hb dL_law_1559 (lv_at hl 0 rfl) ?_
    refine lv_i2l (v := w.toInt64) B.hx B.hb dL_law_1561 rfl ?_
    refine W.lcmp B.hx B.hb dL_law_1562 ?_
    refine lv_if_eq (tgt := 1568) B.hx B.hb dL_law_1563 (by decide) (fun _ => ?_) (fun c9 => absurd ((by rw [hg0 hk0, hv hk0]; exact lg_self _)) c9)
    refine lv_goto (tgt := 2116) B.hx B.hb dL_law_1568 (by decide) ?_
    refine W.widen (k := cells + 4) (n := slots + 24) (by omega) (by omega) ?_
    exact hK _ _ _ _ _ _ hR' hw (lv_sub hl [2, 3, 4, 5, 6] rfl)
set_option maxRecDepth 100000 in
set_option maxHeartbeats 4000000 in
theorem lw_k21 (l : Launch) (hfl : l.stackTraces = false) {p : Program} {e : Env} {s : State} {m : MethodId} {below : List Frame} {meth : Method} {c : Code} {H : Heap} {locs : List Loc} {cells slots : Nat} {Q : State → Prop} {X : XT} {b2 : Nat → Nat} {o b L i : Nat} {xs : Nat → Int32} {M m0 : Mem} {f : Nat → Int64} {ls : Array Slot} (B : CL X b2 o p s m #[Value.ref b] c) (hX : va_X b L xs s s.heap) (hbl : b < s.heap.size) (hL : L ≤ 3584) (hi : 7 * i + 7 ≤ L) (hR : RB i M m0) (hw : HL X b2 o M m0 f s H locs) (hl : lv_has ls 7 [(0, .ref b), (1, .ref (X.2.2 0)), (2, .ref (b2 0)), (3, .ref o), (4, .int (nI (7 * i)))]) (hcs : cells + 4 ≤ 601024 ∧ slots + 24 ≤ 7293034) (hK : KO p l e s m b below meth c X b2 o i cells slots Q) : W p l e room_1 s m #[Value.ref b] below meth c H locs cells slots Q (F0 m 1571 ls []) := by
  obtain ⟨v, n, hf, hg, hR'⟩ := (ob_gets hR).2.2.2.1
  refine lv_aload_n B.hx B.hb dL_law_1571 rfl (lv_at hl 1 rfl) ?_
  refine l_cls (As := []) (rest := []) B hw (c_X10_answers l X 5000 M v hf _) cv_L_180 rfl rfl hl.1 rfl rfl ⟨(Nat.le_of_ble_eq_true rfl), (Nat.le_of_ble_eq_true rfl)⟩ (Nat.le_of_ble_eq_true rfl) ⟨by show _ ≤ 601024; omega, by show _ ≤ 7293034; omega⟩ dL_law_1572 rfl (fun H locs hw => ?_)
  refine lv_aload_n B.hx B.hb dL_law_1575 rfl (lv_at hl 2 rfl) ?_
  refine l_mod (As := []) (rest := [.int v]) B hw (c_X11_answers l (X.1, X.2.1, b2) 5000 m0 (v, n) hg _) cv_L_183 rfl rfl hl.1 rfl rfl ⟨(Nat.le_of_ble_eq_true rfl), (Nat.le_of_ble_eq_true rfl)⟩ (Nat.le_of_ble_eq_true rfl) ⟨by show _ ≤ 601024; omega, by show _ ≤ 7293034; omega⟩ dL_law_1576 rfl (fun H locs hw => ?_)
  refine lv_icmp_eq (tgt := 2116) B.hx B.hb dL_law_1579 (by decide) (fun _ => ?_) (fun c9 => absurd rfl c9)
  refine W.widen (k := cells + 4) (n := slots + 24) (by omega) (by omega) ?_
  exact hK _ _ _ _ _ _ hR' hw (lv_sub hl [0, 1, 2, 3, 4] rfl)
set_option maxRecDepth 100000 in
set_option maxHeartbeats 4000000 in
theorem lw_k22 (l : Launch) (hfl : l.stackTraces = false) {p : Program} {e : Env} {s : State} {m : MethodId} {below : List Frame} {meth : Method} {c : Code} {H : Heap} {locs : List Loc} {cells slots : Nat} {Q : State → Prop} {X : XT} {b2 : Nat → Nat} {o b L i : Nat} {xs : Nat → Int32} {M m0 : Mem} {f : Nat → Int64} {ls : Array Slot} (B : CL X b2 o p s m #[Value.ref b] c) (hX : va_X b L xs s s.heap) (hbl : b < s.heap.size) (hL : L ≤ 3584) (hi : 7 * i + 7 ≤ L) (hR : RB i M m0) (hw : HL X b2 o M m0 f s H locs) (hl : lv_has ls 7 [(0, .ref b), (1, .ref (X.2.2 0)), (2, .ref (b2 0)), (3, .ref o), (4, .int (nI (7 * i)))]) (hcs : cells + 4 ≤ 601024 ∧ slots + 24 ≤ 7293034) (hK : KO p l e s m b below meth c X b2 o i cells slots Q) : W p l e room_1 s m #[Value.ref b] below meth c H locs cells slots Q (F0 m 1584 ls []) := by
  obtain ⟨k, v, N, w, n, hf, hg, ht, hv, hkk, hR'⟩ := ob_answer (p1 := (xs (7 * i + 1))) (p2 := (xs (7 * i + 2))) hR (by omega)
  refine lv_aload_n B.hx B.hb dL_law_1584 rfl (lv_at hl 1 rfl) ?_
  refine lv_aload_n B.hx B.hb dL_law_1585 rfl (lv_at hl 0 rfl) ?_
  refine lv_iload B.hx B.hb dL_law_1586 (lv_at hl 4 rfl) ?_
  refine lv_iconst (v := 1) B.hx B.hb dL_law_1588 (by decide) ?_
  refine lv_iadd B.hx B.hb dL_law_1589 ?_
  refine l_sld (k := 7 * i + 1) B hX hbl hw (nI_add (7 * i) 1) (by omega) hL dL_law_1590 ?_
  refine lv_aload_n B.hx B.hb dL_law_1591 rfl (lv_at hl 0 rfl) ?_
  refine lv_iload B.hx B.hb dL_law_1592 (lv_at hl 4 rfl) ?_
  refine lv_iconst (v := 2) B.hx B.hb dL_law_1594 (by decide) ?_
  refine lv_iadd B.hx B.hb dL_law_1595 ?_
  refine l_sld (k := 7 * i + 2) B hX hbl hw (nI_add (7 * i) 2) (by omega) hL dL_law_1596 ?_
  refine lv_aload_n B.hx B.hb dL_law_1597 rfl (lv_at hl 3 rfl) ?_
  refine l_wrap (n := 4) (As := [.ref (X.2.2 0), .int (xs (7 * i + 1)), .int (xs (7 * i + 2)), .ref o]) (rest := []) B hw (c_L_answer l hfl X o (xs (7 * i + 1)) (xs (7 * i + 2)) M f (k, v, N) hf hkk _) (big_at 1104 (by decide +kernel) (by decide +kernel)) (big_at 1105 (by decide +kernel) (by decide +kernel)) (big_at 0 (by decide +kernel) (by decide +kernel)) (big_at 1106 (by decide +kernel) (by decide +kernel)) ⟨by decide +kernel, by decide +kernel, by decide +kernel⟩ rfl hl.1 rfl rfl ⟨(Nat.le_of_ble_eq_true rfl), (Nat.le_of_ble_eq_true rfl)⟩ (Nat.le_of_ble_eq_true rfl) ⟨by show _ ≤ 601024; omega, by show _ ≤ 7293034; omega⟩ dL_law_1598 rfl (fun g H locs hg0 hw => ?_)
  refine lv_istore (lv' := [(5, .int (nI (kmC k))), (0, .ref b), (1, .ref (X.2.2 0)), (2, .ref (b2 0)), (3, .ref o), (4, .int (nI (7 * i)))]) B.hx B.hb dL_law_1601 hl (by decide) rfl (fun ls hl => ?_)
  refine lv_aload_n B.hx B.hb dL_law_1603 rfl (lv_at hl 3 rfl) ?_
  refine lv_aload_n B.hx B.hb dL_law_1604 rfl (lv_at hl 1 rfl) ?_
  refine lv_iload B.hx B.hb dL_law_1605 (lv_at hl 5 rfl) ?_
  refine lv_iconst (v := 1) B.hx B.hb dL_law_1607 (by decide) ?_
  refine lv_iadd B.hx B.hb dL_law_1608 ?_
  refine l_sld (k := 7 * i + 1) B hX hbl hw (nI_add (7 * i) 1) (by omega) hL dL_law_1609 ?_
  refine lv_aload_n B.hx B.hb dL_law_1610 rfl (lv_at hl 1 rfl) ?_
  refine lv_iload B.hx B.hb dL_law_1611 (lv_at hl 5 rfl) ?_
  refine lv_iconst (v := 2) B.hx B.hb dL_law_1613 (by decide) ?_
  refine lv_iadd B.hx B.hb dL_law_1614 ?_
  refine l_sld (k := 7 * i + 2) B hX hbl hw (nI_add (7 * i) 2) (by omega) hL dL_law_1615 ?_
  refine l_mod (As := [.int (xs (7 * i + 1)), .int (xs (7 * i + 2))]) (rest := []) B hw (c_X11_answer l (X.1, X.2.1, b2) 5000 (xs (7 * i + 1)) (xs (7 * i + 2)) m0 (w, n) hg _) cv_L_186 rfl rfl hl.1 rfl rfl ⟨(Nat.le_of_ble_eq_true rfl), (Nat.le_of_ble_eq_true rfl)⟩ (Nat.le_of_ble_eq_true rfl) ⟨by show _ ≤ 601024; omega, by show _ ≤ 7293034; omega⟩ dL_law_1616 rfl (fun H locs hw => ?_)
  refine lv_istore (lv' := [(6, .int w), (5, .int (nI (kmC k))), (0, .ref b), (1, .ref (X.2.2 0)), (2, .ref (b2 0)), (3, .ref o), (4, .int (nI (7 * i)))]) B.hx B.hb dL_law_1619 hl (by decide) rfl (fun ls hl => ?_)
  refine lv_aload_n B.hx B.hb dL_law_1621 rfl (lv_at hl 4 rfl) ?_
  refine l_mod (As := []) (rest := []) B hw (c_X11_thrown l (X.1, X.2.1, b2) 5000 n (nI (kmC k)) (by rw [← ht]; rfl) _) cv_L_107 rfl rfl hl.1 rfl rfl ⟨(Nat.le_of_ble_eq_true rfl), (Nat.le_of_ble_eq_true rfl)⟩ (Nat.le_of_ble_eq_true rfl) ⟨by show _ ≤ 601024; omega, by show _ ≤ 7293034; omega⟩ dL_law_1622 rfl (fun H locs hw => ?_)
  refine lv_iload B.hx B.hb dL_law_1625 (lv_at hl 1 rfl) ?_
  refine lv_icmp_eq (tgt := 1632) B.hx B.hb dL_law_1627 (by decide) (fun _ => ?_) (fun c9 => absurd rfl c9)
  refine lv_iload B.hx B.hb dL_law_1632 (lv_at hl 1 rfl) ?_
  refine lv_if_ne (tgt := 1649) B.hx B.hb dL_law_1634 (by decide) (fun c9 => ?_) (fun c9 => ?_)
  · refine lv_goto (tgt := 2116) B.hx B.hb dL_law_1649 (by decide) ?_
    refine W.widen (k := cells + 4) (n := slots + 24) (by omega) (by omega) ?_
    exact hK _ _ _ _ _ _ hR' hw (lv_sub hl [2, 3, 4, 5, 6] rfl)
  · have hk0 := km0 hkk c9
    refine lv_aload_n B.hx B.hb dL_law_1637 rfl (lv_at hl 5 rfl) ?_
    refine lv_iconst (v := 0) B.hx B.hb dL_law_1638 (by decide) ?_
    refine l_lald B hw dL_law_1639 ?_
    refine lv_iload B.hx B.hb dL_law_1640 (lv_at hl 0 rfl) ?_
    refine lv_i2l (v := w.toInt64) B.hx B.hb dL_law_1642 rfl ?_
    refine W.lcmp B.hx B.hb dL_law_1643 ?_
    refine lv_if_eq (tgt := 1649) B.hx B.hb dL_law_1644 (by decide) (fun _ => ?_) (fun c9 => absurd ((by rw [hg0 hk0, hv hk0]; exact lg_self _)) c9)
    refine lv_goto (tgt := 2116) B.hx B.hb dL_law_1649 (by decide) ?_
    refine W.widen (k := cells + 4) (n := slots + 24) (by omega) (by omega) ?_
    exact hK _ _ _ _ _ _ hR' hw (lv_sub hl [2, 3, 4, 5, 6] rfl)
set_option maxRecDepth 100000 in
set_option maxHeartbeats 4000000 in
theorem lw_k23 (l : Launch) (hfl : l.stackTraces = false) {p : Program} {e : Env} {s : State} {m : MethodId} {below : List Frame} {meth : Method} {c : Code} {H : Heap} {locs : List Loc} {cells slots : Nat} {Q : State → Prop} {X : XT} {b2 : Nat → Nat} {o b L i : Nat} {xs : Nat → Int32} {M m0 : Mem} {f : Nat → Int64} {ls : Array Slot} (B : CL X b2 o p s m #[Value.ref b] c) (hX : va_X b L xs s s.heap) (hbl : b < s.heap.size) (hL : L ≤ 3584) (hi : 7 * i + 7 ≤ L) (hR : RB i M m0) (hw : HL X b2 o M m0 f s H locs) (hl : lv_has ls 7 [(0, .ref b), (1, .ref (X.2.2 0)), (2, .ref (b2 0)), (3, .ref o), (4, .int (nI (7 * i)))]) (hcs : cells + 4 ≤ 601024 ∧ slots + 24 ≤ 7293034) (hK : KO p l e s m b below meth c X b2 o i cells slots Q) : W p l e room_1 s m #[Value.ref b] below meth c H locs cells slots Q (F0 m 1652 ls []) := by
  obtain ⟨v, n, hf, hg, hR'⟩ := (ob_gets hR).2.2.2.2.1
  refine lv_aload_n B.hx B.hb dL_law_1652 rfl (lv_at hl 1 rfl) ?_
  refine l_cls (As := []) (rest := []) B hw (c_X10_missing l X 5000 M v hf _) cv_L_187 rfl rfl hl.1 rfl rfl ⟨(Nat.le_of_ble_eq_true rfl), (Nat.le_of_ble_eq_true rfl)⟩ (Nat.le_of_ble_eq_true rfl) ⟨by show _ ≤ 601024; omega, by show _ ≤ 7293034; omega⟩ dL_law_1653 rfl (fun H locs hw => ?_)
  refine lv_aload_n B.hx B.hb dL_law_1656 rfl (lv_at hl 2 rfl) ?_
  refine l_mod (As := []) (rest := [.int v]) B hw (c_X11_missing l (X.1, X.2.1, b2) 5000 m0 (v, n) hg _) cv_L_190 rfl rfl hl.1 rfl rfl ⟨(Nat.le_of_ble_eq_true rfl), (Nat.le_of_ble_eq_true rfl)⟩ (Nat.le_of_ble_eq_true rfl) ⟨by show _ ≤ 601024; omega, by show _ ≤ 7293034; omega⟩ dL_law_1657 rfl (fun H locs hw => ?_)
  refine lv_icmp_eq (tgt := 2116) B.hx B.hb dL_law_1660 (by decide) (fun _ => ?_) (fun c9 => absurd rfl c9)
  refine W.widen (k := cells + 4) (n := slots + 24) (by omega) (by omega) ?_
  exact hK _ _ _ _ _ _ hR' hw (lv_sub hl [0, 1, 2, 3, 4] rfl)
set_option maxRecDepth 100000 in
set_option maxHeartbeats 4000000 in
theorem lw_k24 (l : Launch) (hfl : l.stackTraces = false) {p : Program} {e : Env} {s : State} {m : MethodId} {below : List Frame} {meth : Method} {c : Code} {H : Heap} {locs : List Loc} {cells slots : Nat} {Q : State → Prop} {X : XT} {b2 : Nat → Nat} {o b L i : Nat} {xs : Nat → Int32} {M m0 : Mem} {f : Nat → Int64} {ls : Array Slot} (B : CL X b2 o p s m #[Value.ref b] c) (hX : va_X b L xs s s.heap) (hbl : b < s.heap.size) (hL : L ≤ 3584) (hi : 7 * i + 7 ≤ L) (hR : RB i M m0) (hw : HL X b2 o M m0 f s H locs) (hl : lv_has ls 7 [(0, .ref b), (1, .ref (X.2.2 0)), (2, .ref (b2 0)), (3, .ref o), (4, .int (nI (7 * i)))]) (hcs : cells + 4 ≤ 601024 ∧ slots + 24 ≤ 7293034) (hK : KO p l e s m b below meth c X b2 o i cells slots Q) : W p l e room_1 s m #[Value.ref b] below meth c H locs cells slots Q (F0 m 1665 ls []) := by
  obtain ⟨v, n, hf, hg, hR'⟩ := (ob_gets hR).2.2.2.2.2.1
  refine lv_aload_n B.hx B.hb dL_law_1665 rfl (lv_at hl 1 rfl) ?_
  refine l_cls (As := []) (rest := []) B hw (c_X10_claims l X 5000 M v hf _) cv_L_191 rfl rfl hl.1 rfl rfl ⟨(Nat.le_of_ble_eq_true rfl), (Nat.le_of_ble_eq_true rfl)⟩ (Nat.le_of_ble_eq_true rfl) ⟨by show _ ≤ 601024; omega, by show _ ≤ 7293034; omega⟩ dL_law_1666 rfl (fun H locs hw => ?_)
  refine lv_aload_n B.hx B.hb dL_law_1669 rfl (lv_at hl 2 rfl) ?_
  refine l_mod (As := []) (rest := [.int v]) B hw (c_X11_claims l (X.1, X.2.1, b2) 5000 m0 (v, n) hg _) cv_L_194 rfl rfl hl.1 rfl rfl ⟨(Nat.le_of_ble_eq_true rfl), (Nat.le_of_ble_eq_true rfl)⟩ (Nat.le_of_ble_eq_true rfl) ⟨by show _ ≤ 601024; omega, by show _ ≤ 7293034; omega⟩ dL_law_1670 rfl (fun H locs hw => ?_)
  refine lv_icmp_eq (tgt := 2116) B.hx B.hb dL_law_1673 (by decide) (fun _ => ?_) (fun c9 => absurd rfl c9)
  refine W.widen (k := cells + 4) (n := slots + 24) (by omega) (by omega) ?_
  exact hK _ _ _ _ _ _ hR' hw (lv_sub hl [0, 1, 2, 3, 4] rfl)
set_option maxRecDepth 100000 in
set_option maxHeartbeats 4000000 in
theorem lw_k25 (l : Launch) (hfl : l.stackTraces = false) {p : Program} {e : Env} {s : State} {m : MethodId} {below : List Frame} {meth : Method} {c : Code} {H : Heap} {locs : List Loc} {cells slots : Nat} {Q : State → Prop} {X : XT} {b2 : Nat → Nat} {o b L i : Nat} {xs : Nat → Int32} {M m0 : Mem} {f : Nat → Int64} {ls : Array Slot} (B : CL X b2 o p s m #[Value.ref b] c) (hX : va_X b L xs s s.heap) (hbl : b < s.heap.size) (hL : L ≤ 3584) (hi : 7 * i + 7 ≤ L) (hR : RB i M m0) (hw : HL X b2 o M m0 f s H locs) (hl : lv_has ls 7 [(0, .ref b), (1, .ref (X.2.2 0)), (2, .ref (b2 0)), (3, .ref o), (4, .int (nI (7 * i)))]) (hcs : cells + 4 ≤ 601024 ∧ slots + 24 ≤ 7293034) (hK : KO p l e s m b below meth c X b2 o i cells slots Q) : W p l e room_1 s m #[Value.ref b] below meth c H locs cells slots Q (F0 m 1678 ls []) := by
  obtain ⟨v, n, hf, hg, hR'⟩ := (ob_gets hR).2.2.2.2.2.2.1
  refine lv_aload_n B.hx B.hb dL_law_1678 rfl (lv_at hl 1 rfl) ?_
  refine l_cls (As := []) (rest := []) B hw (c_X10_cost l X 5000 M v hf _) cv_L_195 rfl rfl hl.1 rfl rfl ⟨(Nat.le_of_ble_eq_true rfl), (Nat.le_of_ble_eq_true rfl)⟩ (Nat.le_of_ble_eq_true rfl) ⟨by show _ ≤ 601024; omega, by show _ ≤ 7293034; omega⟩ dL_law_1679 rfl (fun H locs hw => ?_)
  refine lv_aload_n B.hx B.hb dL_law_1682 rfl (lv_at hl 2 rfl) ?_
  refine l_mod (As := []) (rest := [.int v]) B hw (c_X11_cost l (X.1, X.2.1, b2) 5000 m0 (v, n) hg _) cv_L_198 rfl rfl hl.1 rfl rfl ⟨(Nat.le_of_ble_eq_true rfl), (Nat.le_of_ble_eq_true rfl)⟩ (Nat.le_of_ble_eq_true rfl) ⟨by show _ ≤ 601024; omega, by show _ ≤ 7293034; omega⟩ dL_law_1683 rfl (fun H locs hw => ?_)
  refine lv_icmp_eq (tgt := 2116) B.hx B.hb dL_law_1686 (by decide) (fun _ => ?_) (fun c9 => absurd rfl c9)
  refine W.widen (k := cells + 4) (n := slots + 24) (by omega) (by omega) ?_
  exact hK _ _ _ _ _ _ hR' hw (lv_sub hl [0, 1, 2, 3, 4] rfl)
set_option maxRecDepth 100000 in
set_option maxHeartbeats 4000000 in
theorem lw_k26 (l : Launch) (hfl : l.stackTraces = false) {p : Program} {e : Env} {s : State} {m : MethodId} {below : List Frame} {meth : Method} {c : Code} {H : Heap} {locs : List Loc} {cells slots : Nat} {Q : State → Prop} {X : XT} {b2 : Nat → Nat} {o b L i : Nat} {xs : Nat → Int32} {M m0 : Mem} {f : Nat → Int64} {ls : Array Slot} (B : CL X b2 o p s m #[Value.ref b] c) (hX : va_X b L xs s s.heap) (hbl : b < s.heap.size) (hL : L ≤ 3584) (hi : 7 * i + 7 ≤ L) (hR : RB i M m0) (hw : HL X b2 o M m0 f s H locs) (hl : lv_has ls 7 [(0, .ref b), (1, .ref (X.2.2 0)), (2, .ref (b2 0)), (3, .ref o), (4, .int (nI (7 * i)))]) (hcs : cells + 4 ≤ 601024 ∧ slots + 24 ≤ 7293034) (hK : KO p l e s m b below meth c X b2 o i cells slots Q) : W p l e room_1 s m #[Value.ref b] below meth c H locs cells slots Q (F0 m 1691 ls []) := by
  obtain ⟨v, n, hf, hg, hR'⟩ := (ob_gets hR).2.2.2.2.2.2.2.1
  refine lv_aload_n B.hx B.hb dL_law_1691 rfl (lv_at hl 1 rfl) ?_
  refine l_cls (As := []) (rest := []) B hw (c_X10_attempts l X 5000 M v hf _) cv_L_199 rfl rfl hl.1 rfl rfl ⟨(Nat.le_of_ble_eq_true rfl), (Nat.le_of_ble_eq_true rfl)⟩ (Nat.le_of_ble_eq_true rfl) ⟨by show _ ≤ 601024; omega, by show _ ≤ 7293034; omega⟩ dL_law_1692 rfl (fun H locs hw => ?_)
  refine lv_aload_n B.hx B.hb dL_law_1695 rfl (lv_at hl 2 rfl) ?_
  refine l_mod (As := []) (rest := [.int v]) B hw (c_X11_attempts l (X.1, X.2.1, b2) 5000 m0 (v, n) hg _) cv_L_202 rfl rfl hl.1 rfl rfl ⟨(Nat.le_of_ble_eq_true rfl), (Nat.le_of_ble_eq_true rfl)⟩ (Nat.le_of_ble_eq_true rfl) ⟨by show _ ≤ 601024; omega, by show _ ≤ 7293034; omega⟩ dL_law_1696 rfl (fun H locs hw => ?_)
  refine lv_icmp_eq (tgt := 2116) B.hx B.hb dL_law_1699 (by decide) (fun _ => ?_) (fun c9 => absurd rfl c9)
  refine W.widen (k := cells + 4) (n := slots + 24) (by omega) (by omega) ?_
  exact hK _ _ _ _ _ _ hR' hw (lv_sub hl [0, 1, 2, 3, 4] rfl)
set_option maxRecDepth 100000 in
set_option maxHeartbeats 4000000 in
theorem lw_k27 (l : Launch) (hfl : l.stackTraces = false) {p : Program} {e : Env} {s : State} {m : MethodId} {below : List Frame} {meth : Method} {c : Code} {H : Heap} {locs : List Loc} {cells slots : Nat} {Q : State → Prop} {X : XT} {b2 : Nat → Nat} {o b L i : Nat} {xs : Nat → Int32} {M m0 : Mem} {f : Nat → Int64} {ls : Array Slot} (B : CL X b2 o p s m #[Value.ref b] c) (hX : va_X b L xs s s.heap) (hbl : b < s.heap.size) (hL : L ≤ 3584) (hi : 7 * i + 7 ≤ L) (hR : RB i M m0) (hw : HL X b2 o M m0 f s H locs) (hl : lv_has ls 7 [(0, .ref b), (1, .ref (X.2.2 0)), (2, .ref (b2 0)), (3, .ref o), (4, .int (nI (7 * i)))]) (hcs : cells + 4 ≤ 601024 ∧ slots + 24 ≤ 7293034) (hK : KO p l e s m b below meth c X b2 o i cells slots Q) : W p l e room_1 s m #[Value.ref b] below meth c H locs cells slots Q (F0 m 1704 ls []) := by
  obtain ⟨v, n, hf, hg, hR'⟩ := (ob_gets hR).2.2.2.2.2.2.2.2.1
  refine lv_aload_n B.hx B.hb dL_law_1704 rfl (lv_at hl 1 rfl) ?_
  refine l_cls (As := []) (rest := []) B hw (c_X10_shipped l X 5000 M v hf _) cv_L_203 rfl rfl hl.1 rfl rfl ⟨(Nat.le_of_ble_eq_true rfl), (Nat.le_of_ble_eq_true rfl)⟩ (Nat.le_of_ble_eq_true rfl) ⟨by show _ ≤ 601024; omega, by show _ ≤ 7293034; omega⟩ dL_law_1705 rfl (fun H locs hw => ?_)
  refine lv_aload_n B.hx B.hb dL_law_1708 rfl (lv_at hl 2 rfl) ?_
  refine l_mod (As := []) (rest := [.int v]) B hw (c_X11_shipped l (X.1, X.2.1, b2) 5000 m0 (v, n) hg _) cv_L_206 rfl rfl hl.1 rfl rfl ⟨(Nat.le_of_ble_eq_true rfl), (Nat.le_of_ble_eq_true rfl)⟩ (Nat.le_of_ble_eq_true rfl) ⟨by show _ ≤ 601024; omega, by show _ ≤ 7293034; omega⟩ dL_law_1709 rfl (fun H locs hw => ?_)
  refine lv_icmp_eq (tgt := 2116) B.hx B.hb dL_law_1712 (by decide) (fun _ => ?_) (fun c9 => absurd rfl c9)
  refine W.widen (k := cells + 4) (n := slots + 24) (by omega) (by omega) ?_
  exact hK _ _ _ _ _ _ hR' hw (lv_sub hl [0, 1, 2, 3, 4] rfl)
set_option maxRecDepth 100000 in
set_option maxHeartbeats 4000000 in
theorem lw_k28 (l : Launch) (hfl : l.stackTraces = false) {p : Program} {e : Env} {s : State} {m : MethodId} {below : List Frame} {meth : Method} {c : Code} {H : Heap} {locs : List Loc} {cells slots : Nat} {Q : State → Prop} {X : XT} {b2 : Nat → Nat} {o b L i : Nat} {xs : Nat → Int32} {M m0 : Mem} {f : Nat → Int64} {ls : Array Slot} (B : CL X b2 o p s m #[Value.ref b] c) (hX : va_X b L xs s s.heap) (hbl : b < s.heap.size) (hL : L ≤ 3584) (hi : 7 * i + 7 ≤ L) (hR : RB i M m0) (hw : HL X b2 o M m0 f s H locs) (hl : lv_has ls 7 [(0, .ref b), (1, .ref (X.2.2 0)), (2, .ref (b2 0)), (3, .ref o), (4, .int (nI (7 * i)))]) (hcs : cells + 4 ≤ 601024 ∧ slots + 24 ≤ 7293034) (hK : KO p l e s m b below meth c X b2 o i cells slots Q) : W p l e room_1 s m #[Value.ref b] below meth c H locs cells slots Q (F0 m 1717 ls []) := by
  obtain ⟨k, v, N, w, n, hf, hg, ht, hv, hkk, hR'⟩ := ob_taken (p1 := (xs (7 * i + 1))) hR (by omega)
  refine lv_aload_n B.hx B.hb dL_law_1717 rfl (lv_at hl 1 rfl) ?_
  refine lv_aload_n B.hx B.hb dL_law_1718 rfl (lv_at hl 0 rfl) ?_
  refine lv_iload B.hx B.hb dL_law_1719 (lv_at hl 4 rfl) ?_
  refine lv_iconst (v := 1) B.hx B.hb dL_law_1721 (by decide) ?_
  refine lv_iadd B.hx B.hb dL_law_1722 ?_
  refine l_sld (k := 7 * i + 1) B hX hbl hw (nI_add (7 * i) 1) (by omega) hL dL_law_1723 ?_
  refine lv_aload_n B.hx B.hb dL_law_1724 rfl (lv_at hl 3 rfl) ?_
  refine l_wrap (n := 3) (As := [.ref (X.2.2 0), .int (xs (7 * i + 1)), .ref o]) (rest := []) B hw (c_L_taken l hfl X o (xs (7 * i + 1)) M f (k, v, N) hf hkk _) (big_at 1119 (by decide +kernel) (by decide +kernel)) (big_at 1120 (by decide +kernel) (by decide +kernel)) (big_at 0 (by decide +kernel) (by decide +kernel)) (big_at 1121 (by decide +kernel) (by decide +kernel)) ⟨by decide +kernel, by decide +kernel, by decide +kernel⟩ rfl hl.1 rfl rfl ⟨(Nat.le_of_ble_eq_true rfl), (Nat.le_of_ble_eq_true rfl)⟩ (Nat.le_of_ble_eq_true rfl) ⟨by show _ ≤ 601024; omega, by show _ ≤ 7293034; omega⟩ dL_law_1725 rfl (fun g H locs hg0 hw => ?_)
  refine lv_istore (lv' := [(5, .int (nI (kmC k))), (0, .ref b), (1, .ref (X.2.2 0)), (2, .ref (b2 0)), (3, .ref o), (4, .int (nI (7 * i)))]) B.hx B.hb dL_law_1728 hl (by decide) rfl (fun ls hl => ?_)
  refine lv_aload_n B.hx B.hb dL_law_1730 rfl (lv_at hl 3 rfl) ?_
  refine lv_aload_n B.hx B.hb dL_law_1731 rfl (lv_at hl 1 rfl) ?_
  refine lv_iload B.hx B.hb dL_law_1732 (lv_at hl 5 rfl) ?_
  refine lv_iconst (v := 1) B.hx B.hb dL_law_1734 (by decide) ?_
  refine lv_iadd B.hx B.hb dL_law_1735 ?_
  refine l_sld (k := 7 * i + 1) B hX hbl hw (nI_add (7 * i) 1) (by omega) hL dL_law_1736 ?_
  refine l_mod (As := [.int (xs (7 * i + 1))]) (rest := []) B hw (c_X11_taken l (X.1, X.2.1, b2) 5000 (xs (7 * i + 1)) m0 (w, n) hg _) cv_L_209 rfl rfl hl.1 rfl rfl ⟨(Nat.le_of_ble_eq_true rfl), (Nat.le_of_ble_eq_true rfl)⟩ (Nat.le_of_ble_eq_true rfl) ⟨by show _ ≤ 601024; omega, by show _ ≤ 7293034; omega⟩ dL_law_1737 rfl (fun H locs hw => ?_)
  refine lv_istore (lv' := [(6, .int w), (5, .int (nI (kmC k))), (0, .ref b), (1, .ref (X.2.2 0)), (2, .ref (b2 0)), (3, .ref o), (4, .int (nI (7 * i)))]) B.hx B.hb dL_law_1740 hl (by decide) rfl (fun ls hl => ?_)
  refine lv_aload_n B.hx B.hb dL_law_1742 rfl (lv_at hl 4 rfl) ?_
  refine l_mod (As := []) (rest := []) B hw (c_X11_thrown l (X.1, X.2.1, b2) 5000 n (nI (kmC k)) (by rw [← ht]; rfl) _) cv_L_107 rfl rfl hl.1 rfl rfl ⟨(Nat.le_of_ble_eq_true rfl), (Nat.le_of_ble_eq_true rfl)⟩ (Nat.le_of_ble_eq_true rfl) ⟨by show _ ≤ 601024; omega, by show _ ≤ 7293034; omega⟩ dL_law_1743 rfl (fun H locs hw => ?_)
  refine lv_iload B.hx B.hb dL_law_1746 (lv_at hl 1 rfl) ?_
  refine lv_icmp_eq (tgt := 1753) B.hx B.hb dL_law_1748 (by decide) (fun _ => ?_) (fun c9 => absurd rfl c9)
  refine lv_iload B.hx B.hb dL_law_1753 (lv_at hl 1 rfl) ?_
  refine lv_if_ne (tgt := 1770) B.hx B.hb dL_law_1755 (by decide) (fun c9 => ?_) (fun c9 => ?_)
  · refine lv_goto (tgt := 2116) B.hx B.hb dL_law_1770 (by decide) ?_
    refine W.widen (k := cells + 4) (n := slots + 24) (by omega) (by omega) ?_
    exact hK _ _ _ _ _ _ hR' hw (lv_sub hl [2, 3, 4, 5, 6] rfl)
  · have hk0 := km0 hkk c9
    refine lv_aload_n B.hx B.hb dL_law_1758 rfl (lv_at hl 5 rfl) ?_
    refine lv_iconst (v := 0) B.hx B.hb dL_law_1759 (by decide) ?_
    refine l_lald B hw dL_law_1760 ?_
    refine lv_iload B.hx B.hb dL_law_1761 (lv_at hl 0 rfl) ?_
    refine lv_i2l (v := w.toInt64) B.hx B.hb dL_law_1763 rfl ?_
    refine W.lcmp B.hx B.hb dL_law_1764 ?_
    refine lv_if_eq (tgt := 1770) B.hx B.hb dL_law_1765 (by decide) (fun _ => ?_) (fun c9 => absurd ((by rw [hg0 hk0, hv hk0]; exact lg_self _)) c9)
    refine lv_goto (tgt := 2116) B.hx B.hb dL_law_1770 (by decide) ?_
    refine W.widen (k := cells + 4) (n := slots + 24) (by omega) (by omega) ?_
    exact hK _ _ _ _ _ _ hR' hw (lv_sub hl [2, 3, 4, 5, 6] rfl)
set_option maxRecDepth 100000 in
set_option maxHeartbeats 4000000 in
theorem lw_k29 (l : Launch) (hfl : l.stackTraces = false) {p : Program} {e : Env} {s : State} {m : MethodId} {below : List Frame} {meth : Method} {c : Code} {H : Heap} {locs : List Loc} {cells slots : Nat} {Q : State → Prop} {X : XT} {b2 : Nat → Nat} {o b L i : Nat} {xs : Nat → Int32} {M m0 : Mem} {f : Nat → Int64} {ls : Array Slot} (B : CL X b2 o p s m #[Value.ref b] c) (hX : va_X b L xs s s.heap) (hbl : b < s.heap.size) (hL : L ≤ 3584) (hi : 7 * i + 7 ≤ L) (hR : RB i M m0) (hw : HL X b2 o M m0 f s H locs) (hl : lv_has ls 7 [(0, .ref b), (1, .ref (X.2.2 0)), (2, .ref (b2 0)), (3, .ref o), (4, .int (nI (7 * i)))]) (hcs : cells + 4 ≤ 601024 ∧ slots + 24 ≤ 7293034) (hK : KO p l e s m b below meth c X b2 o i cells slots Q) : W p l e room_1 s m #[Value.ref b] below meth c H locs cells slots Q (F0 m 1773 ls []) := by
  obtain ⟨k, v, N, w, n, hf, hg, ht, hv, hkk, hR'⟩ := ob_size (p1 := (xs (7 * i + 1))) hR (by omega)
  refine lv_aload_n B.hx B.hb dL_law_1773 rfl (lv_at hl 1 rfl) ?_
  refine lv_aload_n B.hx B.hb dL_law_1774 rfl (lv_at hl 0 rfl) ?_
  refine lv_iload B.hx B.hb dL_law_1775 (lv_at hl 4 rfl) ?_
  refine lv_iconst (v := 1) B.hx B.hb dL_law_1777 (by decide) ?_
  refine lv_iadd B.hx B.hb dL_law_1778 ?_
  refine l_sld (k := 7 * i + 1) B hX hbl hw (nI_add (7 * i) 1) (by omega) hL dL_law_1779 ?_
  refine lv_aload_n B.hx B.hb dL_law_1780 rfl (lv_at hl 3 rfl) ?_
  refine l_wrap (n := 3) (As := [.ref (X.2.2 0), .int (xs (7 * i + 1)), .ref o]) (rest := []) B hw (c_L_size l hfl X o (xs (7 * i + 1)) M f (k, v, N) hf hkk _) (big_at 1126 (by decide +kernel) (by decide +kernel)) (big_at 1127 (by decide +kernel) (by decide +kernel)) (big_at 0 (by decide +kernel) (by decide +kernel)) (big_at 1128 (by decide +kernel) (by decide +kernel)) ⟨by decide +kernel, by decide +kernel, by decide +kernel⟩ rfl hl.1 rfl rfl ⟨(Nat.le_of_ble_eq_true rfl), (Nat.le_of_ble_eq_true rfl)⟩ (Nat.le_of_ble_eq_true rfl) ⟨by show _ ≤ 601024; omega, by show _ ≤ 7293034; omega⟩ dL_law_1781 rfl (fun g H locs hg0 hw => ?_)
  refine lv_istore (lv' := [(5, .int (nI (kmC k))), (0, .ref b), (1, .ref (X.2.2 0)), (2, .ref (b2 0)), (3, .ref o), (4, .int (nI (7 * i)))]) B.hx B.hb dL_law_1784 hl (by decide) rfl (fun ls hl => ?_)
  refine lv_aload_n B.hx B.hb dL_law_1786 rfl (lv_at hl 3 rfl) ?_
  refine lv_aload_n B.hx B.hb dL_law_1787 rfl (lv_at hl 1 rfl) ?_
  refine lv_iload B.hx B.hb dL_law_1788 (lv_at hl 5 rfl) ?_
  refine lv_iconst (v := 1) B.hx B.hb dL_law_1790 (by decide) ?_
  refine lv_iadd B.hx B.hb dL_law_1791 ?_
  refine l_sld (k := 7 * i + 1) B hX hbl hw (nI_add (7 * i) 1) (by omega) hL dL_law_1792 ?_
  refine l_mod (As := [.int (xs (7 * i + 1))]) (rest := []) B hw (c_X11_size l (X.1, X.2.1, b2) 5000 (xs (7 * i + 1)) m0 (w, n) hg _) cv_L_212 rfl rfl hl.1 rfl rfl ⟨(Nat.le_of_ble_eq_true rfl), (Nat.le_of_ble_eq_true rfl)⟩ (Nat.le_of_ble_eq_true rfl) ⟨by show _ ≤ 601024; omega, by show _ ≤ 7293034; omega⟩ dL_law_1793 rfl (fun H locs hw => ?_)
  refine lv_istore (lv' := [(6, .int w), (5, .int (nI (kmC k))), (0, .ref b), (1, .ref (X.2.2 0)), (2, .ref (b2 0)), (3, .ref o), (4, .int (nI (7 * i)))]) B.hx B.hb dL_law_1796 hl (by decide) rfl (fun ls hl => ?_)
  refine lv_aload_n B.hx B.hb dL_law_1798 rfl (lv_at hl 4 rfl) ?_
  refine l_mod (As := []) (rest := []) B hw (c_X11_thrown l (X.1, X.2.1, b2) 5000 n (nI (kmC k)) (by rw [← ht]; rfl) _) cv_L_107 rfl rfl hl.1 rfl rfl ⟨(Nat.le_of_ble_eq_true rfl), (Nat.le_of_ble_eq_true rfl)⟩ (Nat.le_of_ble_eq_true rfl) ⟨by show _ ≤ 601024; omega, by show _ ≤ 7293034; omega⟩ dL_law_1799 rfl (fun H locs hw => ?_)
  refine lv_iload B.hx B.hb dL_law_1802 (lv_at hl 1 rfl) ?_
  refine lv_icmp_eq (tgt := 1809) B.hx B.hb dL_law_1804 (by decide) (fun _ => ?_) (fun c9 => absurd rfl c9)
  refine lv_iload B.hx B.hb dL_law_1809 (lv_at hl 1 rfl) ?_
  refine lv_if_ne (tgt := 1826) B.hx B.hb dL_law_1811 (by decide) (fun c9 => ?_) (fun c9 => ?_)
  · refine lv_goto (tgt := 2116) B.hx B.hb dL_law_1826 (by decide) ?_
    refine W.widen (k := cells + 4) (n := slots + 24) (by omega) (by omega) ?_
    exact hK _ _ _ _ _ _ hR' hw (lv_sub hl [2, 3, 4, 5, 6] rfl)
  · have hk0 := km0 hkk c9
    refine lv_aload_n B.hx B.hb dL_law_1814 rfl (lv_at hl 5 rfl) ?_
    refine lv_iconst (v := 0) B.hx B.hb dL_law_1815 (by decide) ?_
    refine l_lald B hw dL_law_1816 ?_
    refine lv_iload B.hx B.hb dL_law_1817 (lv_at hl 0 rfl) ?_
    refine lv_i2l (v := w.toInt64) B.hx B.hb dL_law_1819 rfl ?_
    refine W.lcmp B.hx B.hb dL_law_1820 ?_
    refine lv_if_eq (tgt := 1826) B.hx B.hb dL_law_1821 (by decide) (fun _ => ?_) (fun c9 => absurd ((by rw [hg0 hk0, hv hk0]; exact lg_self _)) c9)
    refine lv_goto (tgt := 2116) B.hx B.hb dL_law_1826 (by decide) ?_
    refine W.widen (k := cells + 4) (n := slots + 24) (by omega) (by omega) ?_
    exact hK _ _ _ _ _ _ hR' hw (lv_sub hl [2, 3, 4, 5, 6] rfl)
set_option maxRecDepth 100000 in
set_option maxHeartbeats 4000000 in
theorem lw_k30 (l : Launch) (hfl : l.stackTraces = false) {p : Program} {e : Env} {s : State} {m : MethodId} {below : List Frame} {meth : Method} {c : Code} {H : Heap} {locs : List Loc} {cells slots : Nat} {Q : State → Prop} {X : XT} {b2 : Nat → Nat} {o b L i : Nat} {xs : Nat → Int32} {M m0 : Mem} {f : Nat → Int64} {ls : Array Slot} (B : CL X b2 o p s m #[Value.ref b] c) (hX : va_X b L xs s s.heap) (hbl : b < s.heap.size) (hL : L ≤ 3584) (hi : 7 * i + 7 ≤ L) (hR : RB i M m0) (hw : HL X b2 o M m0 f s H locs) (hl : lv_has ls 7 [(0, .ref b), (1, .ref (X.2.2 0)), (2, .ref (b2 0)), (3, .ref o), (4, .int (nI (7 * i)))]) (hcs : cells + 4 ≤ 601024 ∧ slots + 24 ≤ 7293034) (hK : KO p l e s m b below meth c X b2 o i cells slots Q) : W p l e room_1 s m #[Value.ref b] below meth c H locs cells slots Q (F0 m 1829 ls []) := by
  obtain ⟨v, n, hf, hg, hR'⟩ := (ob_gets hR).2.2.2.2.2.2.2.2.2
  refine lv_aload_n B.hx B.hb dL_law_1829 rfl (lv_at hl 1 rfl) ?_
  refine l_cls (As := []) (rest := []) B hw (c_X10_entries l X 5000 M v hf _) cv_L_213 rfl rfl hl.1 rfl rfl ⟨(Nat.le_of_ble_eq_true rfl), (Nat.le_of_ble_eq_true rfl)⟩ (Nat.le_of_ble_eq_true rfl) ⟨by show _ ≤ 601024; omega, by show _ ≤ 7293034; omega⟩ dL_law_1830 rfl (fun H locs hw => ?_)
  refine lv_aload_n B.hx B.hb dL_law_1833 rfl (lv_at hl 2 rfl) ?_
  refine l_mod (As := []) (rest := [.int v]) B hw (c_X11_entries l (X.1, X.2.1, b2) 5000 m0 (v, n) hg _) cv_L_216 rfl rfl hl.1 rfl rfl ⟨(Nat.le_of_ble_eq_true rfl), (Nat.le_of_ble_eq_true rfl)⟩ (Nat.le_of_ble_eq_true rfl) ⟨by show _ ≤ 601024; omega, by show _ ≤ 7293034; omega⟩ dL_law_1834 rfl (fun H locs hw => ?_)
  refine lv_icmp_eq (tgt := 2116) B.hx B.hb dL_law_1837 (by decide) (fun _ => ?_) (fun c9 => absurd rfl c9)
  refine W.widen (k := cells + 4) (n := slots + 24) (by omega) (by omega) ?_
  exact hK _ _ _ _ _ _ hR' hw (lv_sub hl [0, 1, 2, 3, 4] rfl)
set_option maxRecDepth 100000 in
set_option maxHeartbeats 4000000 in
theorem lw_k31 (l : Launch) (hfl : l.stackTraces = false) {p : Program} {e : Env} {s : State} {m : MethodId} {below : List Frame} {meth : Method} {c : Code} {H : Heap} {locs : List Loc} {cells slots : Nat} {Q : State → Prop} {X : XT} {b2 : Nat → Nat} {o b L i : Nat} {xs : Nat → Int32} {M m0 : Mem} {f : Nat → Int64} {ls : Array Slot} (B : CL X b2 o p s m #[Value.ref b] c) (hX : va_X b L xs s s.heap) (hbl : b < s.heap.size) (hL : L ≤ 3584) (hi : 7 * i + 7 ≤ L) (hR : RB i M m0) (hw : HL X b2 o M m0 f s H locs) (hl : lv_has ls 7 [(0, .ref b), (1, .ref (X.2.2 0)), (2, .ref (b2 0)), (3, .ref o), (4, .int (nI (7 * i)))]) (hcs : cells + 4 ≤ 601024 ∧ slots + 24 ≤ 7293034) (hK : KO p l e s m b below meth c X b2 o i cells slots Q) : W p l e room_1 s m #[Value.ref b] below meth c H locs cells slots Q (F0 m 1842 ls []) := by
  obtain ⟨k, v, N, w, n, hf, hg, ht, hv, hkk, hR'⟩ := ob_answersAnew hR (by omega)
  refine lv_aload_n B.hx B.hb dL_law_1842 rfl (lv_at hl 1 rfl) ?_
  refine lv_aload_n B.hx B.hb dL_law_1843 rfl (lv_at hl 3 rfl) ?_
  refine l_wrap (n := 2) (As := [.ref (X.2.2 0), .ref o]) (rest := []) B hw (c_L_answersAnew l hfl X o M f (k, v, N) hf hkk _) (big_at 1133 (by decide +kernel) (by decide +kernel)) (big_at 1134 (by decide +kernel) (by decide +kernel)) (big_at 0 (by decide +kernel) (by decide +kernel)) (big_at 1135 (by decide +kernel) (by decide +kernel)) ⟨by decide +kernel, by decide +kernel, by decide +kernel⟩ rfl hl.1 rfl rfl ⟨(Nat.le_of_ble_eq_true rfl), (Nat.le_of_ble_eq_true rfl)⟩ (Nat.le_of_ble_eq_true rfl) ⟨by show _ ≤ 601024; omega, by show _ ≤ 7293034; omega⟩ dL_law_1844 rfl (fun g H locs hg0 hw => ?_)
  refine lv_istore (lv' := [(5, .int (nI (kmN k))), (0, .ref b), (1, .ref (X.2.2 0)), (2, .ref (b2 0)), (3, .ref o), (4, .int (nI (7 * i)))]) B.hx B.hb dL_law_1847 hl (by decide) rfl (fun ls hl => ?_)
  refine lv_aload_n B.hx B.hb dL_law_1849 rfl (lv_at hl 3 rfl) ?_
  refine l_mod (As := []) (rest := []) B hw (c_X11_answersAnew l (X.1, X.2.1, b2) 5000 m0 (w, n) hg _) cv_L_220 rfl rfl hl.1 rfl rfl ⟨(Nat.le_of_ble_eq_true rfl), (Nat.le_of_ble_eq_true rfl)⟩ (Nat.le_of_ble_eq_true rfl) ⟨by show _ ≤ 601024; omega, by show _ ≤ 7293034; omega⟩ dL_law_1850 rfl (fun H locs hw => ?_)
  refine lv_istore (lv' := [(6, .int w), (5, .int (nI (kmN k))), (0, .ref b), (1, .ref (X.2.2 0)), (2, .ref (b2 0)), (3, .ref o), (4, .int (nI (7 * i)))]) B.hx B.hb dL_law_1853 hl (by decide) rfl (fun ls hl => ?_)
  refine lv_aload_n B.hx B.hb dL_law_1855 rfl (lv_at hl 4 rfl) ?_
  refine l_mod (As := []) (rest := []) B hw (c_X11_thrown l (X.1, X.2.1, b2) 5000 n (nI (kmN k)) (by rw [← ht]; rfl) _) cv_L_107 rfl rfl hl.1 rfl rfl ⟨(Nat.le_of_ble_eq_true rfl), (Nat.le_of_ble_eq_true rfl)⟩ (Nat.le_of_ble_eq_true rfl) ⟨by show _ ≤ 601024; omega, by show _ ≤ 7293034; omega⟩ dL_law_1856 rfl (fun H locs hw => ?_)
  refine lv_iload B.hx B.hb dL_law_1859 (lv_at hl 1 rfl) ?_
  refine lv_icmp_eq (tgt := 1866) B.hx B.hb dL_law_1861 (by decide) (fun _ => ?_) (fun c9 => absurd rfl c9)
  refine lv_iload B.hx B.hb dL_law_1866 (lv_at hl 1 rfl) ?_
  refine lv_if_ne (tgt := 1883) B.hx B.hb dL_law_1868 (by decide) (fun c9 => ?_) (fun c9 => ?_)
  · refine lv_goto (tgt := 2116) B.hx B.hb dL_law_1883 (by decide) ?_
    refine W.widen (k := cells + 4) (n := slots + 24) (by omega) (by omega) ?_
    exact hK _ _ _ _ _ _ hR' hw (lv_sub hl [2, 3, 4, 5, 6] rfl)
  · have hk0 := km0 hkk c9
    refine lv_aload_n B.hx B.hb dL_law_1871 rfl (lv_at hl 5 rfl) ?_
    refine lv_iconst (v := 0) B.hx B.hb dL_law_1872 (by decide) ?_
    refine l_lald B hw dL_law_1873 ?_
    refine lv_iload B.hx B.hb dL_law_1874 (lv_at hl 0 rfl) ?_
    refine lv_i2l (v := w.toInt64) B.hx B.hb dL_law_1876 rfl ?_
    refine W.lcmp B.hx B.hb dL_law_1877 ?_
    refine lv_if_eq (tgt := 1883) B.hx B.hb dL_law_1878 (by decide) (fun _ => ?_) (fun c9 => absurd ((by rw [hg0 hk0, hv hk0]; exact lg_self _)) c9)
    refine lv_goto (tgt := 2116) B.hx B.hb dL_law_1883 (by decide) ?_
    refine W.widen (k := cells + 4) (n := slots + 24) (by omega) (by omega) ?_
    exact hK _ _ _ _ _ _ hR' hw (lv_sub hl [2, 3, 4, 5, 6] rfl)
set_option maxRecDepth 100000 in
set_option maxHeartbeats 4000000 in
theorem lw_k32 (l : Launch) (hfl : l.stackTraces = false) {p : Program} {e : Env} {s : State} {m : MethodId} {below : List Frame} {meth : Method} {c : Code} {H : Heap} {locs : List Loc} {cells slots : Nat} {Q : State → Prop} {X : XT} {b2 : Nat → Nat} {o b L i : Nat} {xs : Nat → Int32} {M m0 : Mem} {f : Nat → Int64} {ls : Array Slot} (B : CL X b2 o p s m #[Value.ref b] c) (hX : va_X b L xs s s.heap) (hbl : b < s.heap.size) (hL : L ≤ 3584) (hi : 7 * i + 7 ≤ L) (hR : RB i M m0) (hw : HL X b2 o M m0 f s H locs) (hl : lv_has ls 7 [(0, .ref b), (1, .ref (X.2.2 0)), (2, .ref (b2 0)), (3, .ref o), (4, .int (nI (7 * i)))]) (hcs : cells + 4 ≤ 601024 ∧ slots + 24 ≤ 7293034) (hK : KO p l e s m b below meth c X b2 o i cells slots Q) : W p l e room_1 s m #[Value.ref b] below meth c H locs cells slots Q (F0 m 1886 ls []) := by
  obtain ⟨k, v, N, w, n, hf, hg, ht, hv, hkk, hR'⟩ := ob_answerAnew (p1 := (xs (7 * i + 1))) (p2 := (xs (7 * i + 2))) hR (by omega)
  refine lv_aload_n B.hx B.hb dL_law_1886 rfl (lv_at hl 1 rfl) ?_
  refine lv_aload_n B.hx B.hb dL_law_1887 rfl (lv_at hl 0 rfl) ?_
  refine lv_iload B.hx B.hb dL_law_1888 (lv_at hl 4 rfl) ?_
  refine lv_iconst (v := 1) B.hx B.hb dL_law_1890 (by decide) ?_
  refine lv_iadd B.hx B.hb dL_law_1891 ?_
  refine l_sld (k := 7 * i + 1) B hX hbl hw (nI_add (7 * i) 1) (by omega) hL dL_law_1892 ?_
  refine lv_aload_n B.hx B.hb dL_law_1893 rfl (lv_at hl 0 rfl) ?_
  refine lv_iload B.hx B.hb dL_law_1894 (lv_at hl 4 rfl) ?_
  refine lv_iconst (v := 2) B.hx B.hb dL_law_1896 (by decide) ?_
  refine lv_iadd B.hx B.hb dL_law_1897 ?_
  refine l_sld (k := 7 * i + 2) B hX hbl hw (nI_add (7 * i) 2) (by omega) hL dL_law_1898 ?_
  refine lv_aload_n B.hx B.hb dL_law_1899 rfl (lv_at hl 3 rfl) ?_
  refine l_wrap (n := 4) (As := [.ref (X.2.2 0), .int (xs (7 * i + 1)), .int (xs (7 * i + 2)), .ref o]) (rest := []) B hw (c_L_answerAnew l hfl X o (xs (7 * i + 1)) (xs (7 * i + 2)) M f (k, v, N) hf hkk _) (big_at 1147 (by decide +kernel) (by decide +kernel)) (big_at 1148 (by decide +kernel) (by decide +kernel)) (big_at 0 (by decide +kernel) (by decide +kernel)) (big_at 1149 (by decide +kernel) (by decide +kernel)) ⟨by decide +kernel, by decide +kernel, by decide +kernel⟩ rfl hl.1 rfl rfl ⟨(Nat.le_of_ble_eq_true rfl), (Nat.le_of_ble_eq_true rfl)⟩ (Nat.le_of_ble_eq_true rfl) ⟨by show _ ≤ 601024; omega, by show _ ≤ 7293034; omega⟩ dL_law_1900 rfl (fun g H locs hg0 hw => ?_)
  refine lv_istore (lv' := [(5, .int (nI (kmN k))), (0, .ref b), (1, .ref (X.2.2 0)), (2, .ref (b2 0)), (3, .ref o), (4, .int (nI (7 * i)))]) B.hx B.hb dL_law_1903 hl (by decide) rfl (fun ls hl => ?_)
  refine lv_aload_n B.hx B.hb dL_law_1905 rfl (lv_at hl 3 rfl) ?_
  refine lv_aload_n B.hx B.hb dL_law_1906 rfl (lv_at hl 1 rfl) ?_
  refine lv_iload B.hx B.hb dL_law_1907 (lv_at hl 5 rfl) ?_
  refine lv_iconst (v := 1) B.hx B.hb dL_law_1909 (by decide) ?_
  refine lv_iadd B.hx B.hb dL_law_1910 ?_
  refine l_sld (k := 7 * i + 1) B hX hbl hw (nI_add (7 * i) 1) (by omega) hL dL_law_1911 ?_
  refine lv_aload_n B.hx B.hb dL_law_1912 rfl (lv_at hl 1 rfl) ?_
  refine lv_iload B.hx B.hb dL_law_1913 (lv_at hl 5 rfl) ?_
  refine lv_iconst (v := 2) B.hx B.hb dL_law_1915 (by decide) ?_
  refine lv_iadd B.hx B.hb dL_law_1916 ?_
  refine l_sld (k := 7 * i + 2) B hX hbl hw (nI_add (7 * i) 2) (by omega) hL dL_law_1917 ?_
  refine l_mod (As := [.int (xs (7 * i + 1)), .int (xs (7 * i + 2))]) (rest := []) B hw (c_X11_answerAnew l (X.1, X.2.1, b2) 5000 (xs (7 * i + 1)) (xs (7 * i + 2)) m0 (w, n) hg _) cv_L_223 rfl rfl hl.1 rfl rfl ⟨(Nat.le_of_ble_eq_true rfl), (Nat.le_of_ble_eq_true rfl)⟩ (Nat.le_of_ble_eq_true rfl) ⟨by show _ ≤ 601024; omega, by show _ ≤ 7293034; omega⟩ dL_law_1918 rfl (fun H locs hw => ?_)
  refine lv_istore (lv' := [(6, .int w), (5, .int (nI (kmN k))), (0, .ref b), (1, .ref (X.2.2 0)), (2, .ref (b2 0)), (3, .ref o), (4, .int (nI (7 * i)))]) B.hx B.hb dL_law_1921 hl (by decide) rfl (fun ls hl => ?_)
  refine lv_aload_n B.hx B.hb dL_law_1923 rfl (lv_at hl 4 rfl) ?_
  refine l_mod (As := []) (rest := []) B hw (c_X11_thrown l (X.1, X.2.1, b2) 5000 n (nI (kmN k)) (by rw [← ht]; rfl) _) cv_L_107 rfl rfl hl.1 rfl rfl ⟨(Nat.le_of_ble_eq_true rfl), (Nat.le_of_ble_eq_true rfl)⟩ (Nat.le_of_ble_eq_true rfl) ⟨by show _ ≤ 601024; omega, by show _ ≤ 7293034; omega⟩ dL_law_1924 rfl (fun H locs hw => ?_)
  refine lv_iload B.hx B.hb dL_law_1927 (lv_at hl 1 rfl) ?_
  refine lv_icmp_eq (tgt := 1934) B.hx B.hb dL_law_1929 (by decide) (fun _ => ?_) (fun c9 => absurd rfl c9)
  refine lv_iload B.hx B.hb dL_law_1934 (lv_at hl 1 rfl) ?_
  refine lv_if_ne (tgt := 1951) B.hx B.hb dL_law_1936 (by decide) (fun c9 => ?_) (fun c9 => ?_)
  · refine lv_goto (tgt := 2116) B.hx B.hb dL_law_1951 (by decide) ?_
    refine W.widen (k := cells + 4) (n := slots + 24) (by omega) (by omega) ?_
    exact hK _ _ _ _ _ _ hR' hw (lv_sub hl [2, 3, 4, 5, 6] rfl)
  · have hk0 := km0 hkk c9
    refine lv_aload_n B.hx B.hb dL_law_1939 rfl (lv_at hl 5 rfl) ?_
    refine lv_iconst (v := 0) B.hx B.hb dL_law_1940 (by decide) ?_
    refine l_lald B hw dL_law_1941 ?_
    refine lv_iload B.hx B.hb dL_law_1942 (lv_at hl 0 rfl) ?_
    refine lv_i2l (v := w.toInt64) B.hx B.hb dL_law_1944 rfl ?_
    refine W.lcmp B.hx B.hb dL_law_1945 ?_
    refine lv_if_eq (tgt := 1951) B.hx B.hb dL_law_1946 (by decide) (fun _ => ?_) (fun c9 => absurd ((by rw [hg0 hk0, hv hk0]; exact lg_self _)) c9)
    refine lv_goto (tgt := 2116) B.hx B.hb dL_law_1951 (by decide) ?_
    refine W.widen (k := cells + 4) (n := slots + 24) (by omega) (by omega) ?_
    exact hK _ _ _ _ _ _ hR' hw (lv_sub hl [2, 3, 4, 5, 6] rfl)
set_option maxRecDepth 100000 in
set_option maxHeartbeats 4000000 in
theorem lw_k33 (l : Launch) (hfl : l.stackTraces = false) {p : Program} {e : Env} {s : State} {m : MethodId} {below : List Frame} {meth : Method} {c : Code} {H : Heap} {locs : List Loc} {cells slots : Nat} {Q : State → Prop} {X : XT} {b2 : Nat → Nat} {o b L i : Nat} {xs : Nat → Int32} {M m0 : Mem} {f : Nat → Int64} {ls : Array Slot} (B : CL X b2 o p s m #[Value.ref b] c) (hX : va_X b L xs s s.heap) (hbl : b < s.heap.size) (hL : L ≤ 3584) (hi : 7 * i + 7 ≤ L) (hR : RB i M m0) (hw : HL X b2 o M m0 f s H locs) (hl : lv_has ls 7 [(0, .ref b), (1, .ref (X.2.2 0)), (2, .ref (b2 0)), (3, .ref o), (4, .int (nI (7 * i)))]) (hcs : cells + 4 ≤ 601024 ∧ slots + 24 ≤ 7293034) (hK : KO p l e s m b below meth c X b2 o i cells slots Q) : W p l e room_1 s m #[Value.ref b] below meth c H locs cells slots Q (F0 m 1954 ls []) := by
  obtain ⟨k, v, N, w, n, hf, hg, ht, hv, hkk, hR'⟩ := ob_step (p1 := (xs (7 * i + 1))) (p2 := (xs (7 * i + 2))) (p3 := (xs (7 * i + 3))) (p4 := (xs (7 * i + 4))) (p5 := (xs (7 * i + 5))) (p6 := (xs (7 * i + 6))) hR (by omega)
  refine lv_aload_n B.hx B.hb dL_law_1954 rfl (lv_at hl 1 rfl) ?_
  refine lv_aload_n B.hx B.hb dL_law_1955 rfl (lv_at hl 0 rfl) ?_
  refine lv_iload B.hx B.hb dL_law_1956 (lv_at hl 4 rfl) ?_
  refine lv_iconst (v := 1) B.hx B.hb dL_law_1958 (by decide) ?_
  refine lv_iadd B.hx B.hb dL_law_1959 ?_
  refine l_sld (k := 7 * i + 1) B hX hbl hw (nI_add (7 * i) 1) (by omega) hL dL_law_1960 ?_
  refine lv_aload_n B.hx B.hb dL_law_1961 rfl (lv_at hl 0 rfl) ?_
  refine lv_iload B.hx B.hb dL_law_1962 (lv_at hl 4 rfl) ?_
  refine lv_iconst (v := 2) B.hx B.hb dL_law_1964 (by decide) ?_
  refine lv_iadd B.hx B.hb dL_law_1965 ?_
  refine l_sld (k := 7 * i + 2) B hX hbl hw (nI_add (7 * i) 2) (by omega) hL dL_law_1966 ?_
  refine lv_aload_n B.hx B.hb dL_law_1967 rfl (lv_at hl 0 rfl) ?_
  refine lv_iload B.hx B.hb dL_law_1968 (lv_at hl 4 rfl) ?_
  refine lv_iconst (v := 3) B.hx B.hb dL_law_1970 (by decide) ?_
  refine lv_iadd B.hx B.hb dL_law_1971 ?_
  refine l_sld (k := 7 * i + 3) B hX hbl hw (nI_add (7 * i) 3) (by omega) hL dL_law_1972 ?_
  refine lv_aload_n B.hx B.hb dL_law_1973 rfl (lv_at hl 0 rfl) ?_
  refine lv_iload B.hx B.hb dL_law_1974 (lv_at hl 4 rfl) ?_
  refine lv_iconst (v := 4) B.hx B.hb dL_law_1976 (by decide) ?_
  refine lv_iadd B.hx B.hb dL_law_1977 ?_
  refine l_sld (k := 7 * i + 4) B hX hbl hw (nI_add (7 * i) 4) (by omega) hL dL_law_1978 ?_
  refine lv_aload_n B.hx B.hb dL_law_1979 rfl (lv_at hl 0 rfl) ?_
  refine lv_iload B.hx B.hb dL_law_1980 (lv_at hl 4 rfl) ?_
  refine lv_iconst (v := 5) B.hx B.hb dL_law_1982 (by decide) ?_
  refine lv_iadd B.hx B.hb dL_law_1983 ?_
  refine l_sld (k := 7 * i + 5) B hX hbl hw (nI_add (7 * i) 5) (by omega) hL dL_law_1984 ?_
  refine lv_aload_n B.hx B.hb dL_law_1985 rfl (lv_at hl 0 rfl) ?_
  refine lv_iload B.hx B.hb dL_law_1986 (lv_at hl 4 rfl) ?_
  refine lv_bipush (v := 6) B.hx B.hb dL_law_1988 (by decide) ?_
  refine lv_iadd B.hx B.hb dL_law_1990 ?_
  refine l_sld (k := 7 * i + 6) B hX hbl hw (nI_add (7 * i) 6) (by omega) hL dL_law_1991 ?_
  refine lv_aload_n B.hx B.hb dL_law_1992 rfl (lv_at hl 3 rfl) ?_
  refine l_wrap (n := 8) (As := [.ref (X.2.2 0), .int (xs (7 * i + 1)), .int (xs (7 * i + 2)), .int (xs (7 * i + 3)), .int (xs (7 * i + 4)), .int (xs (7 * i + 5)), .int (xs (7 * i + 6)), .ref o]) (rest := []) B hw (c_L_step l hfl X o (xs (7 * i + 1)) (xs (7 * i + 2)) (xs (7 * i + 3)) (xs (7 * i + 4)) (xs (7 * i + 5)) (xs (7 * i + 6)) M f (k, v, N) hf hkk _) (big_at 1154 (by decide +kernel) (by decide +kernel)) (big_at 1155 (by decide +kernel) (by decide +kernel)) (big_at 0 (by decide +kernel) (by decide +kernel)) (big_at 1156 (by decide +kernel) (by decide +kernel)) ⟨by decide +kernel, by decide +kernel, by decide +kernel⟩ rfl hl.1 rfl rfl ⟨(Nat.le_of_ble_eq_true rfl), (Nat.le_of_ble_eq_true rfl)⟩ (Nat.le_of_ble_eq_true rfl) ⟨by show _ ≤ 601024; omega, by show _ ≤ 7293034; omega⟩ dL_law_1993 rfl (fun g H locs hg0 hw => ?_)
  refine lv_istore (lv' := [(5, .int (nI (kmI k))), (0, .ref b), (1, .ref (X.2.2 0)), (2, .ref (b2 0)), (3, .ref o), (4, .int (nI (7 * i)))]) B.hx B.hb dL_law_1996 hl (by decide) rfl (fun ls hl => ?_)
  refine lv_aload_n B.hx B.hb dL_law_1998 rfl (lv_at hl 3 rfl) ?_
  refine lv_aload_n B.hx B.hb dL_law_1999 rfl (lv_at hl 1 rfl) ?_
  refine lv_iload B.hx B.hb dL_law_2000 (lv_at hl 5 rfl) ?_
  refine lv_iconst (v := 1) B.hx B.hb dL_law_2002 (by decide) ?_
  refine lv_iadd B.hx B.hb dL_law_2003 ?_
  refine l_sld (k := 7 * i + 1) B hX hbl hw (nI_add (7 * i) 1) (by omega) hL dL_law_2004 ?_
  refine lv_aload_n B.hx B.hb dL_law_2005 rfl (lv_at hl 1 rfl) ?_
  refine lv_iload B.hx B.hb dL_law_2006 (lv_at hl 5 rfl) ?_
  refine lv_iconst (v := 2) B.hx B.hb dL_law_2008 (by decide) ?_
  refine lv_iadd B.hx B.hb dL_law_2009 ?_
  refine l_sld (k := 7 * i + 2) B hX hbl hw (nI_add (7 * i) 2) (by omega) hL dL_law_2010 ?_
  refine lv_aload_n B.hx B.hb dL_law_2011 rfl (lv_at hl 1 rfl) ?_
  refine lv_iload B.hx B.hb dL_law_2012 (lv_at hl 5 rfl) ?_
  refine lv_iconst (v := 3) B.hx B.hb dL_law_2014 (by decide) ?_
  refine lv_iadd B.hx B.hb dL_law_2015 ?_
  refine l_sld (k := 7 * i + 3) B hX hbl hw (nI_add (7 * i) 3) (by omega) hL dL_law_2016 ?_
  refine lv_aload_n B.hx B.hb dL_law_2017 rfl (lv_at hl 1 rfl) ?_
  refine lv_iload B.hx B.hb dL_law_2018 (lv_at hl 5 rfl) ?_
  refine lv_iconst (v := 4) B.hx B.hb dL_law_2020 (by decide) ?_
  refine lv_iadd B.hx B.hb dL_law_2021 ?_
  refine l_sld (k := 7 * i + 4) B hX hbl hw (nI_add (7 * i) 4) (by omega) hL dL_law_2022 ?_
  refine lv_aload_n B.hx B.hb dL_law_2023 rfl (lv_at hl 1 rfl) ?_
  refine lv_iload B.hx B.hb dL_law_2024 (lv_at hl 5 rfl) ?_
  refine lv_iconst (v := 5) B.hx B.hb dL_law_2026 (by decide) ?_
  refine lv_iadd B.hx B.hb dL_law_2027 ?_
  refine l_sld (k := 7 * i + 5) B hX hbl hw (nI_add (7 * i) 5) (by omega) hL dL_law_2028 ?_
  refine lv_aload_n B.hx B.hb dL_law_2029 rfl (lv_at hl 1 rfl) ?_
  refine lv_iload B.hx B.hb dL_law_2030 (lv_at hl 5 rfl) ?_
  refine lv_bipush (v := 6) B.hx B.hb dL_law_2032 (by decide) ?_
  refine lv_iadd B.hx B.hb dL_law_2034 ?_
  refine l_sld (k := 7 * i + 6) B hX hbl hw (nI_add (7 * i) 6) (by omega) hL dL_law_2035 ?_
  refine l_mod (As := [.int (xs (7 * i + 1)), .int (xs (7 * i + 2)), .int (xs (7 * i + 3)), .int (xs (7 * i + 4)), .int (xs (7 * i + 5)), .int (xs (7 * i + 6))]) (rest := []) B hw (c_X11_step l (X.1, X.2.1, b2) 5000 (xs (7 * i + 1)) (xs (7 * i + 2)) (xs (7 * i + 3)) (xs (7 * i + 4)) (xs (7 * i + 5)) (xs (7 * i + 6)) m0 (w, n) hg _) cv_L_227 rfl rfl hl.1 rfl rfl ⟨(Nat.le_of_ble_eq_true rfl), (Nat.le_of_ble_eq_true rfl)⟩ (Nat.le_of_ble_eq_true rfl) ⟨by show _ ≤ 601024; omega, by show _ ≤ 7293034; omega⟩ dL_law_2036 rfl (fun H locs hw => ?_)
  refine lv_istore (lv' := [(6, .int w), (5, .int (nI (kmI k))), (0, .ref b), (1, .ref (X.2.2 0)), (2, .ref (b2 0)), (3, .ref o), (4, .int (nI (7 * i)))]) B.hx B.hb dL_law_2039 hl (by decide) rfl (fun ls hl => ?_)
  refine lv_aload_n B.hx B.hb dL_law_2041 rfl (lv_at hl 4 rfl) ?_
  refine l_mod (As := []) (rest := []) B hw (c_X11_thrown l (X.1, X.2.1, b2) 5000 n (nI (kmI k)) (by rw [← ht]; rfl) _) cv_L_107 rfl rfl hl.1 rfl rfl ⟨(Nat.le_of_ble_eq_true rfl), (Nat.le_of_ble_eq_true rfl)⟩ (Nat.le_of_ble_eq_true rfl) ⟨by show _ ≤ 601024; omega, by show _ ≤ 7293034; omega⟩ dL_law_2042 rfl (fun H locs hw => ?_)
  refine lv_iload B.hx B.hb dL_law_2045 (lv_at hl 1 rfl) ?_
  refine lv_icmp_eq (tgt := 2052) B.hx B.hb dL_law_2047 (by decide) (fun _ => ?_) (fun c9 => absurd rfl c9)
  refine lv_iload B.hx B.hb dL_law_2052 (lv_at hl 1 rfl) ?_
  refine lv_if_ne (tgt := 2069) B.hx B.hb dL_law_2054 (by decide) (fun c9 => ?_) (fun c9 => ?_)
  · refine lv_goto (tgt := 2116) B.hx B.hb dL_law_2069 (by decide) ?_
    refine W.widen (k := cells + 4) (n := slots + 24) (by omega) (by omega) ?_
    exact hK _ _ _ _ _ _ hR' hw (lv_sub hl [2, 3, 4, 5, 6] rfl)
  · have hk0 := km0 hkk c9
    refine lv_aload_n B.hx B.hb dL_law_2057 rfl (lv_at hl 5 rfl) ?_
    refine lv_iconst (v := 0) B.hx B.hb dL_law_2058 (by decide) ?_
    refine l_lald B hw dL_law_2059 ?_
    refine lv_iload B.hx B.hb dL_law_2060 (lv_at hl 0 rfl) ?_
    refine lv_i2l (v := w.toInt64) B.hx B.hb dL_law_2062 rfl ?_
    refine W.lcmp B.hx B.hb dL_law_2063 ?_
    refine lv_if_eq (tgt := 2069) B.hx B.hb dL_law_2064 (by decide) (fun _ => ?_) (fun c9 => absurd ((by rw [hg0 hk0, hv hk0]; exact lg_self _)) c9)
    refine lv_goto (tgt := 2116) B.hx B.hb dL_law_2069 (by decide) ?_
    refine W.widen (k := cells + 4) (n := slots + 24) (by omega) (by omega) ?_
    exact hK _ _ _ _ _ _ hR' hw (lv_sub hl [2, 3, 4, 5, 6] rfl)
set_option maxRecDepth 100000 in
set_option maxHeartbeats 4000000 in
theorem lw_k34 (l : Launch) (hfl : l.stackTraces = false) {p : Program} {e : Env} {s : State} {m : MethodId} {below : List Frame} {meth : Method} {c : Code} {H : Heap} {locs : List Loc} {cells slots : Nat} {Q : State → Prop} {X : XT} {b2 : Nat → Nat} {o b L i : Nat} {xs : Nat → Int32} {M m0 : Mem} {f : Nat → Int64} {ls : Array Slot} (B : CL X b2 o p s m #[Value.ref b] c) (hX : va_X b L xs s s.heap) (hbl : b < s.heap.size) (hL : L ≤ 3584) (hi : 7 * i + 7 ≤ L) (hR : RB i M m0) (hw : HL X b2 o M m0 f s H locs) (hl : lv_has ls 7 [(0, .ref b), (1, .ref (X.2.2 0)), (2, .ref (b2 0)), (3, .ref o), (4, .int (nI (7 * i)))]) (hcs : cells + 4 ≤ 601024 ∧ slots + 24 ≤ 7293034) (hK : KO p l e s m b below meth c X b2 o i cells slots Q) : W p l e room_1 s m #[Value.ref b] below meth c H locs cells slots Q (F0 m 2072 ls []) := by
  obtain ⟨k, v, N, w, n, hf, hg, ht, hv, hkk, hR'⟩ := ob_run hR (by omega)
  refine lv_aload_n B.hx B.hb dL_law_2072 rfl (lv_at hl 1 rfl) ?_
  refine lv_aload_n B.hx B.hb dL_law_2073 rfl (lv_at hl 3 rfl) ?_
  refine l_wrap (n := 2) (As := [.ref (X.2.2 0), .ref o]) (rest := []) B hw (c_L_run l hfl X o M f (k, v, N) hf hkk _) (big_at 1168 (by decide +kernel) (by decide +kernel)) (big_at 1169 (by decide +kernel) (by decide +kernel)) (big_at 0 (by decide +kernel) (by decide +kernel)) (big_at 1170 (by decide +kernel) (by decide +kernel)) ⟨by decide +kernel, by decide +kernel, by decide +kernel⟩ rfl hl.1 rfl rfl ⟨(Nat.le_of_ble_eq_true rfl), (Nat.le_of_ble_eq_true rfl)⟩ (Nat.le_of_ble_eq_true rfl) ⟨by show _ ≤ 601024; omega, by show _ ≤ 7293034; omega⟩ dL_law_2074 rfl (fun g H locs hg0 hw => ?_)
  refine lv_istore (lv' := [(5, .int (nI (kmR k))), (0, .ref b), (1, .ref (X.2.2 0)), (2, .ref (b2 0)), (3, .ref o), (4, .int (nI (7 * i)))]) B.hx B.hb dL_law_2077 hl (by decide) rfl (fun ls hl => ?_)
  refine lv_aload_n B.hx B.hb dL_law_2079 rfl (lv_at hl 3 rfl) ?_
  refine l_mod (As := []) (rest := []) B hw (c_X11_run l (X.1, X.2.1, b2) 5000 m0 (w, n) hg _) cv_L_230 rfl rfl hl.1 rfl rfl ⟨(Nat.le_of_ble_eq_true rfl), (Nat.le_of_ble_eq_true rfl)⟩ (Nat.le_of_ble_eq_true rfl) ⟨by show _ ≤ 601024; omega, by show _ ≤ 7293034; omega⟩ dL_law_2080 rfl (fun H locs hw => ?_)
  refine lv_istore (lv' := [(6, .int w), (5, .int (nI (kmR k))), (0, .ref b), (1, .ref (X.2.2 0)), (2, .ref (b2 0)), (3, .ref o), (4, .int (nI (7 * i)))]) B.hx B.hb dL_law_2083 hl (by decide) rfl (fun ls hl => ?_)
  refine lv_aload_n B.hx B.hb dL_law_2085 rfl (lv_at hl 4 rfl) ?_
  refine l_mod (As := []) (rest := []) B hw (c_X11_thrown l (X.1, X.2.1, b2) 5000 n (nI (kmR k)) (by rw [← ht]; rfl) _) cv_L_107 rfl rfl hl.1 rfl rfl ⟨(Nat.le_of_ble_eq_true rfl), (Nat.le_of_ble_eq_true rfl)⟩ (Nat.le_of_ble_eq_true rfl) ⟨by show _ ≤ 601024; omega, by show _ ≤ 7293034; omega⟩ dL_law_2086 rfl (fun H locs hw => ?_)
  refine lv_iload B.hx B.hb dL_law_2089 (lv_at hl 1 rfl) ?_
  refine lv_icmp_eq (tgt := 2096) B.hx B.hb dL_law_2091 (by decide) (fun _ => ?_) (fun c9 => absurd rfl c9)
  refine lv_iload B.hx B.hb dL_law_2096 (lv_at hl 1 rfl) ?_
  refine lv_if_ne (tgt := 2113) B.hx B.hb dL_law_2098 (by decide) (fun c9 => ?_) (fun c9 => ?_)
  · refine lv_goto (tgt := 2116) B.hx B.hb dL_law_2113 (by decide) ?_
    refine W.widen (k := cells + 4) (n := slots + 24) (by omega) (by omega) ?_
    exact hK _ _ _ _ _ _ hR' hw (lv_sub hl [2, 3, 4, 5, 6] rfl)
  · have hk0 := km0 hkk c9
    refine lv_aload_n B.hx B.hb dL_law_2101 rfl (lv_at hl 5 rfl) ?_
    refine lv_iconst (v := 0) B.hx B.hb dL_law_2102 (by decide) ?_
    refine l_lald B hw dL_law_2103 ?_
    refine lv_iload B.hx B.hb dL_law_2104 (lv_at hl 0 rfl) ?_
    refine lv_i2l (v := w.toInt64) B.hx B.hb dL_law_2106 rfl ?_
    refine W.lcmp B.hx B.hb dL_law_2107 ?_
    refine lv_if_eq (tgt := 2113) B.hx B.hb dL_law_2108 (by decide) (fun _ => ?_) (fun c9 => absurd ((by rw [hg0 hk0, hv hk0]; exact lg_self _)) c9)
    refine lv_goto (tgt := 2116) B.hx B.hb dL_law_2113 (by decide) ?_
    refine W.widen (k := cells + 4) (n := slots + 24) (by omega) (by omega) ?_
    exact hK _ _ _ _ _ _ hR' hw (lv_sub hl [2, 3, 4, 5, 6] rfl)
