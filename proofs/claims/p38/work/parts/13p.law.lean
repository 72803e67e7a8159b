abbrev rm_L_isTold : Room := { frames := 11, cells := 1639, slots := 9834, locals := 203 }
set_option maxRecDepth 100000 in
set_option maxHeartbeats 8000000 in
theorem c_L_isTold (l : Launch) (hfl : l.stackTraces = false) (ex : List (Nat × Nat)) (X : XT) (fu : Nat) (p1 : Int32) (M : Mem)  (rs : (Int32 × Mem)) (hf : f_L_isTold fu p1 M = some rs) (sz : Nat) : Met l yL_isTold (wbig yL_isTold cL_isTold 11 (some .boolean)) rm_L_isTold (va_Pc [.ref (X.2.2 0), .int p1, .ref (X.2.2 142), .ref (X.2.2 143), .ref (X.2.2 153), .ref (X.2.2 152), .ref (X.2.2 154)] (PXN (LW ex) X M sz)) (QI (LW ex) X rs.2 rs.1 sz) 1639 9834 (AX (LW ex) X sz) := by
  refine wn_go (L := (LW ex)) (M := M) (by decide +kernel) (Nat.le_of_ble_eq_true rfl) ?_
  intro p e s m args below meth c hsz B T N9 hr hlk hw ls hl
  subst hsz
  have hx := B.hx
  have hb := B.hb
  have hl : lv_has ls 11 [(0, .ref (X.2.2 0)), (1, .int p1), (2, .ref (X.2.2 142)), (3, .ref (X.2.2 143)), (4, .ref (X.2.2 153)), (5, .ref (X.2.2 152)), (6, .ref (X.2.2 154))] := hl
  generalize hQ : MQ below _ args s 1639 9834 (AX (LW ex) X s.heap.size) = Q
  unfold f_L_isTold at hf
  refine lv_iconst (v := 0) hx hb dL_isTold_0 (by decide) ?_
  refine lv_istore (lv' := [(7, .int 0), (0, .ref (X.2.2 0)), (1, .int p1), (2, .ref (X.2.2 142)), (3, .ref (X.2.2 143)), (4, .ref (X.2.2 153)), (5, .ref (X.2.2 152)), (6, .ref (X.2.2 154))]) hx hb dL_isTold_1 hl (by decide) rfl (fun ls hl => ?_)
  refine jn_e hf (fun kk => ∀ (M_2 : Mem) (H : Heap) (locs : List Loc) (ls : Array Slot), HW (LW ex) X M_2 s H locs → lv_has ls 11 [(0, .ref (X.2.2 0)), (5, .ref (X.2.2 152)), (6, .ref (X.2.2 154))] → kk M_2 = some rs → W p l e rm_L_isTold s m args below meth c H locs 1547 9282 Q (F0 m 185 ls [])) ?_ (fun k185_1 J185_1 hf => ?_)
  · intro M_2 H locs ls hw hl hf
    refine lv_iconst (v := 0) hx hb dL_isTold_185 (by decide) ?_
    refine lv_istore (lv' := [(7, .int 0), (0, .ref (X.2.2 0)), (5, .ref (X.2.2 152)), (6, .ref (X.2.2 154))]) hx hb dL_isTold_186 hl (by decide) rfl (fun ls hl => ?_)
    refine jn_e hf (fun kk => ∀ (M_4 : Mem) (H : Heap) (locs : List Loc) (ls : Array Slot), HW (LW ex) X M_4 s H locs → lv_has ls 11 [(0, .ref (X.2.2 0)), (5, .ref (X.2.2 152))] → kk M_4 = some rs → W p l e rm_L_isTold s m args below meth c H locs 1631 9786 Q (F0 m 246 ls [])) ?_ (fun k246_3 J246_3 hf => ?_)
    · intro M_4 H locs ls hw hl hf
      refine lv_aload_n hx hb dL_isTold_246 rfl (lv_at hl 0 rfl) ?_
      refine lv_aload hx hb dL_isTold_247 (lv_at hl 1 rfl) ?_
      refine lv_bipush (v := 15) hx hb dL_isTold_249 (by decide) ?_
      refine w_iald B hw (i := 152) (kw152 _) (by decide) dL_isTold_251 ?_
      refine lv_iconst (v := 0) hx hb dL_isTold_252 (by decide) ?_
      obtain ⟨r_6, M_7, h_5, hf⟩ := bm_e hf
      refine w_wrap (n := 3) (M' := M_7) (v := r_6) (As := [.ref (X.2.2 0), .int (M_4 152 15), .int 0]) (rest := []) B T N9 hw (c_L_answer l hfl _ X fu (M_4 152 15) 0 M_4 (r_6, M_7) h_5 _) km_L_323 kt_L_answer ki_L kc_L_answer ⟨by decide +kernel, by decide +kernel, by decide +kernel⟩ rfl hl.1 rfl rfl ⟨(Nat.le_of_ble_eq_true rfl), (Nat.le_of_ble_eq_true rfl)⟩ (Nat.le_of_ble_eq_true rfl) ⟨(Nat.le_of_ble_eq_true rfl), (Nat.le_of_ble_eq_true rfl)⟩ dL_isTold_253 rfl (fun H locs hw => ?_)
      refine W.widen (k := 1632) (n := 9792) (by omega) (by omega) ?_
      refine lv_sipush (v := (-7100)) hx hb dL_isTold_256 (by decide) ?_
      refine lv_icmp_ne (tgt := 447) hx hb dL_isTold_259 (by decide) (fun c_8 => ?_) (fun c_8 => ?_)
      · have hf := ie_e hf c_8
        refine lv_iconst (v := 0) hx hb dL_isTold_447 (by decide) ?_
        refine W.widen (k := 1639) (n := 9834) (by omega) (by omega) ?_
        cases hf
        subst hQ
        exact q_zret B hr hlk rfl hw rfl rfl dL_isTold_448
      · have hf := it_e hf c_8
        refine lv_aload_n hx hb dL_isTold_262 rfl (lv_at hl 0 rfl) ?_
        refine lv_iconst (v := 0) hx hb dL_isTold_263 (by decide) ?_
        refine lv_aload hx hb dL_isTold_264 (lv_at hl 1 rfl) ?_
        refine lv_bipush (v := 16) hx hb dL_isTold_266 (by decide) ?_
        refine w_iald B hw (i := 152) (kw152 _) (by decide) dL_isTold_268 ?_
        obtain ⟨r_10, M_11, h_9, hf⟩ := bm_e hf
        refine w_wrap (n := 3) (M' := M_11) (v := r_10) (As := [.ref (X.2.2 0), .int 0, .int (M_7 152 16)]) (rest := []) B T N9 hw (c_L_answer l hfl _ X fu 0 (M_7 152 16) M_7 (r_10, M_11) h_9 _) km_L_323 kt_L_answer ki_L kc_L_answer ⟨by decide +kernel, by decide +kernel, by decide +kernel⟩ rfl hl.1 rfl rfl ⟨(Nat.le_of_ble_eq_true rfl), (Nat.le_of_ble_eq_true rfl)⟩ (Nat.le_of_ble_eq_true rfl) ⟨(Nat.le_of_ble_eq_true rfl), (Nat.le_of_ble_eq_true rfl)⟩ dL_isTold_269 rfl (fun H locs hw => ?_)
        refine W.widen (k := 1633) (n := 9798) (by omega) (by omega) ?_
        refine lv_sipush (v := (-7100)) hx hb dL_isTold_272 (by decide) ?_
        refine lv_icmp_ne (tgt := 447) hx hb dL_isTold_275 (by decide) (fun c_12 => ?_) (fun c_12 => ?_)
        · have hf := ie_e hf c_12
          refine lv_iconst (v := 0) hx hb dL_isTold_447 (by decide) ?_
          refine W.widen (k := 1639) (n := 9834) (by omega) (by omega) ?_
          cases hf
          subst hQ
          exact q_zret B hr hlk rfl hw rfl rfl dL_isTold_448
        · have hf := it_e hf c_12
          refine lv_aload_n hx hb dL_isTold_278 rfl (lv_at hl 0 rfl) ?_
          refine lv_iconst (v := (-1)) hx hb dL_isTold_279 (by decide) ?_
          refine lv_iconst (v := 0) hx hb dL_isTold_280 (by decide) ?_
          obtain ⟨r_14, M_15, h_13, hf⟩ := bm_e hf
          refine w_wrap (n := 3) (M' := M_15) (v := r_14) (As := [.ref (X.2.2 0), .int (-1), .int 0]) (rest := []) B T N9 hw (c_L_answer l hfl _ X fu (-1) 0 M_11 (r_14, M_15) h_13 _) km_L_323 kt_L_answer ki_L kc_L_answer ⟨by decide +kernel, by decide +kernel, by decide +kernel⟩ rfl hl.1 rfl rfl ⟨(Nat.le_of_ble_eq_true rfl), (Nat.le_of_ble_eq_true rfl)⟩ (Nat.le_of_ble_eq_true rfl) ⟨(Nat.le_of_ble_eq_true rfl), (Nat.le_of_ble_eq_true rfl)⟩ dL_isTold_281 rfl (fun H locs hw => ?_)
          refine W.widen (k := 1634) (n := 9804) (by omega) (by omega) ?_
          refine lv_sipush (v := (-7100)) hx hb dL_isTold_284 (by decide) ?_
          refine lv_icmp_ne (tgt := 447) hx hb dL_isTold_287 (by decide) (fun c_16 => ?_) (fun c_16 => ?_)
          · have hf := ie_e hf c_16
            refine lv_iconst (v := 0) hx hb dL_isTold_447 (by decide) ?_
            refine W.widen (k := 1639) (n := 9834) (by omega) (by omega) ?_
            cases hf
            subst hQ
            exact q_zret B hr hlk rfl hw rfl rfl dL_isTold_448
          · have hf := it_e hf c_16
            refine lv_aload_n hx hb dL_isTold_290 rfl (lv_at hl 0 rfl) ?_
            obtain ⟨r_18, h_17, hf⟩ := bd_e hf
            refine w_clsR (rest := []) (v := r_18) B hw (c_X10_answers l X fu M_15 r_18 h_17 _) cv_L_325 rfl hl.1 rfl rfl ⟨(Nat.le_of_ble_eq_true rfl), (Nat.le_of_ble_eq_true rfl)⟩ (Nat.le_of_ble_eq_true rfl) ⟨(Nat.le_of_ble_eq_true rfl), (Nat.le_of_ble_eq_true rfl)⟩ dL_isTold_291 rfl (fun H locs hw => ?_)
            refine lv_aload hx hb dL_isTold_294 (lv_at hl 1 rfl) ?_
            refine lv_bipush (v := 15) hx hb dL_isTold_296 (by decide) ?_
            refine w_iald B hw (i := 152) (kw152 _) (by decide) dL_isTold_298 ?_
            refine lv_icmp_ne (tgt := 447) hx hb dL_isTold_299 (by decide) (fun c_19 => ?_) (fun c_19 => ?_)
            · have hf := ie_e hf c_19
              refine lv_iconst (v := 0) hx hb dL_isTold_447 (by decide) ?_
              refine W.widen (k := 1639) (n := 9834) (by omega) (by omega) ?_
              cases hf
              subst hQ
              exact q_zret B hr hlk rfl hw rfl rfl dL_isTold_448
            · have hf := it_e hf c_19
              refine lv_aload_n hx hb dL_isTold_302 rfl (lv_at hl 0 rfl) ?_
              obtain ⟨r_21, h_20, hf⟩ := bd_e hf
              refine w_clsR (rest := []) (v := r_21) B hw (c_X10_missing l X fu M_15 r_21 h_20 _) cv_L_328 rfl hl.1 rfl rfl ⟨(Nat.le_of_ble_eq_true rfl), (Nat.le_of_ble_eq_true rfl)⟩ (Nat.le_of_ble_eq_true rfl) ⟨(Nat.le_of_ble_eq_true rfl), (Nat.le_of_ble_eq_true rfl)⟩ dL_isTold_303 rfl (fun H locs hw => ?_)
              refine lv_aload hx hb dL_isTold_306 (lv_at hl 1 rfl) ?_
              refine lv_bipush (v := 11) hx hb dL_isTold_308 (by decide) ?_
              refine w_iald B hw (i := 152) (kw152 _) (by decide) dL_isTold_310 ?_
              refine lv_icmp_ne (tgt := 447) hx hb dL_isTold_311 (by decide) (fun c_22 => ?_) (fun c_22 => ?_)
              · have hf := ie_e hf c_22
                refine lv_iconst (v := 0) hx hb dL_isTold_447 (by decide) ?_
                refine W.widen (k := 1639) (n := 9834) (by omega) (by omega) ?_
                cases hf
                subst hQ
                exact q_zret B hr hlk rfl hw rfl rfl dL_isTold_448
              · have hf := it_e hf c_22
                refine lv_aload_n hx hb dL_isTold_314 rfl (lv_at hl 0 rfl) ?_
                obtain ⟨r_24, h_23, hf⟩ := bd_e hf
                refine w_clsR (rest := []) (v := r_24) B hw (c_X10_claims l X fu M_15 r_24 h_23 _) cv_L_331 rfl hl.1 rfl rfl ⟨(Nat.le_of_ble_eq_true rfl), (Nat.le_of_ble_eq_true rfl)⟩ (Nat.le_of_ble_eq_true rfl) ⟨(Nat.le_of_ble_eq_true rfl), (Nat.le_of_ble_eq_true rfl)⟩ dL_isTold_315 rfl (fun H locs hw => ?_)
                refine lv_aload hx hb dL_isTold_318 (lv_at hl 1 rfl) ?_
                refine lv_bipush (v := 12) hx hb dL_isTold_320 (by decide) ?_
                refine w_iald B hw (i := 152) (kw152 _) (by decide) dL_isTold_322 ?_
                refine lv_icmp_ne (tgt := 447) hx hb dL_isTold_323 (by decide) (fun c_25 => ?_) (fun c_25 => ?_)
                · have hf := ie_e hf c_25
                  refine lv_iconst (v := 0) hx hb dL_isTold_447 (by decide) ?_
                  refine W.widen (k := 1639) (n := 9834) (by omega) (by omega) ?_
                  cases hf
                  subst hQ
                  exact q_zret B hr hlk rfl hw rfl rfl dL_isTold_448
                · have hf := it_e hf c_25
                  refine lv_aload_n hx hb dL_isTold_326 rfl (lv_at hl 0 rfl) ?_
                  obtain ⟨r_27, h_26, hf⟩ := bd_e hf
                  refine w_clsR (rest := []) (v := r_27) B hw (c_X10_cost l X fu M_15 r_27 h_26 _) cv_L_334 rfl hl.1 rfl rfl ⟨(Nat.le_of_ble_eq_true rfl), (Nat.le_of_ble_eq_true rfl)⟩ (Nat.le_of_ble_eq_true rfl) ⟨(Nat.le_of_ble_eq_true rfl), (Nat.le_of_ble_eq_true rfl)⟩ dL_isTold_327 rfl (fun H locs hw => ?_)
                  refine lv_aload hx hb dL_isTold_330 (lv_at hl 1 rfl) ?_
                  refine lv_bipush (v := 7) hx hb dL_isTold_332 (by decide) ?_
                  refine w_iald B hw (i := 152) (kw152 _) (by decide) dL_isTold_334 ?_
                  refine lv_icmp_ne (tgt := 447) hx hb dL_isTold_335 (by decide) (fun c_28 => ?_) (fun c_28 => ?_)
                  · have hf := ie_e hf c_28
                    refine lv_iconst (v := 0) hx hb dL_isTold_447 (by decide) ?_
                    refine W.widen (k := 1639) (n := 9834) (by omega) (by omega) ?_
                    cases hf
                    subst hQ
                    exact q_zret B hr hlk rfl hw rfl rfl dL_isTold_448
                  · have hf := it_e hf c_28
                    refine lv_aload_n hx hb dL_isTold_338 rfl (lv_at hl 0 rfl) ?_
                    obtain ⟨r_30, h_29, hf⟩ := bd_e hf
                    refine w_clsR (rest := []) (v := r_30) B hw (c_X10_attempts l X fu M_15 r_30 h_29 _) cv_L_337 rfl hl.1 rfl rfl ⟨(Nat.le_of_ble_eq_true rfl), (Nat.le_of_ble_eq_true rfl)⟩ (Nat.le_of_ble_eq_true rfl) ⟨(Nat.le_of_ble_eq_true rfl), (Nat.le_of_ble_eq_true rfl)⟩ dL_isTold_339 rfl (fun H locs hw => ?_)
                    refine lv_aload hx hb dL_isTold_342 (lv_at hl 1 rfl) ?_
                    refine lv_bipush (v := 8) hx hb dL_isTold_344 (by decide) ?_
                    refine w_iald B hw (i := 152) (kw152 _) (by decide) dL_isTold_346 ?_
                    refine lv_icmp_ne (tgt := 447) hx hb dL_isTold_347 (by decide) (fun c_31 => ?_) (fun c_31 => ?_)
                    · have hf := ie_e hf c_31
                      refine lv_iconst (v := 0) hx hb dL_isTold_447 (by decide) ?_
                      refine W.widen (k := 1639) (n := 9834) (by omega) (by omega) ?_
                      cases hf
                      subst hQ
                      exact q_zret B hr hlk rfl hw rfl rfl dL_isTold_448
                    · have hf := it_e hf c_31
                      refine lv_aload_n hx hb dL_isTold_350 rfl (lv_at hl 0 rfl) ?_
                      obtain ⟨r_33, h_32, hf⟩ := bd_e hf
                      refine w_clsR (rest := []) (v := r_33) B hw (c_X10_shipped l X fu M_15 r_33 h_32 _) cv_L_340 rfl hl.1 rfl rfl ⟨(Nat.le_of_ble_eq_true rfl), (Nat.le_of_ble_eq_true rfl)⟩ (Nat.le_of_ble_eq_true rfl) ⟨(Nat.le_of_ble_eq_true rfl), (Nat.le_of_ble_eq_true rfl)⟩ dL_isTold_351 rfl (fun H locs hw => ?_)
                      refine lv_aload hx hb dL_isTold_354 (lv_at hl 1 rfl) ?_
                      refine lv_bipush (v := 9) hx hb dL_isTold_356 (by decide) ?_
                      refine w_iald B hw (i := 152) (kw152 _) (by decide) dL_isTold_358 ?_
                      refine lv_icmp_ne (tgt := 447) hx hb dL_isTold_359 (by decide) (fun c_34 => ?_) (fun c_34 => ?_)
                      · have hf := ie_e hf c_34
                        refine lv_iconst (v := 0) hx hb dL_isTold_447 (by decide) ?_
                        refine W.widen (k := 1639) (n := 9834) (by omega) (by omega) ?_
                        cases hf
                        subst hQ
                        exact q_zret B hr hlk rfl hw rfl rfl dL_isTold_448
                      · have hf := it_e hf c_34
                        refine lv_aload_n hx hb dL_isTold_362 rfl (lv_at hl 0 rfl) ?_
                        obtain ⟨r_36, h_35, hf⟩ := bd_e hf
                        refine w_clsR (rest := []) (v := r_36) B hw (c_X10_losses l X fu M_15 r_36 h_35 _) cv_L_343 rfl hl.1 rfl rfl ⟨(Nat.le_of_ble_eq_true rfl), (Nat.le_of_ble_eq_true rfl)⟩ (Nat.le_of_ble_eq_true rfl) ⟨(Nat.le_of_ble_eq_true rfl), (Nat.le_of_ble_eq_true rfl)⟩ dL_isTold_363 rfl (fun H locs hw => ?_)
                        refine lv_aload hx hb dL_isTold_366 (lv_at hl 1 rfl) ?_
                        refine lv_iconst (v := 2) hx hb dL_isTold_368 (by decide) ?_
                        refine w_iald B hw (i := 152) (kw152 _) (by decide) dL_isTold_369 ?_
                        refine lv_icmp_ne (tgt := 447) hx hb dL_isTold_370 (by decide) (fun c_37 => ?_) (fun c_37 => ?_)
                        · have hf := ie_e hf c_37
                          refine lv_iconst (v := 0) hx hb dL_isTold_447 (by decide) ?_
                          refine W.widen (k := 1639) (n := 9834) (by omega) (by omega) ?_
                          cases hf
                          subst hQ
                          exact q_zret B hr hlk rfl hw rfl rfl dL_isTold_448
                        · have hf := it_e hf c_37
                          refine lv_aload_n hx hb dL_isTold_373 rfl (lv_at hl 0 rfl) ?_
                          obtain ⟨r_39, h_38, hf⟩ := bd_e hf
                          refine w_clsR (rest := []) (v := r_39) B hw (c_X10_moment l X fu M_15 r_39 h_38 _) cv_L_346 rfl hl.1 rfl rfl ⟨(Nat.le_of_ble_eq_true rfl), (Nat.le_of_ble_eq_true rfl)⟩ (Nat.le_of_ble_eq_true rfl) ⟨(Nat.le_of_ble_eq_true rfl), (Nat.le_of_ble_eq_true rfl)⟩ dL_isTold_374 rfl (fun H locs hw => ?_)
                          refine lv_aload hx hb dL_isTold_377 (lv_at hl 1 rfl) ?_
                          refine lv_iconst (v := 0) hx hb dL_isTold_379 (by decide) ?_
                          refine w_iald B hw (i := 152) (kw152 _) (by decide) dL_isTold_380 ?_
                          refine lv_icmp_ne (tgt := 447) hx hb dL_isTold_381 (by decide) (fun c_40 => ?_) (fun c_40 => ?_)
                          · have hf := ie_e hf c_40
                            refine lv_iconst (v := 0) hx hb dL_isTold_447 (by decide) ?_
                            refine W.widen (k := 1639) (n := 9834) (by omega) (by omega) ?_
                            cases hf
                            subst hQ
                            exact q_zret B hr hlk rfl hw rfl rfl dL_isTold_448
                          · have hf := it_e hf c_40
                            refine lv_aload_n hx hb dL_isTold_384 rfl (lv_at hl 0 rfl) ?_
                            obtain ⟨r_42, h_41, hf⟩ := bd_e hf
                            refine w_clsR (rest := []) (v := r_42) B hw (c_X10_now l X fu M_15 r_42 h_41 _) cv_L_349 rfl hl.1 rfl rfl ⟨(Nat.le_of_ble_eq_true rfl), (Nat.le_of_ble_eq_true rfl)⟩ (Nat.le_of_ble_eq_true rfl) ⟨(Nat.le_of_ble_eq_true rfl), (Nat.le_of_ble_eq_true rfl)⟩ dL_isTold_385 rfl (fun H locs hw => ?_)
                            refine lv_aload hx hb dL_isTold_388 (lv_at hl 1 rfl) ?_
                            refine lv_iconst (v := 1) hx hb dL_isTold_390 (by decide) ?_
                            refine w_iald B hw (i := 152) (kw152 _) (by decide) dL_isTold_391 ?_
                            refine lv_icmp_ne (tgt := 447) hx hb dL_isTold_392 (by decide) (fun c_43 => ?_) (fun c_43 => ?_)
                            · have hf := ie_e hf c_43
                              refine lv_iconst (v := 0) hx hb dL_isTold_447 (by decide) ?_
                              refine W.widen (k := 1639) (n := 9834) (by omega) (by omega) ?_
                              cases hf
                              subst hQ
                              exact q_zret B hr hlk rfl hw rfl rfl dL_isTold_448
                            · have hf := it_e hf c_43
                              refine lv_aload_n hx hb dL_isTold_395 rfl (lv_at hl 0 rfl) ?_
                              obtain ⟨r_45, h_44, hf⟩ := bd_e hf
                              refine w_clsR (rest := []) (v := r_45) B hw (c_X10_entries l X fu M_15 r_45 h_44 _) cv_L_352 rfl hl.1 rfl rfl ⟨(Nat.le_of_ble_eq_true rfl), (Nat.le_of_ble_eq_true rfl)⟩ (Nat.le_of_ble_eq_true rfl) ⟨(Nat.le_of_ble_eq_true rfl), (Nat.le_of_ble_eq_true rfl)⟩ dL_isTold_396 rfl (fun H locs hw => ?_)
                              refine lv_aload hx hb dL_isTold_399 (lv_at hl 1 rfl) ?_
                              refine lv_iconst (v := 3) hx hb dL_isTold_401 (by decide) ?_
                              refine w_iald B hw (i := 152) (kw152 _) (by decide) dL_isTold_402 ?_
                              refine lv_icmp_ne (tgt := 447) hx hb dL_isTold_403 (by decide) (fun c_46 => ?_) (fun c_46 => ?_)
                              · have hf := ie_e hf c_46
                                refine lv_iconst (v := 0) hx hb dL_isTold_447 (by decide) ?_
                                refine W.widen (k := 1639) (n := 9834) (by omega) (by omega) ?_
                                cases hf
                                subst hQ
                                exact q_zret B hr hlk rfl hw rfl rfl dL_isTold_448
                              · have hf := it_e hf c_46
                                refine lv_aload_n hx hb dL_isTold_406 rfl (lv_at hl 0 rfl) ?_
                                refine lv_bipush (v := 6) hx hb dL_isTold_407 (by decide) ?_
                                obtain ⟨r_48, M_49, h_47, hf⟩ := bm_e hf
                                refine w_wrap (n := 2) (M' := M_49) (v := r_48) (As := [.ref (X.2.2 0), .int 6]) (rest := []) B T N9 hw (c_L_count l hfl _ X fu 6 M_15 (r_48, M_49) h_47 _) km_L_139 kt_L_count ki_L kc_L_count ⟨by decide +kernel, by decide +kernel, by decide +kernel⟩ rfl hl.1 rfl rfl ⟨(Nat.le_of_ble_eq_true rfl), (Nat.le_of_ble_eq_true rfl)⟩ (Nat.le_of_ble_eq_true rfl) ⟨(Nat.le_of_ble_eq_true rfl), (Nat.le_of_ble_eq_true rfl)⟩ dL_isTold_409 rfl (fun H locs hw => ?_)
                                refine W.widen (k := 1635) (n := 9810) (by omega) (by omega) ?_
                                refine lv_sipush (v := (-7100)) hx hb dL_isTold_412 (by decide) ?_
                                refine lv_icmp_ne (tgt := 447) hx hb dL_isTold_415 (by decide) (fun c_50 => ?_) (fun c_50 => ?_)
                                · have hf := ie_e hf c_50
                                  refine lv_iconst (v := 0) hx hb dL_isTold_447 (by decide) ?_
                                  refine W.widen (k := 1639) (n := 9834) (by omega) (by omega) ?_
                                  cases hf
                                  subst hQ
                                  exact q_zret B hr hlk rfl hw rfl rfl dL_isTold_448
                                · have hf := it_e hf c_50
                                  refine lv_aload_n hx hb dL_isTold_418 rfl (lv_at hl 0 rfl) ?_
                                  refine lv_iconst (v := (-1)) hx hb dL_isTold_419 (by decide) ?_
                                  obtain ⟨r_52, M_53, h_51, hf⟩ := bm_e hf
                                  refine w_wrap (n := 2) (M' := M_53) (v := r_52) (As := [.ref (X.2.2 0), .int (-1)]) (rest := []) B T N9 hw (c_L_size l hfl _ X fu (-1) M_49 (r_52, M_53) h_51 _) km_L_318 kt_L_size ki_L kc_L_size ⟨by decide +kernel, by decide +kernel, by decide +kernel⟩ rfl hl.1 rfl rfl ⟨(Nat.le_of_ble_eq_true rfl), (Nat.le_of_ble_eq_true rfl)⟩ (Nat.le_of_ble_eq_true rfl) ⟨(Nat.le_of_ble_eq_true rfl), (Nat.le_of_ble_eq_true rfl)⟩ dL_isTold_420 rfl (fun H locs hw => ?_)
                                  refine W.widen (k := 1636) (n := 9816) (by omega) (by omega) ?_
                                  refine lv_sipush (v := (-7100)) hx hb dL_isTold_423 (by decide) ?_
                                  refine lv_icmp_ne (tgt := 447) hx hb dL_isTold_426 (by decide) (fun c_54 => ?_) (fun c_54 => ?_)
                                  · have hf := ie_e hf c_54
                                    refine lv_iconst (v := 0) hx hb dL_isTold_447 (by decide) ?_
                                    refine W.widen (k := 1639) (n := 9834) (by omega) (by omega) ?_
                                    cases hf
                                    subst hQ
                                    exact q_zret B hr hlk rfl hw rfl rfl dL_isTold_448
                                  · have hf := it_e hf c_54
                                    refine lv_aload_n hx hb dL_isTold_429 rfl (lv_at hl 0 rfl) ?_
                                    refine lv_bipush (v := 6) hx hb dL_isTold_430 (by decide) ?_
                                    refine lv_iconst (v := 0) hx hb dL_isTold_432 (by decide) ?_
                                    refine lv_iconst (v := 0) hx hb dL_isTold_433 (by decide) ?_
                                    obtain ⟨r_56, M_57, h_55, hf⟩ := bm_e hf
                                    refine w_wrap (n := 4) (M' := M_57) (v := r_56) (As := [.ref (X.2.2 0), .int 6, .int 0, .int 0]) (rest := []) B T N9 hw (c_L_cellOf l hfl _ X fu 6 0 0 M_53 (r_56, M_57) h_55 _) km_L_320 kt_L_cellOf ki_L kc_L_cellOf ⟨by decide +kernel, by decide +kernel, by decide +kernel⟩ rfl hl.1 rfl rfl ⟨(Nat.le_of_ble_eq_true rfl), (Nat.le_of_ble_eq_true rfl)⟩ (Nat.le_of_ble_eq_true rfl) ⟨(Nat.le_of_ble_eq_true rfl), (Nat.le_of_ble_eq_true rfl)⟩ dL_isTold_434 rfl (fun H locs hw => ?_)
                                    refine W.widen (k := 1639) (n := 9834) (by omega) (by omega) ?_
                                    refine lv_sipush (v := (-7100)) hx hb dL_isTold_437 (by decide) ?_
                                    refine lv_icmp_ne (tgt := 447) hx hb dL_isTold_440 (by decide) (fun c_58 => ?_) (fun c_58 => ?_)
                                    · have hf := ie_e hf c_58
                                      refine lv_iconst (v := 0) hx hb dL_isTold_447 (by decide) ?_
                                      cases hf
                                      subst hQ
                                      exact q_zret B hr hlk rfl hw rfl rfl dL_isTold_448
                                    · have hf := it_e hf c_58
                                      refine lv_iconst (v := 1) hx hb dL_isTold_443 (by decide) ?_
                                      refine lv_goto (tgt := 448) hx hb dL_isTold_444 (by decide) ?_
                                      cases hf
                                      subst hQ
                                      exact q_zret B hr hlk rfl hw rfl rfl dL_isTold_448
    have hL_188 : ∀ (n_188 : Nat) (x7_59 : Int32) (M_60 : Mem) (H : Heap) (locs : List Loc) (ls : Array Slot) (c9_188 : Nat), c9_188 + n_188 * 4 = 1631 →  HW (LW ex) X M_60 s H locs → lv_has ls 11 [(0, .ref (X.2.2 0)), (5, .ref (X.2.2 152)), (6, .ref (X.2.2 154)), (7, .int x7_59)] → f_L_isTold_L188 fu k246_3 n_188 x7_59 M_60 = some rs → W p l e rm_L_isTold s m args below meth c H locs (c9_188 + 0) (6 * (c9_188 + 0)) Q (F0 m 188 ls []) := by
      intro n_188
      induction n_188 with
      | zero => intro x7_59 M_60 H locs ls c9_188 hc9_188 hw hl hf; exact no_none hf
      | succ n_188 ih_188 =>
        intro x7_59 M_60 H locs ls c9_188 hc9_188 hw hl hf
        rw [f_L_isTold_L188] at hf
        refine lv_iload hx hb dL_isTold_188 (lv_at hl 3 rfl) ?_
        refine lv_aload hx hb dL_isTold_190 (lv_at hl 1 rfl) ?_
        refine lv_bipush (v := 15) hx hb dL_isTold_192 (by decide) ?_
        refine w_iald B hw (i := 152) (kw152 _) (by decide) dL_isTold_194 ?_
        refine lv_icmp_ge (tgt := 246) hx hb dL_isTold_195 (by decide) (fun c_61 => ?_) (fun c_61 => ?_)
        · have hf := it_e hf c_61
          refine W.widen (k := 1631) (n := 9786) (by omega) (by omega) ?_
          exact J246_3 M_60 _ _ _ hw (lv_sub hl [0, 1] rfl) hf
        · have hf := ie_e hf c_61
          refine lv_iconst (v := 0) hx hb dL_isTold_198 (by decide) ?_
          refine lv_istore (lv' := [(8, .int 0), (0, .ref (X.2.2 0)), (5, .ref (X.2.2 152)), (6, .ref (X.2.2 154)), (7, .int x7_59)]) hx hb dL_isTold_199 hl (by decide) rfl (fun ls hl => ?_)
          refine jn_e hf (fun kk => ∀ (M_63 : Mem) (H : Heap) (locs : List Loc) (ls : Array Slot), HW (LW ex) X M_63 s H locs → lv_has ls 11 [(0, .ref (X.2.2 0)), (5, .ref (X.2.2 152)), (6, .ref (X.2.2 154)), (7, .int x7_59)] → kk M_63 = some rs → W p l e rm_L_isTold s m args below meth c H locs (c9_188 + 4) (6 * (c9_188 + 4)) Q (F0 m 240 ls [])) ?_ (fun k240_62 J240_62 hf => ?_)
          · intro M_63 H locs ls hw hl hf
            refine r_iinc (v := (x7_59 + 1)) hx hb dL_isTold_240 hl (k := 3) rfl rfl (by decide) hf (fun x7_64 ls hl hf => ?_)
            have hl : lv_has ls 11 [(7, .int x7_64), (0, .ref (X.2.2 0)), (5, .ref (X.2.2 152)), (6, .ref (X.2.2 154))] := hl
            refine lv_goto (tgt := 188) hx hb dL_isTold_243 (by decide) ?_
            refine W.widen (k := (c9_188 + 4)) (n := (6 * (c9_188 + 4))) (by omega) (by omega) ?_
            exact ih_188 x7_64 M_63 _ _ _ (c9_188 + 4) (by omega) hw (lv_sub hl [1, 2, 3, 0] rfl) hf
          have hL_201 : ∀ (n_201 : Nat) (x8_65 : Int32) (M_66 : Mem) (H : Heap) (locs : List Loc) (ls : Array Slot) (c9_201 : Nat), c9_201 + n_201 * 1 = (c9_188 + 4) →  HW (LW ex) X M_66 s H locs → lv_has ls 11 [(0, .ref (X.2.2 0)), (5, .ref (X.2.2 152)), (6, .ref (X.2.2 154)), (7, .int x7_59), (8, .int x8_65)] → f_L_isTold_L201 fu x7_59 k240_62 n_201 x8_65 M_66 = some rs → W p l e rm_L_isTold s m args below meth c H locs (c9_201 + 0) (6 * (c9_201 + 0)) Q (F0 m 201 ls []) := by
            intro n_201
            induction n_201 with
            | zero => intro x8_65 M_66 H locs ls c9_201 hc9_201 hw hl hf; exact no_none hf
            | succ n_201 ih_201 =>
              intro x8_65 M_66 H locs ls c9_201 hc9_201 hw hl hf
              rw [f_L_isTold_L201] at hf
              refine lv_iload hx hb dL_isTold_201 (lv_at hl 4 rfl) ?_
              refine lv_aload hx hb dL_isTold_203 (lv_at hl 1 rfl) ?_
              refine lv_bipush (v := 16) hx hb dL_isTold_205 (by decide) ?_
              refine w_iald B hw (i := 152) (kw152 _) (by decide) dL_isTold_207 ?_
              refine lv_icmp_ge (tgt := 240) hx hb dL_isTold_208 (by decide) (fun c_67 => ?_) (fun c_67 => ?_)
              · have hf := it_e hf c_67
                refine W.widen (k := (c9_188 + 4)) (n := (6 * (c9_188 + 4))) (by omega) (by omega) ?_
                exact J240_62 M_66 _ _ _ hw (lv_sub hl [0, 1, 2, 3] rfl) hf
              · have hf := ie_e hf c_67
                refine lv_aload_n hx hb dL_isTold_211 rfl (lv_at hl 0 rfl) ?_
                refine lv_iload hx hb dL_isTold_212 (lv_at hl 3 rfl) ?_
                refine lv_iload hx hb dL_isTold_214 (lv_at hl 4 rfl) ?_
                obtain ⟨r_69, M_70, h_68, hf⟩ := bm_e hf
                refine w_wrap (n := 3) (M' := M_70) (v := r_69) (As := [.ref (X.2.2 0), .int x7_59, .int x8_65]) (rest := []) B T N9 hw (c_L_answer l hfl _ X fu x7_59 x8_65 M_66 (r_69, M_70) h_68 _) km_L_323 kt_L_answer ki_L kc_L_answer ⟨by decide +kernel, by decide +kernel, by decide +kernel⟩ rfl hl.1 rfl rfl ⟨(Nat.le_of_ble_eq_true rfl), (Nat.le_of_ble_eq_true rfl)⟩ (Nat.le_of_ble_eq_true rfl) ⟨by show _ ≤ (1639 : Nat); omega, by show _ ≤ (9834 : Nat); omega⟩ dL_isTold_216 rfl (fun H locs hw => ?_)
                refine W.widen (k := (c9_201 + 1)) (n := (6 * (c9_201 + 1))) (by omega) (by omega) ?_
                refine lv_aload hx hb dL_isTold_219 (lv_at hl 2 rfl) ?_
                refine lv_iconst (v := 3) hx hb dL_isTold_221 (by decide) ?_
                refine lv_iload hx hb dL_isTold_222 (lv_at hl 3 rfl) ?_
                refine lv_imul hx hb dL_isTold_224 ?_
                refine lv_iload hx hb dL_isTold_225 (lv_at hl 4 rfl) ?_
                refine lv_iadd hx hb dL_isTold_227 ?_
                obtain ⟨g_71, hf⟩ := grd_e hf
                refine w_iald B hw (i := 154) (kw154 _) g_71 dL_isTold_228 ?_
                refine lv_icmp_eq (tgt := 234) hx hb dL_isTold_229 (by decide) (fun c_72 => ?_) (fun c_72 => ?_)
                · have hf := it_e hf c_72
                  refine r_iinc (v := (x8_65 + 1)) hx hb dL_isTold_234 hl (k := 4) rfl rfl (by decide) hf (fun x8_73 ls hl hf => ?_)
                  have hl : lv_has ls 11 [(8, .int x8_73), (0, .ref (X.2.2 0)), (5, .ref (X.2.2 152)), (6, .ref (X.2.2 154)), (7, .int x7_59)] := hl
                  refine lv_goto (tgt := 201) hx hb dL_isTold_237 (by decide) ?_
                  refine W.widen (k := (c9_201 + 1)) (n := (6 * (c9_201 + 1))) (by omega) (by omega) ?_
                  exact ih_201 x8_73 M_70 _ _ _ (c9_201 + 1) (by omega) hw (lv_sub hl [1, 2, 3, 4, 0] rfl) hf
                · have hf := ie_e hf c_72
                  refine lv_iconst (v := 0) hx hb dL_isTold_232 (by decide) ?_
                  refine W.widen (k := 1639) (n := 9834) (by omega) (by omega) ?_
                  cases hf
                  subst hQ
                  exact q_zret B hr hlk rfl hw rfl rfl dL_isTold_233
          exact hL_201 4 0 M_60 _ _ _ (c9_188 + 0) (by omega) hw (lv_sub hl [1, 2, 3, 4, 0] rfl) hf
    exact hL_188 21 0 M_2 _ _ _ 1547 (by omega) hw (lv_sub hl [1, 2, 3, 0] rfl) hf
  have hL_3 : ∀ (n_3 : Nat) (x7_74 : Int32) (M_75 : Mem) (H : Heap) (locs : List Loc) (ls : Array Slot) (c9_3 : Nat), c9_3 + n_3 * 221 = 1547 →  HW (LW ex) X M_75 s H locs → lv_has ls 11 [(0, .ref (X.2.2 0)), (1, .int p1), (2, .ref (X.2.2 142)), (3, .ref (X.2.2 143)), (4, .ref (X.2.2 153)), (5, .ref (X.2.2 152)), (6, .ref (X.2.2 154)), (7, .int x7_74)] → f_L_isTold_L3 fu p1 k185_1 n_3 x7_74 M_75 = some rs → W p l e rm_L_isTold s m args below meth c H locs (c9_3 + 0) (6 * (c9_3 + 0)) Q (F0 m 3 ls []) := by
    intro n_3
    induction n_3 with
    | zero => intro x7_74 M_75 H locs ls c9_3 hc9_3 hw hl hf; exact no_none hf
    | succ n_3 ih_3 =>
      intro x7_74 M_75 H locs ls c9_3 hc9_3 hw hl hf
      rw [f_L_isTold_L3] at hf
      refine lv_iload hx hb dL_isTold_3 (lv_at hl 7 rfl) ?_
      refine lv_bipush (v := 6) hx hb dL_isTold_5 (by decide) ?_
      refine lv_icmp_ge (tgt := 185) hx hb dL_isTold_7 (by decide) (fun c_76 => ?_) (fun c_76 => ?_)
      · have hf := it_e hf c_76
        refine W.widen (k := 1547) (n := 9282) (by omega) (by omega) ?_
        exact J185_1 M_75 _ _ _ hw (lv_sub hl [0, 5, 6] rfl) hf
      · have hf := ie_e hf c_76
        refine lv_aload_n hx hb dL_isTold_10 rfl (lv_at hl 0 rfl) ?_
        refine lv_iload hx hb dL_isTold_11 (lv_at hl 7 rfl) ?_
        obtain ⟨r_78, M_79, h_77, hf⟩ := bm_e hf
        refine w_wrap (n := 2) (M' := M_79) (v := r_78) (As := [.ref (X.2.2 0), .int x7_74]) (rest := []) B T N9 hw (c_L_count l hfl _ X fu x7_74 M_75 (r_78, M_79) h_77 _) km_L_139 kt_L_count ki_L kc_L_count ⟨by decide +kernel, by decide +kernel, by decide +kernel⟩ rfl hl.1 rfl rfl ⟨(Nat.le_of_ble_eq_true rfl), (Nat.le_of_ble_eq_true rfl)⟩ (Nat.le_of_ble_eq_true rfl) ⟨by show _ ≤ (1639 : Nat); omega, by show _ ≤ (9834 : Nat); omega⟩ dL_isTold_13 rfl (fun H locs hw => ?_)
        refine W.widen (k := (c9_3 + 1)) (n := (6 * (c9_3 + 1))) (by omega) (by omega) ?_
        refine lv_aload_n hx hb dL_isTold_16 rfl (lv_at hl 3 rfl) ?_
        refine lv_iload hx hb dL_isTold_17 (lv_at hl 7 rfl) ?_
        obtain ⟨g_80, hf⟩ := grd_e hf
        refine w_iald B hw (i := 143) (kw143 _) g_80 dL_isTold_19 ?_
        refine lv_icmp_ne (tgt := 37) hx hb dL_isTold_20 (by decide) (fun c_81 => ?_) (fun c_81 => ?_)
        · have hf := ie_e hf c_81
          refine lv_iconst (v := 0) hx hb dL_isTold_37 (by decide) ?_
          refine W.widen (k := 1639) (n := 9834) (by omega) (by omega) ?_
          cases hf
          subst hQ
          exact q_zret B hr hlk rfl hw rfl rfl dL_isTold_38
        · have hf := it_e hf c_81
          refine lv_aload_n hx hb dL_isTold_23 rfl (lv_at hl 0 rfl) ?_
          refine lv_iload hx hb dL_isTold_24 (lv_at hl 7 rfl) ?_
          obtain ⟨r_83, M_84, h_82, hf⟩ := bm_e hf
          refine w_wrap (n := 2) (M' := M_84) (v := r_83) (As := [.ref (X.2.2 0), .int x7_74]) (rest := []) B T N9 hw (c_L_size l hfl _ X fu x7_74 M_79 (r_83, M_84) h_82 _) km_L_318 kt_L_size ki_L kc_L_size ⟨by decide +kernel, by decide +kernel, by decide +kernel⟩ rfl hl.1 rfl rfl ⟨(Nat.le_of_ble_eq_true rfl), (Nat.le_of_ble_eq_true rfl)⟩ (Nat.le_of_ble_eq_true rfl) ⟨by show _ ≤ (1639 : Nat); omega, by show _ ≤ (9834 : Nat); omega⟩ dL_isTold_26 rfl (fun H locs hw => ?_)
          refine W.widen (k := (c9_3 + 2)) (n := (6 * (c9_3 + 2))) (by omega) (by omega) ?_
          refine lv_aload hx hb dL_isTold_29 (lv_at hl 4 rfl) ?_
          refine lv_iload hx hb dL_isTold_31 (lv_at hl 7 rfl) ?_
          obtain ⟨g_85, hf⟩ := grd_e hf
          refine w_iald B hw (i := 153) (kw153 _) g_85 dL_isTold_33 ?_
          refine lv_icmp_eq (tgt := 39) hx hb dL_isTold_34 (by decide) (fun c_86 => ?_) (fun c_86 => ?_)
          · have hf := it_e hf c_86
            refine lv_iconst (v := 0) hx hb dL_isTold_39 (by decide) ?_
            refine lv_istore (lv' := [(8, .int 0), (0, .ref (X.2.2 0)), (1, .int p1), (2, .ref (X.2.2 142)), (3, .ref (X.2.2 143)), (4, .ref (X.2.2 153)), (5, .ref (X.2.2 152)), (6, .ref (X.2.2 154)), (7, .int x7_74)]) hx hb dL_isTold_40 hl (by decide) rfl (fun ls hl => ?_)
            refine jn_e hf (fun kk => ∀ (M_88 : Mem) (H : Heap) (locs : List Loc) (ls : Array Slot), HW (LW ex) X M_88 s H locs → lv_has ls 11 [(0, .ref (X.2.2 0)), (1, .int p1), (2, .ref (X.2.2 142)), (3, .ref (X.2.2 143)), (4, .ref (X.2.2 153)), (5, .ref (X.2.2 152)), (6, .ref (X.2.2 154)), (7, .int x7_74)] → kk M_88 = some rs → W p l e rm_L_isTold s m args below meth c H locs (c9_3 + 218) (6 * (c9_3 + 218)) Q (F0 m 142 ls [])) ?_ (fun k142_87 J142_87 hf => ?_)
            · intro M_88 H locs ls hw hl hf
              refine lv_iload_n hx hb dL_isTold_142 rfl (lv_at hl 1 rfl) ?_
              refine lv_bipush (v := 70) hx hb dL_isTold_143 (by decide) ?_
              obtain ⟨r_90, h_89, hf⟩ := bd_e hf
              refine q_callSi (M' := M_88) (As := [.int p1, .int 70]) (rest := []) B hw (c_L_low l _ X fu p1 70 M_88 r_90 h_89 _) cs_L_130 rfl hl.1 rfl rfl ⟨(Nat.le_of_ble_eq_true rfl), (Nat.le_of_ble_eq_true rfl)⟩ (Nat.le_of_ble_eq_true rfl) ⟨by show _ ≤ (1639 : Nat); omega, by show _ ≤ (9834 : Nat); omega⟩ dL_isTold_145 rfl (fun H locs hw => ?_)
              refine lv_istore (lv' := [(8, .int r_90), (0, .ref (X.2.2 0)), (1, .int p1), (2, .ref (X.2.2 142)), (3, .ref (X.2.2 143)), (4, .ref (X.2.2 153)), (5, .ref (X.2.2 152)), (6, .ref (X.2.2 154)), (7, .int x7_74)]) hx hb dL_isTold_148 hl (by decide) rfl (fun ls hl => ?_)
              refine lv_aload_n hx hb dL_isTold_150 rfl (lv_at hl 3 rfl) ?_
              refine lv_aload_n hx hb dL_isTold_151 rfl (lv_at hl 4 rfl) ?_
              refine lv_iload hx hb dL_isTold_152 (lv_at hl 8 rfl) ?_
              refine lv_iload hx hb dL_isTold_154 (lv_at hl 0 rfl) ?_
              obtain ⟨r_92, h_91, hf⟩ := bd_e hf
              refine q_callSi (M' := M_88) (As := [.ref (X.2.2 142), .ref (X.2.2 143), .int x7_74, .int r_90]) (rest := []) B hw (c_L_place l _ X fu x7_74 r_90 M_88 r_92 h_91 _) cs_L_121 rfl hl.1 rfl rfl ⟨(Nat.le_of_ble_eq_true rfl), (Nat.le_of_ble_eq_true rfl)⟩ (Nat.le_of_ble_eq_true rfl) ⟨by show _ ≤ (1639 : Nat); omega, by show _ ≤ (9834 : Nat); omega⟩ dL_isTold_156 rfl (fun H locs hw => ?_)
              refine lv_if_ge (tgt := 179) hx hb dL_isTold_159 (by decide) (fun c_93 => ?_) (fun c_93 => ?_)
              · have hf := it_e hf c_93
                refine r_iinc (v := (x7_74 + 1)) hx hb dL_isTold_179 hl (k := 8) rfl rfl (by decide) hf (fun x7_94 ls hl hf => ?_)
                have hl : lv_has ls 11 [(7, .int x7_94), (8, .int r_90), (0, .ref (X.2.2 0)), (1, .int p1), (2, .ref (X.2.2 142)), (3, .ref (X.2.2 143)), (4, .ref (X.2.2 153)), (5, .ref (X.2.2 152)), (6, .ref (X.2.2 154))] := hl
                refine lv_goto (tgt := 3) hx hb dL_isTold_182 (by decide) ?_
                refine W.widen (k := (c9_3 + 221)) (n := (6 * (c9_3 + 221))) (by omega) (by omega) ?_
                exact ih_3 x7_94 M_88 _ _ _ (c9_3 + 221) (by omega) hw (lv_sub hl [2, 3, 4, 5, 6, 7, 8, 0] rfl) hf
              · have hf := ie_e hf c_93
                refine lv_aload_n hx hb dL_isTold_162 rfl (lv_at hl 1 rfl) ?_
                refine lv_iload hx hb dL_isTold_163 (lv_at hl 8 rfl) ?_
                refine lv_iload hx hb dL_isTold_165 (lv_at hl 0 rfl) ?_
                refine lv_iconst (v := 0) hx hb dL_isTold_167 (by decide) ?_
                obtain ⟨r_96, M_97, h_95, hf⟩ := bm_e hf
                refine w_wrap (n := 4) (M' := M_97) (v := r_96) (As := [.ref (X.2.2 0), .int x7_74, .int r_90, .int 0]) (rest := []) B T N9 hw (c_L_cellOf l hfl _ X fu x7_74 r_90 0 M_88 (r_96, M_97) h_95 _) km_L_320 kt_L_cellOf ki_L kc_L_cellOf ⟨by decide +kernel, by decide +kernel, by decide +kernel⟩ rfl hl.1 rfl rfl ⟨(Nat.le_of_ble_eq_true rfl), (Nat.le_of_ble_eq_true rfl)⟩ (Nat.le_of_ble_eq_true rfl) ⟨by show _ ≤ (1639 : Nat); omega, by show _ ≤ (9834 : Nat); omega⟩ dL_isTold_168 rfl (fun H locs hw => ?_)
                refine W.widen (k := (c9_3 + 221)) (n := (6 * (c9_3 + 221))) (by omega) (by omega) ?_
                refine lv_sipush (v := (-7100)) hx hb dL_isTold_171 (by decide) ?_
                refine lv_icmp_eq (tgt := 179) hx hb dL_isTold_174 (by decide) (fun c_98 => ?_) (fun c_98 => ?_)
                · have hf := it_e hf c_98
                  refine r_iinc (v := (x7_74 + 1)) hx hb dL_isTold_179 hl (k := 8) rfl rfl (by decide) hf (fun x7_99 ls hl hf => ?_)
                  have hl : lv_has ls 11 [(7, .int x7_99), (8, .int r_90), (0, .ref (X.2.2 0)), (1, .int p1), (2, .ref (X.2.2 142)), (3, .ref (X.2.2 143)), (4, .ref (X.2.2 153)), (5, .ref (X.2.2 152)), (6, .ref (X.2.2 154))] := hl
                  refine lv_goto (tgt := 3) hx hb dL_isTold_182 (by decide) ?_
                  refine W.widen (k := (c9_3 + 221)) (n := (6 * (c9_3 + 221))) (by omega) (by omega) ?_
                  exact ih_3 x7_99 M_97 _ _ _ (c9_3 + 221) (by omega) hw (lv_sub hl [2, 3, 4, 5, 6, 7, 8, 0] rfl) hf
                · have hf := ie_e hf c_98
                  refine lv_iconst (v := 0) hx hb dL_isTold_177 (by decide) ?_
                  refine W.widen (k := 1639) (n := 9834) (by omega) (by omega) ?_
                  cases hf
                  subst hQ
                  exact q_zret B hr hlk rfl hw rfl rfl dL_isTold_178
            have hL_42 : ∀ (n_42 : Nat) (x8_100 : Int32) (M_101 : Mem) (H : Heap) (locs : List Loc) (ls : Array Slot) (c9_42 : Nat), c9_42 + n_42 * 18 = (c9_3 + 218) →  HW (LW ex) X M_101 s H locs → lv_has ls 11 [(0, .ref (X.2.2 0)), (1, .int p1), (2, .ref (X.2.2 142)), (3, .ref (X.2.2 143)), (4, .ref (X.2.2 153)), (5, .ref (X.2.2 152)), (6, .ref (X.2.2 154)), (7, .int x7_74), (8, .int x8_100)] → f_L_isTold_L42 fu x7_74 k142_87 n_42 x8_100 M_101 = some rs → W p l e rm_L_isTold s m args below meth c H locs (c9_42 + 0) (6 * (c9_42 + 0)) Q (F0 m 42 ls []) := by
              intro n_42
              induction n_42 with
              | zero => intro x8_100 M_101 H locs ls c9_42 hc9_42 hw hl hf; exact no_none hf
              | succ n_42 ih_42 =>
                intro x8_100 M_101 H locs ls c9_42 hc9_42 hw hl hf
                rw [f_L_isTold_L42] at hf
                refine lv_iload hx hb dL_isTold_42 (lv_at hl 8 rfl) ?_
                refine lv_aload_n hx hb dL_isTold_44 rfl (lv_at hl 3 rfl) ?_
                refine lv_iload hx hb dL_isTold_45 (lv_at hl 7 rfl) ?_
                obtain ⟨g_102, hf⟩ := grd_e hf
                refine w_iald B hw (i := 143) (kw143 _) g_102 dL_isTold_47 ?_
                refine lv_icmp_ge (tgt := 142) hx hb dL_isTold_48 (by decide) (fun c_103 => ?_) (fun c_103 => ?_)
                · have hf := it_e hf c_103
                  refine W.widen (k := (c9_3 + 218)) (n := (6 * (c9_3 + 218))) (by omega) (by omega) ?_
                  exact J142_87 M_101 _ _ _ hw (lv_sub hl [0, 1, 2, 3, 4, 5, 6, 7] rfl) hf
                · have hf := ie_e hf c_103
                  refine lv_aload_n hx hb dL_isTold_51 rfl (lv_at hl 2 rfl) ?_
                  refine lv_bipush (v := 10) hx hb dL_isTold_52 (by decide) ?_
                  refine lv_iload hx hb dL_isTold_54 (lv_at hl 7 rfl) ?_
                  refine lv_imul hx hb dL_isTold_56 ?_
                  refine lv_iload hx hb dL_isTold_57 (lv_at hl 8 rfl) ?_
                  refine lv_iadd hx hb dL_isTold_59 ?_
                  obtain ⟨g_104, hf⟩ := grd_e hf
                  refine w_lald B hw (i := 142) (kw142 _) g_104 dL_isTold_60 ?_
                  refine q_callSi (M' := M_101) (As := [.long (lg (M_101 142) ((10 * x7_74) + x8_100).toNatClampNeg)]) (rest := []) B hw (c_L_markOf l _ X (lg (M_101 142) ((10 * x7_74) + x8_100).toNatClampNeg) _ rfl M_101 _) cs_L_105 rfl hl.1 rfl rfl ⟨(Nat.le_of_ble_eq_true rfl), (Nat.le_of_ble_eq_true rfl)⟩ (Nat.le_of_ble_eq_true rfl) ⟨by show _ ≤ (1639 : Nat); omega, by show _ ≤ (9834 : Nat); omega⟩ dL_isTold_61 rfl (fun H locs hw => ?_)
                  refine r_topn hf (fun x9_106 hf => ?_)
                  refine lv_istore (lv' := [(9, .int x9_106), (0, .ref (X.2.2 0)), (1, .int p1), (2, .ref (X.2.2 142)), (3, .ref (X.2.2 143)), (4, .ref (X.2.2 153)), (5, .ref (X.2.2 152)), (6, .ref (X.2.2 154)), (7, .int x7_74), (8, .int x8_100)]) hx hb dL_isTold_64 hl (by decide) rfl (fun ls hl => ?_)
                  refine lv_iconst (v := 0) hx hb dL_isTold_66 (by decide) ?_
                  refine lv_istore (lv' := [(10, .int 0), (9, .int x9_106), (0, .ref (X.2.2 0)), (1, .int p1), (2, .ref (X.2.2 142)), (3, .ref (X.2.2 143)), (4, .ref (X.2.2 153)), (5, .ref (X.2.2 152)), (6, .ref (X.2.2 154)), (7, .int x7_74), (8, .int x8_100)]) hx hb dL_isTold_67 hl (by decide) rfl (fun ls hl => ?_)
                  refine jn_e hf (fun kk => ∀ (M_108 : Mem) (H : Heap) (locs : List Loc) (ls : Array Slot), HW (LW ex) X M_108 s H locs → lv_has ls 11 [(0, .ref (X.2.2 0)), (1, .int p1), (2, .ref (X.2.2 142)), (3, .ref (X.2.2 143)), (4, .ref (X.2.2 153)), (5, .ref (X.2.2 152)), (6, .ref (X.2.2 154)), (7, .int x7_74), (8, .int x8_100), (9, .int x9_106)] → kk M_108 = some rs → W p l e rm_L_isTold s m args below meth c H locs (c9_42 + 15) (6 * (c9_42 + 15)) Q (F0 m 115 ls [])) ?_ (fun k115_107 J115_107 hf => ?_)
                  · intro M_108 H locs ls hw hl hf
                    refine lv_aload_n hx hb dL_isTold_115 rfl (lv_at hl 0 rfl) ?_
                    refine lv_iload hx hb dL_isTold_116 (lv_at hl 7 rfl) ?_
                    refine lv_iload hx hb dL_isTold_118 (lv_at hl 9 rfl) ?_
                    refine lv_iload hx hb dL_isTold_120 (lv_at hl 7 rfl) ?_
                    refine q_callSi (M' := M_108) (As := [.int x7_74]) (rest := [.int x9_106, .int x7_74, .ref (X.2.2 0)]) B hw (c_L_columns l _ X x7_74 _ rfl M_108 _) cs_L_125 rfl hl.1 rfl rfl ⟨(Nat.le_of_ble_eq_true rfl), (Nat.le_of_ble_eq_true rfl)⟩ (Nat.le_of_ble_eq_true rfl) ⟨by show _ ≤ (1639 : Nat); omega, by show _ ≤ (9834 : Nat); omega⟩ dL_isTold_122 rfl (fun H locs hw => ?_)
                    obtain ⟨r_111, M_112, h_110, hf⟩ := bm_e hf
                    refine w_wrap (n := 4) (M' := M_112) (v := r_111) (As := [.ref (X.2.2 0), .int x7_74, .int x9_106, .int (f_L_columns x7_74)]) (rest := []) B T N9 hw (c_L_cellOf l hfl _ X fu x7_74 x9_106 (f_L_columns x7_74) M_108 (r_111, M_112) h_110 _) km_L_320 kt_L_cellOf ki_L kc_L_cellOf ⟨by decide +kernel, by decide +kernel, by decide +kernel⟩ rfl hl.1 rfl rfl ⟨(Nat.le_of_ble_eq_true rfl), (Nat.le_of_ble_eq_true rfl)⟩ (Nat.le_of_ble_eq_true rfl) ⟨by show _ ≤ (1639 : Nat); omega, by show _ ≤ (9834 : Nat); omega⟩ dL_isTold_125 rfl (fun H locs hw => ?_)
                    refine W.widen (k := (c9_42 + 18)) (n := (6 * (c9_42 + 18))) (by omega) (by omega) ?_
                    refine lv_sipush (v := (-7100)) hx hb dL_isTold_128 (by decide) ?_
                    refine lv_icmp_eq (tgt := 136) hx hb dL_isTold_131 (by decide) (fun c_113 => ?_) (fun c_113 => ?_)
                    · have hf := it_e hf c_113
                      refine r_iinc (v := (x8_100 + 1)) hx hb dL_isTold_136 hl (k := 8) rfl rfl (by decide) hf (fun x8_114 ls hl hf => ?_)
                      have hl : lv_has ls 11 [(8, .int x8_114), (0, .ref (X.2.2 0)), (1, .int p1), (2, .ref (X.2.2 142)), (3, .ref (X.2.2 143)), (4, .ref (X.2.2 153)), (5, .ref (X.2.2 152)), (6, .ref (X.2.2 154)), (7, .int x7_74), (9, .int x9_106)] := hl
                      refine lv_goto (tgt := 42) hx hb dL_isTold_139 (by decide) ?_
                      refine W.widen (k := (c9_42 + 18)) (n := (6 * (c9_42 + 18))) (by omega) (by omega) ?_
                      exact ih_42 x8_114 M_112 _ _ _ (c9_42 + 18) (by omega) hw (lv_sub hl [1, 2, 3, 4, 5, 6, 7, 8, 0] rfl) hf
                    · have hf := ie_e hf c_113
                      refine lv_iconst (v := 0) hx hb dL_isTold_134 (by decide) ?_
                      refine W.widen (k := 1639) (n := 9834) (by omega) (by omega) ?_
                      cases hf
                      subst hQ
                      exact q_zret B hr hlk rfl hw rfl rfl dL_isTold_135
                  have hL_69 : ∀ (n_69 : Nat) (x10_115 : Int32) (M_116 : Mem) (H : Heap) (locs : List Loc) (ls : Array Slot) (c9_69 : Nat), c9_69 + n_69 * 3 = (c9_42 + 15) →  HW (LW ex) X M_116 s H locs → lv_has ls 11 [(0, .ref (X.2.2 0)), (1, .int p1), (2, .ref (X.2.2 142)), (3, .ref (X.2.2 143)), (4, .ref (X.2.2 153)), (5, .ref (X.2.2 152)), (6, .ref (X.2.2 154)), (7, .int x7_74), (8, .int x8_100), (9, .int x9_106), (10, .int x10_115)] → f_L_isTold_L69 fu x7_74 x8_100 x9_106 k115_107 n_69 x10_115 M_116 = some rs → W p l e rm_L_isTold s m args below meth c H locs (c9_69 + 0) (6 * (c9_69 + 0)) Q (F0 m 69 ls []) := by
                    intro n_69
                    induction n_69 with
                    | zero => intro x10_115 M_116 H locs ls c9_69 hc9_69 hw hl hf; exact no_none hf
                    | succ n_69 ih_69 =>
                      intro x10_115 M_116 H locs ls c9_69 hc9_69 hw hl hf
                      rw [f_L_isTold_L69] at hf
                      refine lv_iload hx hb dL_isTold_69 (lv_at hl 10 rfl) ?_
                      refine lv_iload hx hb dL_isTold_71 (lv_at hl 7 rfl) ?_
                      refine q_callSi (M' := M_116) (As := [.int x7_74]) (rest := [.int x10_115]) B hw (c_L_columns l _ X x7_74 _ rfl M_116 _) cs_L_125 rfl hl.1 rfl rfl ⟨(Nat.le_of_ble_eq_true rfl), (Nat.le_of_ble_eq_true rfl)⟩ (Nat.le_of_ble_eq_true rfl) ⟨by show _ ≤ (1639 : Nat); omega, by show _ ≤ (9834 : Nat); omega⟩ dL_isTold_73 rfl (fun H locs hw => ?_)
                      refine lv_icmp_ge (tgt := 115) hx hb dL_isTold_76 (by decide) (fun c_118 => ?_) (fun c_118 => ?_)
                      · have hf := it_e hf c_118
                        refine W.widen (k := (c9_42 + 15)) (n := (6 * (c9_42 + 15))) (by omega) (by omega) ?_
                        exact J115_107 M_116 _ _ _ hw (lv_sub hl [0, 1, 2, 3, 4, 5, 6, 7, 8, 9] rfl) hf
                      · have hf := ie_e hf c_118
                        refine lv_aload_n hx hb dL_isTold_79 rfl (lv_at hl 0 rfl) ?_
                        refine lv_iload hx hb dL_isTold_80 (lv_at hl 7 rfl) ?_
                        refine lv_iload hx hb dL_isTold_82 (lv_at hl 9 rfl) ?_
                        refine lv_iload hx hb dL_isTold_84 (lv_at hl 10 rfl) ?_
                        obtain ⟨r_120, M_121, h_119, hf⟩ := bm_e hf
                        refine w_wrap (n := 4) (M' := M_121) (v := r_120) (As := [.ref (X.2.2 0), .int x7_74, .int x9_106, .int x10_115]) (rest := []) B T N9 hw (c_L_cellOf l hfl _ X fu x7_74 x9_106 x10_115 M_116 (r_120, M_121) h_119 _) km_L_320 kt_L_cellOf ki_L kc_L_cellOf ⟨by decide +kernel, by decide +kernel, by decide +kernel⟩ rfl hl.1 rfl rfl ⟨(Nat.le_of_ble_eq_true rfl), (Nat.le_of_ble_eq_true rfl)⟩ (Nat.le_of_ble_eq_true rfl) ⟨by show _ ≤ (1639 : Nat); omega, by show _ ≤ (9834 : Nat); omega⟩ dL_isTold_86 rfl (fun H locs hw => ?_)
                        refine W.widen (k := (c9_69 + 3)) (n := (6 * (c9_69 + 3))) (by omega) (by omega) ?_
                        refine lv_aload_n hx hb dL_isTold_89 rfl (lv_at hl 2 rfl) ?_
                        refine lv_bipush (v := 10) hx hb dL_isTold_90 (by decide) ?_
                        refine lv_iload hx hb dL_isTold_92 (lv_at hl 7 rfl) ?_
                        refine lv_imul hx hb dL_isTold_94 ?_
                        refine lv_iload hx hb dL_isTold_95 (lv_at hl 8 rfl) ?_
                        refine lv_iadd hx hb dL_isTold_97 ?_
                        obtain ⟨g_122, hf⟩ := grd_e hf
                        refine w_lald B hw (i := 142) (kw142 _) g_122 dL_isTold_98 ?_
                        refine lv_iload hx hb dL_isTold_99 (lv_at hl 10 rfl) ?_
                        refine q_callSi (M' := M_121) (As := [.long (lg (M_121 142) ((10 * x7_74) + x8_100).toNatClampNeg), .int x10_115]) (rest := [.int r_120]) B hw (c_L_at l _ X (lg (M_121 142) ((10 * x7_74) + x8_100).toNatClampNeg) x10_115 _ rfl M_121 _) cs_L_169 rfl hl.1 rfl rfl ⟨(Nat.le_of_ble_eq_true rfl), (Nat.le_of_ble_eq_true rfl)⟩ (Nat.le_of_ble_eq_true rfl) ⟨by show _ ≤ (1639 : Nat); omega, by show _ ≤ (9834 : Nat); omega⟩ dL_isTold_101 rfl (fun H locs hw => ?_)
                        refine lv_icmp_eq (tgt := 109) hx hb dL_isTold_104 (by decide) (fun c_124 => ?_) (fun c_124 => ?_)
                        · have hf := it_e hf c_124
                          refine r_iinc (v := (x10_115 + 1)) hx hb dL_isTold_109 hl (k := 10) rfl rfl (by decide) hf (fun x10_125 ls hl hf => ?_)
                          have hl : lv_has ls 11 [(10, .int x10_125), (0, .ref (X.2.2 0)), (1, .int p1), (2, .ref (X.2.2 142)), (3, .ref (X.2.2 143)), (4, .ref (X.2.2 153)), (5, .ref (X.2.2 152)), (6, .ref (X.2.2 154)), (7, .int x7_74), (8, .int x8_100), (9, .int x9_106)] := hl
                          refine lv_goto (tgt := 69) hx hb dL_isTold_112 (by decide) ?_
                          refine W.widen (k := (c9_69 + 3)) (n := (6 * (c9_69 + 3))) (by omega) (by omega) ?_
                          exact ih_69 x10_125 M_121 _ _ _ (c9_69 + 3) (by omega) hw (lv_sub hl [1, 2, 3, 4, 5, 6, 7, 8, 9, 10, 0] rfl) hf
                        · have hf := ie_e hf c_124
                          refine lv_iconst (v := 0) hx hb dL_isTold_107 (by decide) ?_
                          refine W.widen (k := 1639) (n := 9834) (by omega) (by omega) ?_
                          cases hf
                          subst hQ
                          exact q_zret B hr hlk rfl hw rfl rfl dL_isTold_108
                  exact hL_69 5 0 M_101 _ _ _ (c9_42 + 0) (by omega) hw (lv_sub hl [2, 3, 4, 5, 6, 7, 8, 9, 10, 1, 0] rfl) hf
            exact hL_42 12 0 M_84 _ _ _ (c9_3 + 2) (by omega) hw (lv_sub hl [1, 2, 3, 4, 5, 6, 7, 8, 0] rfl) hf
          · have hf := ie_e hf c_86
            refine lv_iconst (v := 0) hx hb dL_isTold_37 (by decide) ?_
            refine W.widen (k := 1639) (n := 9834) (by omega) (by omega) ?_
            cases hf
            subst hQ
            exact q_zret B hr hlk rfl hw rfl rfl dL_isTold_38
  exact hL_3 7 0 M _ _ _ 0 (by omega) hw (lv_sub hl [1, 2, 3, 4, 5, 6, 7, 0] rfl) hf
abbrev rm_L_roomFor : Room := { frames := 0, cells := 0, slots := 0, locals := 0 }
set_option maxRecDepth 100000 in
set_option maxHeartbeats 8000000 in
theorem c_L_roomFor (l : Launch) (ex : List (Nat × Nat)) (X : XT) (fu : Nat) (M : Mem)  (rs : Int32) (hf : f_L_roomFor fu M = some rs) (sz : Nat) : Met l yL_roomFor (wbig yL_roomFor cL_roomFor 2 (some .boolean)) rm_L_roomFor (va_Pc [.ref (X.2.2 143)] (PW (LW ex) X M sz)) (QI (LW ex) X M rs sz) 0 0 (AX (LW ex) X sz) := by
  refine met_go (L := (LW ex)) (M := M) (by decide +kernel) (Nat.le_of_ble_eq_true rfl) ?_
  intro p e s m args below meth c hsz B hr hlk hw ls hl
  subst hsz
  have hx := B.hx
  have hb := B.hb
  have hl : lv_has ls 2 [(0, .ref (X.2.2 143))] := hl
  generalize hQ : MQ below _ args s 0 0 (AX (LW ex) X s.heap.size) = Q
  unfold f_L_roomFor at hf
  refine lv_iconst (v := 0) hx hb dL_roomFor_0 (by decide) ?_
  refine lv_istore_n (lv' := [(1, .int 0), (0, .ref (X.2.2 143))]) hx hb dL_roomFor_1 rfl hl (by decide) rfl (fun ls hl => ?_)
  have hL_2 : ∀ (n_2 : Nat) (x1_1 : Int32) (H : Heap) (locs : List Loc) (ls : Array Slot), HW (LW ex) X M s H locs → lv_has ls 2 [(0, .ref (X.2.2 143)), (1, .int x1_1)] → f_L_roomFor_L2 fu M n_2 x1_1 = some rs → W p l e rm_L_roomFor s m args below meth c H locs 0 0 Q (F0 m 2 ls []) := by
    intro n_2
    induction n_2 with
    | zero => intro x1_1 H locs ls hw hl hf; exact no_none hf
    | succ n_2 ih_2 =>
      intro x1_1 H locs ls hw hl hf
      rw [f_L_roomFor_L2] at hf
      refine lv_iload_n hx hb dL_roomFor_2 rfl (lv_at hl 1 rfl) ?_
      refine lv_bipush (v := 6) hx hb dL_roomFor_3 (by decide) ?_
      refine lv_icmp_ge (tgt := 24) hx hb dL_roomFor_5 (by decide) (fun c_2 => ?_) (fun c_2 => ?_)
      · have hf := it_e hf c_2
        refine lv_iconst (v := 1) hx hb dL_roomFor_24 (by decide) ?_
        cases hf
        subst hQ
        exact q_zret B hr hlk rfl hw rfl rfl dL_roomFor_25
      · have hf := ie_e hf c_2
        refine lv_aload_n hx hb dL_roomFor_8 rfl (lv_at hl 0 rfl) ?_
        refine lv_iload_n hx hb dL_roomFor_9 rfl (lv_at hl 1 rfl) ?_
        obtain ⟨g_3, hf⟩ := grd_e hf
        refine w_iald B hw (i := 143) (kw143 _) g_3 dL_roomFor_10 ?_
        refine lv_bipush (v := 6) hx hb dL_roomFor_11 (by decide) ?_
        refine lv_icmp_le (tgt := 18) hx hb dL_roomFor_13 (by decide) (fun c_4 => ?_) (fun c_4 => ?_)
        · have hf := it_e hf c_4
          refine r_iinc (v := (x1_1 + 1)) hx hb dL_roomFor_18 hl (k := 1) rfl rfl (by decide) hf (fun x1_5 ls hl hf => ?_)
          have hl : lv_has ls 2 [(1, .int x1_5), (0, .ref (X.2.2 143))] := hl
          refine lv_goto (tgt := 2) hx hb dL_roomFor_21 (by decide) ?_
          exact ih_2 x1_5 _ _ _ hw (lv_sub hl [1, 0] rfl) hf
        · have hf := ie_e hf c_4
          refine lv_iconst (v := 0) hx hb dL_roomFor_16 (by decide) ?_
          cases hf
          subst hQ
          exact q_zret B hr hlk rfl hw rfl rfl dL_roomFor_17
  exact hL_2 fu 0 _ _ _ hw (lv_sub hl [1, 0] rfl) hf
