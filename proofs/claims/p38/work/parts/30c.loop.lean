/-! ===== the law's loop ===== -/
set_option maxRecDepth 100000 in
set_option maxHeartbeats 8000000 in
theorem lm_end (l : Launch) (hfl : l.stackTraces = false) {p : Program} {e : Env} {s : State} {m : MethodId} {b : Nat} {below : List Frame} {meth : Method} {c : Code} {X : XT} {Q : State → Prop} (B : Cx (LW []) X p s m #[Value.ref b] c cL_law RL 22) (T : TX (AX (LW []) X s.heap.size) s) (N9 : NC s) {i t u cells slots : Nat} {M g : Mem} {u1 v1 : Int32} {H : Heap} {locs : List Loc} {ls : Array Slot} (hI : INV M g t u) (ht : t < 2 ^ 29) (hc : cells + 1841 ≤ 663957) (hs : slots + 11046 ≤ 7109899) (hw : HW (LW []) X M s H locs) (hl : lv_has ls 22 [(21, .int 1), (20, .int v1), (19, .int u1), (17, .int (nI i)), (0, .ref b), (1, .ref (X.2.2 0)), (2, .ref (X.2.2 142)), (3, .ref (X.2.2 143)), (4, .ref (X.2.2 144)), (5, .ref (X.2.2 145)), (6, .ref (X.2.2 146)), (7, .ref (X.2.2 147)), (8, .ref (X.2.2 148)), (9, .ref (X.2.2 149)), (10, .ref (X.2.2 150)), (11, .ref (X.2.2 151)), (12, .ref (X.2.2 152)), (13, .ref (X.2.2 153)), (14, .ref (X.2.2 154)), (15, .ref (X.2.2 155)), (16, .ref (X.2.2 156))]) (kk : ∀ (M' g' : Mem) (H : Heap) (locs : List Loc) (ls : Array Slot), INV M' g' t u → HW (LW []) X M' s H locs → lv_has ls 22 [(17, .int (nI i)), (0, .ref b), (1, .ref (X.2.2 0)), (2, .ref (X.2.2 142)), (3, .ref (X.2.2 143)), (4, .ref (X.2.2 144)), (5, .ref (X.2.2 145)), (6, .ref (X.2.2 146)), (7, .ref (X.2.2 147)), (8, .ref (X.2.2 148)), (9, .ref (X.2.2 149)), (10, .ref (X.2.2 150)), (11, .ref (X.2.2 151)), (12, .ref (X.2.2 152)), (13, .ref (X.2.2 153)), (14, .ref (X.2.2 154)), (15, .ref (X.2.2 155)), (16, .ref (X.2.2 156))] → W p l e room_1 s m #[Value.ref b] below meth c H locs (cells + 1841) (slots + 11046) Q (F0 m 617 ls [])) : W p l e room_1 s m #[Value.ref b] below meth c H locs cells slots Q (F0 m 571 ls []) := by
  refine lv_iload B.hx B.hb dL_law_571 (lv_at hl 0 rfl) ?_
  refine lv_if_eq (tgt := 615) B.hx B.hb dL_law_573 (by decide) (fun c9 => absurd c9 (by decide)) (fun _ => ?_)
  obtain ⟨M1, g1, e1, e2, _⟩ := told_ok (fu := 5000) (v := u1 ^^^ v1) (by omega) hI ht
  refine lv_aload_n B.hx B.hb dL_law_576 rfl (lv_at hl 5 rfl) ?_
  refine lv_iload B.hx B.hb dL_law_577 (lv_at hl 2 rfl) ?_
  refine lv_iload B.hx B.hb dL_law_579 (lv_at hl 1 rfl) ?_
  refine lv_ixor B.hx B.hb dL_law_581 ?_
  refine lv_aload_n B.hx B.hb dL_law_582 rfl (lv_at hl 6 rfl) ?_
  refine lv_aload_n B.hx B.hb dL_law_583 rfl (lv_at hl 7 rfl) ?_
  refine lv_aload B.hx B.hb dL_law_584 (lv_at hl 17 rfl) ?_
  refine lv_aload B.hx B.hb dL_law_586 (lv_at hl 16 rfl) ?_
  refine lv_aload B.hx B.hb dL_law_588 (lv_at hl 18 rfl) ?_
  refine wn_callSi (M' := M1) (v := 1) (As := [.ref (X.2.2 0), .int (u1 ^^^ v1), .ref (X.2.2 142), .ref (X.2.2 143), .ref (X.2.2 153), .ref (X.2.2 152), .ref (X.2.2 154)]) (rest := []) B T N9 hw (c_L_isTold l hfl _ X 5000 (u1 ^^^ v1) M (1, M1) e1 _) cs_L_388 rfl hl.1 rfl rfl ⟨(Nat.le_of_ble_eq_true rfl), (Nat.le_of_ble_eq_true rfl)⟩ (Nat.le_of_ble_eq_true rfl) ⟨(by show _ ≤ 663957; omega), (by show _ ≤ 7109899; omega)⟩ dL_law_590 rfl (fun H locs hw => ?_)
  refine lv_if_eq (tgt := 615) B.hx B.hb dL_law_593 (by decide) (fun c9 => absurd c9 (by decide)) (fun _ => ?_)
  refine lv_iload B.hx B.hb dL_law_596 (lv_at hl 3 rfl) ?_
  refine lv_iconst (v := 4) B.hx B.hb dL_law_598 (by decide) ?_
  refine lv_irem B.hx B.hb dL_law_599 (by decide) ?_
  refine lv_iconst (v := 3) B.hx B.hb dL_law_600 (by decide) ?_
  refine lv_icmp_ne (tgt := 617) B.hx B.hb dL_law_601 (by decide) (fun _ => ?_) (fun _ => ?_)
  · refine W.widen (k := cells + 1841) (n := slots + 11046) (by omega) (by omega) ?_
    exact kk _ _ _ _ _ e2 hw (lv_sub hl [3, 4, 5, 6, 7, 8, 9, 10, 11, 12, 13, 14, 15, 16, 17, 18, 19, 20] rfl)
  · obtain ⟨M2, g2, f1, f2⟩ := anew_ok (fu := 5000) (by omega) e2 ht
    refine lv_aload_n B.hx B.hb dL_law_604 rfl (lv_at hl 5 rfl) ?_
    refine lv_aload_n B.hx B.hb dL_law_605 rfl (lv_at hl 6 rfl) ?_
    refine lv_aload_n B.hx B.hb dL_law_606 rfl (lv_at hl 7 rfl) ?_
    refine lv_aload B.hx B.hb dL_law_607 (lv_at hl 10 rfl) ?_
    refine wn_callSi (M' := M2) (v := 1) (As := [.ref (X.2.2 0), .ref (X.2.2 142), .ref (X.2.2 143), .ref (X.2.2 146)]) (rest := []) B T N9 hw (c_L_isAnew l hfl X 5000 M1 (1, M2) f1 _) cs_L_392 rfl hl.1 rfl rfl ⟨(Nat.le_of_ble_eq_true rfl), (Nat.le_of_ble_eq_true rfl)⟩ (Nat.le_of_ble_eq_true rfl) ⟨(by show _ ≤ 663957; omega), (by show _ ≤ 7109899; omega)⟩ dL_law_609 rfl (fun H locs hw => ?_)
    refine lv_if_ne (tgt := 617) B.hx B.hb dL_law_612 (by decide) (fun _ => ?_) (fun c9 => absurd c9 (by decide))
    refine W.widen (k := cells + 1841) (n := slots + 11046) (by omega) (by omega) ?_
    exact kk _ _ _ _ _ f2 hw (lv_sub hl [3, 4, 5, 6, 7, 8, 9, 10, 11, 12, 13, 14, 15, 16, 17, 18, 19, 20] rfl)
set_option maxRecDepth 100000 in
set_option maxHeartbeats 8000000 in
theorem lm_writes (l : Launch) (hfl : l.stackTraces = false) {p : Program} {e : Env} {s : State} {m : MethodId} {b : Nat} {below : List Frame} {meth : Method} {c : Code} {X : XT} {Q : State → Prop} (B : Cx (LW []) X p s m #[Value.ref b] c cL_law RL 22) (T : TX (AX (LW []) X s.heap.size) s) (N9 : NC s) {i t u cells slots : Nat} {M g : Mem} {u1 v1 p1 : Int32} {H : Heap} {locs : List Loc} {ls : Array Slot} (hI : INV M g t u) (ht : t + 2000 < 2 ^ 26) (hu : u ≤ 52) (hc : cells + 80 ≤ 663957) (hs : slots + 500 ≤ 7109899) (hw : HW (LW []) X M s H locs) (hl : lv_has ls 22 [(20, .int v1), (19, .int u1), (17, .int (nI i)), (0, .ref b), (1, .ref (X.2.2 0)), (2, .ref (X.2.2 142)), (3, .ref (X.2.2 143)), (4, .ref (X.2.2 144)), (5, .ref (X.2.2 145)), (6, .ref (X.2.2 146)), (7, .ref (X.2.2 147)), (8, .ref (X.2.2 148)), (9, .ref (X.2.2 149)), (10, .ref (X.2.2 150)), (11, .ref (X.2.2 151)), (12, .ref (X.2.2 152)), (13, .ref (X.2.2 153)), (14, .ref (X.2.2 154)), (15, .ref (X.2.2 155)), (16, .ref (X.2.2 156))]) (kk : ∀ (M' g' : Mem) (t' u' : Nat) (H : Heap) (locs : List Loc) (ls : Array Slot), INV M' g' t' u' → t ≤ t' → t' ≤ t + 1500 → u ≤ u' → u' ≤ u + 8 → HW (LW []) X M' s H locs → lv_has ls 22 [(21, .int 1), (20, .int v1), (19, .int u1), (17, .int (nI i)), (0, .ref b), (1, .ref (X.2.2 0)), (2, .ref (X.2.2 142)), (3, .ref (X.2.2 143)), (4, .ref (X.2.2 144)), (5, .ref (X.2.2 145)), (6, .ref (X.2.2 146)), (7, .ref (X.2.2 147)), (8, .ref (X.2.2 148)), (9, .ref (X.2.2 149)), (10, .ref (X.2.2 150)), (11, .ref (X.2.2 151)), (12, .ref (X.2.2 152)), (13, .ref (X.2.2 153)), (14, .ref (X.2.2 154)), (15, .ref (X.2.2 155)), (16, .ref (X.2.2 156))] → W p l e room_1 s m #[Value.ref b] below meth c H locs (cells + 80) (slots + 500) Q (F0 m 571 ls [])) : W p l e room_1 s m #[Value.ref b] below meth c H locs cells slots Q (F0 m 307 ls [.int p1, .ref (X.2.2 0)]) := by
  obtain ⟨M1, g1, t1, u2, e1, e2, e3, e4, e5, e6⟩ := writes_ok (fu := 5000) (p1 := p1) (p2 := u1) (p3 := v1) (by omega) hI (by omega) (by omega)
  refine lv_iload B.hx B.hb dL_law_307 (lv_at hl 1 rfl) ?_
  refine lv_iload B.hx B.hb dL_law_309 (lv_at hl 0 rfl) ?_
  refine lv_aload_n B.hx B.hb dL_law_311 rfl (lv_at hl 5 rfl) ?_
  refine lv_aload_n B.hx B.hb dL_law_312 rfl (lv_at hl 6 rfl) ?_
  refine lv_aload B.hx B.hb dL_law_313 (lv_at hl 7 rfl) ?_
  refine lv_aload B.hx B.hb dL_law_315 (lv_at hl 8 rfl) ?_
  refine lv_aload B.hx B.hb dL_law_317 (lv_at hl 10 rfl) ?_
  refine lv_aload B.hx B.hb dL_law_319 (lv_at hl 11 rfl) ?_
  refine lv_aload B.hx B.hb dL_law_321 (lv_at hl 16 rfl) ?_
  refine lv_aload B.hx B.hb dL_law_323 (lv_at hl 15 rfl) ?_
  refine wn_callSi (M' := M1) (v := 1) (As := [.ref (X.2.2 0), .int p1, .int u1, .int v1, .ref (X.2.2 142), .ref (X.2.2 143), .ref (X.2.2 144), .ref (X.2.2 145), .ref (X.2.2 147), .ref (X.2.2 148), .ref (X.2.2 153), .ref (X.2.2 152)]) (rest := []) B T N9 hw (c_L_writes l hfl _ X 5000 p1 u1 v1 M (1, M1) e1 _) cs_L_360 rfl hl.1 rfl rfl ⟨(Nat.le_of_ble_eq_true rfl), (Nat.le_of_ble_eq_true rfl)⟩ (Nat.le_of_ble_eq_true rfl) ⟨(by show _ ≤ 663957; omega), (by show _ ≤ 7109899; omega)⟩ dL_law_325 rfl (fun H locs hw => ?_)
  refine lv_istore (lv' := [(21, .int 1), (20, .int v1), (19, .int u1), (17, .int (nI i)), (0, .ref b), (1, .ref (X.2.2 0)), (2, .ref (X.2.2 142)), (3, .ref (X.2.2 143)), (4, .ref (X.2.2 144)), (5, .ref (X.2.2 145)), (6, .ref (X.2.2 146)), (7, .ref (X.2.2 147)), (8, .ref (X.2.2 148)), (9, .ref (X.2.2 149)), (10, .ref (X.2.2 150)), (11, .ref (X.2.2 151)), (12, .ref (X.2.2 152)), (13, .ref (X.2.2 153)), (14, .ref (X.2.2 154)), (15, .ref (X.2.2 155)), (16, .ref (X.2.2 156))]) B.hx B.hb dL_law_328 hl (by decide) rfl (fun ls hl => ?_)
  refine lv_goto (tgt := 571) B.hx B.hb dL_law_330 (by decide) ?_
  refine W.widen (k := cells + 80) (n := slots + 500) (by omega) (by omega) ?_
  exact kk _ _ _ _ _ _ _ e2 e3 e4 e5 e6 hw (lv_sub hl [0, 1, 2, 3, 4, 5, 6, 7, 8, 9, 10, 11, 12, 13, 14, 15, 16, 17, 18, 19, 20] rfl)
set_option maxRecDepth 100000 in
set_option maxHeartbeats 8000000 in
theorem lm_settings (l : Launch) (hfl : l.stackTraces = false) {p : Program} {e : Env} {s : State} {m : MethodId} {b : Nat} {below : List Frame} {meth : Method} {c : Code} {X : XT} {Q : State → Prop} (B : Cx (LW []) X p s m #[Value.ref b] c cL_law RL 22) (T : TX (AX (LW []) X s.heap.size) s) (N9 : NC s) {i t u cells slots : Nat} {M g : Mem} {u1 v1 p1 : Int32} {H : Heap} {locs : List Loc} {ls : Array Slot} (hI : INV M g t u) (ht : t + 2000 < 2 ^ 26) (hu : u ≤ 52) (hc : cells + 80 ≤ 663957) (hs : slots + 500 ≤ 7109899) (hw : HW (LW []) X M s H locs) (hl : lv_has ls 22 [(20, .int v1), (19, .int u1), (17, .int (nI i)), (0, .ref b), (1, .ref (X.2.2 0)), (2, .ref (X.2.2 142)), (3, .ref (X.2.2 143)), (4, .ref (X.2.2 144)), (5, .ref (X.2.2 145)), (6, .ref (X.2.2 146)), (7, .ref (X.2.2 147)), (8, .ref (X.2.2 148)), (9, .ref (X.2.2 149)), (10, .ref (X.2.2 150)), (11, .ref (X.2.2 151)), (12, .ref (X.2.2 152)), (13, .ref (X.2.2 153)), (14, .ref (X.2.2 154)), (15, .ref (X.2.2 155)), (16, .ref (X.2.2 156))]) (kk : ∀ (M' g' : Mem) (t' u' : Nat) (H : Heap) (locs : List Loc) (ls : Array Slot), INV M' g' t' u' → t ≤ t' → t' ≤ t + 1500 → u ≤ u' → u' ≤ u + 8 → HW (LW []) X M' s H locs → lv_has ls 22 [(21, .int 1), (20, .int v1), (19, .int u1), (17, .int (nI i)), (0, .ref b), (1, .ref (X.2.2 0)), (2, .ref (X.2.2 142)), (3, .ref (X.2.2 143)), (4, .ref (X.2.2 144)), (5, .ref (X.2.2 145)), (6, .ref (X.2.2 146)), (7, .ref (X.2.2 147)), (8, .ref (X.2.2 148)), (9, .ref (X.2.2 149)), (10, .ref (X.2.2 150)), (11, .ref (X.2.2 151)), (12, .ref (X.2.2 152)), (13, .ref (X.2.2 153)), (14, .ref (X.2.2 154)), (15, .ref (X.2.2 155)), (16, .ref (X.2.2 156))] → W p l e room_1 s m #[Value.ref b] below meth c H locs (cells + 80) (slots + 500) Q (F0 m 571 ls [])) : W p l e room_1 s m #[Value.ref b] below meth c H locs cells slots Q (F0 m 360 ls [.int p1, .ref (X.2.2 0)]) := by
  obtain ⟨M1, g1, t1, u2, e1, e2, e3, e4, e5, e6⟩ := settings_ok (fu := 5000) (p1 := p1) (p2 := u1) (p3 := v1) (by omega) hI (by omega) (by omega)
  refine lv_iload B.hx B.hb dL_law_360 (lv_at hl 1 rfl) ?_
  refine lv_iload B.hx B.hb dL_law_362 (lv_at hl 0 rfl) ?_
  refine lv_aload B.hx B.hb dL_law_364 (lv_at hl 7 rfl) ?_
  refine lv_aload B.hx B.hb dL_law_366 (lv_at hl 8 rfl) ?_
  refine lv_aload B.hx B.hb dL_law_368 (lv_at hl 10 rfl) ?_
  refine lv_aload B.hx B.hb dL_law_370 (lv_at hl 11 rfl) ?_
  refine lv_aload B.hx B.hb dL_law_372 (lv_at hl 16 rfl) ?_
  refine lv_aload B.hx B.hb dL_law_374 (lv_at hl 15 rfl) ?_
  refine wn_callSi (M' := M1) (v := 1) (As := [.ref (X.2.2 0), .int p1, .int u1, .int v1, .ref (X.2.2 144), .ref (X.2.2 145), .ref (X.2.2 147), .ref (X.2.2 148), .ref (X.2.2 153), .ref (X.2.2 152)]) (rest := []) B T N9 hw (c_L_settings l hfl _ X 5000 p1 u1 v1 M (1, M1) e1 _) cs_L_364 rfl hl.1 rfl rfl ⟨(Nat.le_of_ble_eq_true rfl), (Nat.le_of_ble_eq_true rfl)⟩ (Nat.le_of_ble_eq_true rfl) ⟨(by show _ ≤ 663957; omega), (by show _ ≤ 7109899; omega)⟩ dL_law_376 rfl (fun H locs hw => ?_)
  refine lv_istore (lv' := [(21, .int 1), (20, .int v1), (19, .int u1), (17, .int (nI i)), (0, .ref b), (1, .ref (X.2.2 0)), (2, .ref (X.2.2 142)), (3, .ref (X.2.2 143)), (4, .ref (X.2.2 144)), (5, .ref (X.2.2 145)), (6, .ref (X.2.2 146)), (7, .ref (X.2.2 147)), (8, .ref (X.2.2 148)), (9, .ref (X.2.2 149)), (10, .ref (X.2.2 150)), (11, .ref (X.2.2 151)), (12, .ref (X.2.2 152)), (13, .ref (X.2.2 153)), (14, .ref (X.2.2 154)), (15, .ref (X.2.2 155)), (16, .ref (X.2.2 156))]) B.hx B.hb dL_law_379 hl (by decide) rfl (fun ls hl => ?_)
  refine lv_goto (tgt := 571) B.hx B.hb dL_law_381 (by decide) ?_
  refine W.widen (k := cells + 80) (n := slots + 500) (by omega) (by omega) ?_
  exact kk _ _ _ _ _ _ _ e2 e3 e4 e5 e6 hw (lv_sub hl [0, 1, 2, 3, 4, 5, 6, 7, 8, 9, 10, 11, 12, 13, 14, 15, 16, 17, 18, 19, 20] rfl)
set_option maxRecDepth 100000 in
set_option maxHeartbeats 8000000 in
theorem lm_drafts (l : Launch) (hfl : l.stackTraces = false) {p : Program} {e : Env} {s : State} {m : MethodId} {b : Nat} {below : List Frame} {meth : Method} {c : Code} {X : XT} {Q : State → Prop} (B : Cx (LW []) X p s m #[Value.ref b] c cL_law RL 22) (T : TX (AX (LW []) X s.heap.size) s) (N9 : NC s) {i t u cells slots : Nat} {M g : Mem} {u1 v1 p1 : Int32} {H : Heap} {locs : List Loc} {ls : Array Slot} (hI : INV M g t u) (ht : t + 2000 < 2 ^ 26) (hu : u ≤ 52) (hc : cells + 80 ≤ 663957) (hs : slots + 500 ≤ 7109899) (hw : HW (LW []) X M s H locs) (hl : lv_has ls 22 [(20, .int v1), (19, .int u1), (17, .int (nI i)), (0, .ref b), (1, .ref (X.2.2 0)), (2, .ref (X.2.2 142)), (3, .ref (X.2.2 143)), (4, .ref (X.2.2 144)), (5, .ref (X.2.2 145)), (6, .ref (X.2.2 146)), (7, .ref (X.2.2 147)), (8, .ref (X.2.2 148)), (9, .ref (X.2.2 149)), (10, .ref (X.2.2 150)), (11, .ref (X.2.2 151)), (12, .ref (X.2.2 152)), (13, .ref (X.2.2 153)), (14, .ref (X.2.2 154)), (15, .ref (X.2.2 155)), (16, .ref (X.2.2 156))]) (kk : ∀ (M' g' : Mem) (t' u' : Nat) (H : Heap) (locs : List Loc) (ls : Array Slot), INV M' g' t' u' → t ≤ t' → t' ≤ t + 1500 → u ≤ u' → u' ≤ u + 8 → HW (LW []) X M' s H locs → lv_has ls 22 [(21, .int 1), (20, .int v1), (19, .int u1), (17, .int (nI i)), (0, .ref b), (1, .ref (X.2.2 0)), (2, .ref (X.2.2 142)), (3, .ref (X.2.2 143)), (4, .ref (X.2.2 144)), (5, .ref (X.2.2 145)), (6, .ref (X.2.2 146)), (7, .ref (X.2.2 147)), (8, .ref (X.2.2 148)), (9, .ref (X.2.2 149)), (10, .ref (X.2.2 150)), (11, .ref (X.2.2 151)), (12, .ref (X.2.2 152)), (13, .ref (X.2.2 153)), (14, .ref (X.2.2 154)), (15, .ref (X.2.2 155)), (16, .ref (X.2.2 156))] → W p l e room_1 s m #[Value.ref b] below meth c H locs (cells + 80) (slots + 500) Q (F0 m 571 ls [])) : W p l e room_1 s m #[Value.ref b] below meth c H locs cells slots Q (F0 m 437 ls [.int p1, .ref (X.2.2 0)]) := by
  obtain ⟨M1, g1, t1, u2, e1, e2, e3, e4, e5, e6⟩ := drafts_ok (fu := 5000) (p1 := p1) (p2 := u1) (p3 := v1) (by omega) hI (by omega) (by omega)
  refine lv_iload B.hx B.hb dL_law_437 (lv_at hl 1 rfl) ?_
  refine lv_iload B.hx B.hb dL_law_439 (lv_at hl 0 rfl) ?_
  refine lv_aload B.hx B.hb dL_law_441 (lv_at hl 9 rfl) ?_
  refine wn_callSi (M' := M1) (v := 1) (As := [.ref (X.2.2 0), .int p1, .int u1, .int v1, .ref (X.2.2 146)]) (rest := []) B T N9 hw (c_L_drafts l hfl _ X 5000 p1 u1 v1 M (1, M1) e1 _) cs_L_368 rfl hl.1 rfl rfl ⟨(Nat.le_of_ble_eq_true rfl), (Nat.le_of_ble_eq_true rfl)⟩ (Nat.le_of_ble_eq_true rfl) ⟨(by show _ ≤ 663957; omega), (by show _ ≤ 7109899; omega)⟩ dL_law_443 rfl (fun H locs hw => ?_)
  refine lv_istore (lv' := [(21, .int 1), (20, .int v1), (19, .int u1), (17, .int (nI i)), (0, .ref b), (1, .ref (X.2.2 0)), (2, .ref (X.2.2 142)), (3, .ref (X.2.2 143)), (4, .ref (X.2.2 144)), (5, .ref (X.2.2 145)), (6, .ref (X.2.2 146)), (7, .ref (X.2.2 147)), (8, .ref (X.2.2 148)), (9, .ref (X.2.2 149)), (10, .ref (X.2.2 150)), (11, .ref (X.2.2 151)), (12, .ref (X.2.2 152)), (13, .ref (X.2.2 153)), (14, .ref (X.2.2 154)), (15, .ref (X.2.2 155)), (16, .ref (X.2.2 156))]) B.hx B.hb dL_law_446 hl (by decide) rfl (fun ls hl => ?_)
  refine lv_goto (tgt := 571) B.hx B.hb dL_law_448 (by decide) ?_
  refine W.widen (k := cells + 80) (n := slots + 500) (by omega) (by omega) ?_
  exact kk _ _ _ _ _ _ _ e2 e3 e4 e5 e6 hw (lv_sub hl [0, 1, 2, 3, 4, 5, 6, 7, 8, 9, 10, 11, 12, 13, 14, 15, 16, 17, 18, 19, 20] rfl)
set_option maxRecDepth 100000 in
set_option maxHeartbeats 8000000 in
theorem lm_asks (l : Launch) (hfl : l.stackTraces = false) {p : Program} {e : Env} {s : State} {m : MethodId} {b : Nat} {below : List Frame} {meth : Method} {c : Code} {X : XT} {Q : State → Prop} (B : Cx (LW []) X p s m #[Value.ref b] c cL_law RL 22) (T : TX (AX (LW []) X s.heap.size) s) (N9 : NC s) {i t u cells slots : Nat} {M g : Mem} {u1 v1 : Int32} {H : Heap} {locs : List Loc} {ls : Array Slot} (hI : INV M g t u) (ht : t + 2000 < 2 ^ 26) (hu : u ≤ 52) (hc : cells + 80 ≤ 663957) (hs : slots + 500 ≤ 7109899) (hw : HW (LW []) X M s H locs) (hl : lv_has ls 22 [(20, .int v1), (19, .int u1), (17, .int (nI i)), (0, .ref b), (1, .ref (X.2.2 0)), (2, .ref (X.2.2 142)), (3, .ref (X.2.2 143)), (4, .ref (X.2.2 144)), (5, .ref (X.2.2 145)), (6, .ref (X.2.2 146)), (7, .ref (X.2.2 147)), (8, .ref (X.2.2 148)), (9, .ref (X.2.2 149)), (10, .ref (X.2.2 150)), (11, .ref (X.2.2 151)), (12, .ref (X.2.2 152)), (13, .ref (X.2.2 153)), (14, .ref (X.2.2 154)), (15, .ref (X.2.2 155)), (16, .ref (X.2.2 156))]) (kk : ∀ (M' g' : Mem) (t' u' : Nat) (H : Heap) (locs : List Loc) (ls : Array Slot), INV M' g' t' u' → t ≤ t' → t' ≤ t + 1500 → u ≤ u' → u' ≤ u + 8 → HW (LW []) X M' s H locs → lv_has ls 22 [(21, .int 1), (20, .int v1), (19, .int u1), (17, .int (nI i)), (0, .ref b), (1, .ref (X.2.2 0)), (2, .ref (X.2.2 142)), (3, .ref (X.2.2 143)), (4, .ref (X.2.2 144)), (5, .ref (X.2.2 145)), (6, .ref (X.2.2 146)), (7, .ref (X.2.2 147)), (8, .ref (X.2.2 148)), (9, .ref (X.2.2 149)), (10, .ref (X.2.2 150)), (11, .ref (X.2.2 151)), (12, .ref (X.2.2 152)), (13, .ref (X.2.2 153)), (14, .ref (X.2.2 154)), (15, .ref (X.2.2 155)), (16, .ref (X.2.2 156))] → W p l e room_1 s m #[Value.ref b] below meth c H locs (cells + 80) (slots + 500) Q (F0 m 571 ls [])) : W p l e room_1 s m #[Value.ref b] below meth c H locs cells slots Q (F0 m 458 ls []) := by
  obtain ⟨M1, g1, t1, e1, e2, e3, e4⟩ := asks_ok (fu := 5000) (p1 := u1) (p2 := v1) (by omega) hI (by omega)
  refine lv_aload_n B.hx B.hb dL_law_458 rfl (lv_at hl 4 rfl) ?_
  refine lv_iload B.hx B.hb dL_law_459 (lv_at hl 1 rfl) ?_
  refine lv_iload B.hx B.hb dL_law_461 (lv_at hl 0 rfl) ?_
  refine lv_aload_n B.hx B.hb dL_law_463 rfl (lv_at hl 5 rfl) ?_
  refine lv_aload_n B.hx B.hb dL_law_464 rfl (lv_at hl 6 rfl) ?_
  refine lv_aload B.hx B.hb dL_law_465 (lv_at hl 7 rfl) ?_
  refine lv_aload B.hx B.hb dL_law_467 (lv_at hl 8 rfl) ?_
  refine lv_aload B.hx B.hb dL_law_469 (lv_at hl 9 rfl) ?_
  refine lv_aload B.hx B.hb dL_law_471 (lv_at hl 10 rfl) ?_
  refine lv_aload B.hx B.hb dL_law_473 (lv_at hl 11 rfl) ?_
  refine lv_aload B.hx B.hb dL_law_475 (lv_at hl 16 rfl) ?_
  refine lv_aload B.hx B.hb dL_law_477 (lv_at hl 12 rfl) ?_
  refine lv_aload B.hx B.hb dL_law_479 (lv_at hl 13 rfl) ?_
  refine lv_aload B.hx B.hb dL_law_481 (lv_at hl 14 rfl) ?_
  refine lv_aload B.hx B.hb dL_law_483 (lv_at hl 15 rfl) ?_
  refine lv_aload B.hx B.hb dL_law_485 (lv_at hl 17 rfl) ?_
  refine wn_callSi (M' := M1) (v := 1) (As := [.ref (X.2.2 0), .int u1, .int v1, .ref (X.2.2 142), .ref (X.2.2 143), .ref (X.2.2 144), .ref (X.2.2 145), .ref (X.2.2 146), .ref (X.2.2 147), .ref (X.2.2 148), .ref (X.2.2 153), .ref (X.2.2 149), .ref (X.2.2 150), .ref (X.2.2 151), .ref (X.2.2 152), .ref (X.2.2 154)]) (rest := []) B T N9 hw (c_L_asks l hfl X 5000 u1 v1 M (1, M1) e1 _) cs_L_372 rfl hl.1 rfl rfl ⟨(Nat.le_of_ble_eq_true rfl), (Nat.le_of_ble_eq_true rfl)⟩ (Nat.le_of_ble_eq_true rfl) ⟨(by show _ ≤ 663957; omega), (by show _ ≤ 7109899; omega)⟩ dL_law_487 rfl (fun H locs hw => ?_)
  refine lv_istore (lv' := [(21, .int 1), (20, .int v1), (19, .int u1), (17, .int (nI i)), (0, .ref b), (1, .ref (X.2.2 0)), (2, .ref (X.2.2 142)), (3, .ref (X.2.2 143)), (4, .ref (X.2.2 144)), (5, .ref (X.2.2 145)), (6, .ref (X.2.2 146)), (7, .ref (X.2.2 147)), (8, .ref (X.2.2 148)), (9, .ref (X.2.2 149)), (10, .ref (X.2.2 150)), (11, .ref (X.2.2 151)), (12, .ref (X.2.2 152)), (13, .ref (X.2.2 153)), (14, .ref (X.2.2 154)), (15, .ref (X.2.2 155)), (16, .ref (X.2.2 156))]) B.hx B.hb dL_law_490 hl (by decide) rfl (fun ls hl => ?_)
  refine lv_goto (tgt := 571) B.hx B.hb dL_law_492 (by decide) ?_
  refine W.widen (k := cells + 80) (n := slots + 500) (by omega) (by omega) ?_
  exact kk _ _ _ _ _ _ _ e2 e3 e4 (by omega) (by omega) hw (lv_sub hl [0, 1, 2, 3, 4, 5, 6, 7, 8, 9, 10, 11, 12, 13, 14, 15, 16, 17, 18, 19, 20] rfl)
set_option maxRecDepth 100000 in
set_option maxHeartbeats 8000000 in
theorem lm_steps (l : Launch) (hfl : l.stackTraces = false) {p : Program} {e : Env} {s : State} {m : MethodId} {b : Nat} {below : List Frame} {meth : Method} {c : Code} {X : XT} {Q : State → Prop} (B : Cx (LW []) X p s m #[Value.ref b] c cL_law RL 22) (T : TX (AX (LW []) X s.heap.size) s) (N9 : NC s) {i t u cells slots : Nat} {M g : Mem} {u1 v1 : Int32} {H : Heap} {locs : List Loc} {ls : Array Slot} (hI : INV M g t u) (ht : t + 2000 < 2 ^ 26) (hu : u ≤ 52) (hc : cells + 80 ≤ 663957) (hs : slots + 500 ≤ 7109899) (hw : HW (LW []) X M s H locs) (hl : lv_has ls 22 [(20, .int v1), (19, .int u1), (17, .int (nI i)), (0, .ref b), (1, .ref (X.2.2 0)), (2, .ref (X.2.2 142)), (3, .ref (X.2.2 143)), (4, .ref (X.2.2 144)), (5, .ref (X.2.2 145)), (6, .ref (X.2.2 146)), (7, .ref (X.2.2 147)), (8, .ref (X.2.2 148)), (9, .ref (X.2.2 149)), (10, .ref (X.2.2 150)), (11, .ref (X.2.2 151)), (12, .ref (X.2.2 152)), (13, .ref (X.2.2 153)), (14, .ref (X.2.2 154)), (15, .ref (X.2.2 155)), (16, .ref (X.2.2 156))]) (kk : ∀ (M' g' : Mem) (t' u' : Nat) (H : Heap) (locs : List Loc) (ls : Array Slot), INV M' g' t' u' → t ≤ t' → t' ≤ t + 1500 → u ≤ u' → u' ≤ u + 8 → HW (LW []) X M' s H locs → lv_has ls 22 [(21, .int 1), (20, .int v1), (19, .int u1), (17, .int (nI i)), (0, .ref b), (1, .ref (X.2.2 0)), (2, .ref (X.2.2 142)), (3, .ref (X.2.2 143)), (4, .ref (X.2.2 144)), (5, .ref (X.2.2 145)), (6, .ref (X.2.2 146)), (7, .ref (X.2.2 147)), (8, .ref (X.2.2 148)), (9, .ref (X.2.2 149)), (10, .ref (X.2.2 150)), (11, .ref (X.2.2 151)), (12, .ref (X.2.2 152)), (13, .ref (X.2.2 153)), (14, .ref (X.2.2 154)), (15, .ref (X.2.2 155)), (16, .ref (X.2.2 156))] → W p l e room_1 s m #[Value.ref b] below meth c H locs (cells + 80) (slots + 500) Q (F0 m 571 ls [])) : W p l e room_1 s m #[Value.ref b] below meth c H locs cells slots Q (F0 m 502 ls []) := by
  obtain ⟨M1, g1, t1, u2, e1, e2, e3, e4, e5, e6⟩ := steps_ok (fu := 5000) (p1 := u1) (p2 := v1) hI (by omega) (by omega)
  refine lv_aload_n B.hx B.hb dL_law_502 rfl (lv_at hl 4 rfl) ?_
  refine lv_iload B.hx B.hb dL_law_503 (lv_at hl 1 rfl) ?_
  refine lv_iload B.hx B.hb dL_law_505 (lv_at hl 0 rfl) ?_
  refine lv_aload_n B.hx B.hb dL_law_507 rfl (lv_at hl 6 rfl) ?_
  refine lv_aload_n B.hx B.hb dL_law_508 rfl (lv_at hl 5 rfl) ?_
  refine lv_aload B.hx B.hb dL_law_509 (lv_at hl 18 rfl) ?_
  refine lv_aload B.hx B.hb dL_law_511 (lv_at hl 19 rfl) ?_
  refine wn_callSi (M' := M1) (v := 1) (As := [.ref (X.2.2 0), .int u1, .int v1, .ref (X.2.2 143), .ref (X.2.2 142), .ref (X.2.2 155), .ref (X.2.2 156)]) (rest := []) B T N9 hw (c_L_steps l hfl _ X 5000 u1 v1 M (1, M1) e1 _) cs_L_376 rfl hl.1 rfl rfl ⟨(Nat.le_of_ble_eq_true rfl), (Nat.le_of_ble_eq_true rfl)⟩ (Nat.le_of_ble_eq_true rfl) ⟨(by show _ ≤ 663957; omega), (by show _ ≤ 7109899; omega)⟩ dL_law_513 rfl (fun H locs hw => ?_)
  refine lv_istore (lv' := [(21, .int 1), (20, .int v1), (19, .int u1), (17, .int (nI i)), (0, .ref b), (1, .ref (X.2.2 0)), (2, .ref (X.2.2 142)), (3, .ref (X.2.2 143)), (4, .ref (X.2.2 144)), (5, .ref (X.2.2 145)), (6, .ref (X.2.2 146)), (7, .ref (X.2.2 147)), (8, .ref (X.2.2 148)), (9, .ref (X.2.2 149)), (10, .ref (X.2.2 150)), (11, .ref (X.2.2 151)), (12, .ref (X.2.2 152)), (13, .ref (X.2.2 153)), (14, .ref (X.2.2 154)), (15, .ref (X.2.2 155)), (16, .ref (X.2.2 156))]) B.hx B.hb dL_law_516 hl (by decide) rfl (fun ls hl => ?_)
  refine lv_goto (tgt := 571) B.hx B.hb dL_law_518 (by decide) ?_
  refine W.widen (k := cells + 80) (n := slots + 500) (by omega) (by omega) ?_
  exact kk _ _ _ _ _ _ _ e2 e3 e4 e5 e6 hw (lv_sub hl [0, 1, 2, 3, 4, 5, 6, 7, 8, 9, 10, 11, 12, 13, 14, 15, 16, 17, 18, 19, 20] rfl)
set_option maxRecDepth 100000 in
set_option maxHeartbeats 8000000 in
theorem lm_runs (l : Launch) (hfl : l.stackTraces = false) {p : Program} {e : Env} {s : State} {m : MethodId} {b : Nat} {below : List Frame} {meth : Method} {c : Code} {X : XT} {Q : State → Prop} (B : Cx (LW []) X p s m #[Value.ref b] c cL_law RL 22) (T : TX (AX (LW []) X s.heap.size) s) (N9 : NC s) {i t u cells slots : Nat} {M g : Mem} {u1 v1 : Int32} {H : Heap} {locs : List Loc} {ls : Array Slot} (hI : INV M g t u) (ht : t + 2000 < 2 ^ 26) (hu : u ≤ 52) (hc : cells + 80 ≤ 663957) (hs : slots + 500 ≤ 7109899) (hw : HW (LW []) X M s H locs) (hl : lv_has ls 22 [(20, .int v1), (19, .int u1), (17, .int (nI i)), (0, .ref b), (1, .ref (X.2.2 0)), (2, .ref (X.2.2 142)), (3, .ref (X.2.2 143)), (4, .ref (X.2.2 144)), (5, .ref (X.2.2 145)), (6, .ref (X.2.2 146)), (7, .ref (X.2.2 147)), (8, .ref (X.2.2 148)), (9, .ref (X.2.2 149)), (10, .ref (X.2.2 150)), (11, .ref (X.2.2 151)), (12, .ref (X.2.2 152)), (13, .ref (X.2.2 153)), (14, .ref (X.2.2 154)), (15, .ref (X.2.2 155)), (16, .ref (X.2.2 156))]) (kk : ∀ (M' g' : Mem) (t' u' : Nat) (H : Heap) (locs : List Loc) (ls : Array Slot), INV M' g' t' u' → t ≤ t' → t' ≤ t + 1500 → u ≤ u' → u' ≤ u + 8 → HW (LW []) X M' s H locs → lv_has ls 22 [(21, .int 1), (20, .int v1), (19, .int u1), (17, .int (nI i)), (0, .ref b), (1, .ref (X.2.2 0)), (2, .ref (X.2.2 142)), (3, .ref (X.2.2 143)), (4, .ref (X.2.2 144)), (5, .ref (X.2.2 145)), (6, .ref (X.2.2 146)), (7, .ref (X.2.2 147)), (8, .ref (X.2.2 148)), (9, .ref (X.2.2 149)), (10, .ref (X.2.2 150)), (11, .ref (X.2.2 151)), (12, .ref (X.2.2 152)), (13, .ref (X.2.2 153)), (14, .ref (X.2.2 154)), (15, .ref (X.2.2 155)), (16, .ref (X.2.2 156))] → W p l e room_1 s m #[Value.ref b] below meth c H locs (cells + 80) (slots + 500) Q (F0 m 571 ls [])) : W p l e room_1 s m #[Value.ref b] below meth c H locs cells slots Q (F0 m 521 ls []) := by
  obtain ⟨RR, hR, hW⟩ := hI.wr
  have hroom := roomL (fu := 5000) hR 6 0 5000 (by omega) (by omega)
  have hru : f_L_roomFor 5000 M = f_L_roomFor_L2 5000 M 5000 (nI 0) := rfl
  have go : ∀ r : Int32, f_L_roomFor 5000 M = some r → (¬ r = 0 → ∀ s, s < 6 → (RR s).length ≤ 6) → W p l e room_1 s m #[Value.ref b] below meth c H locs cells slots Q (F0 m 521 ls []) := fun r hr hro => by
    refine lv_aload_n B.hx B.hb dL_law_521 rfl (lv_at hl 6 rfl) ?_
    refine q_callSi (M' := M) (As := [.ref (X.2.2 143)]) (rest := []) B hw (c_L_roomFor l _ X 5000 M r hr _) cs_L_380 rfl hl.1 rfl rfl ⟨(Nat.le_of_ble_eq_true rfl), (Nat.le_of_ble_eq_true rfl)⟩ (Nat.le_of_ble_eq_true rfl) ⟨(by show _ ≤ 663957; omega), (by show _ ≤ 7109899; omega)⟩ dL_law_522 rfl (fun H locs hw => ?_)
    refine lv_if_eq (tgt := 553) B.hx B.hb dL_law_525 (by decide) (fun _ => ?_) (fun c9 => ?_)
    · obtain ⟨M1, g1, e1, e2⟩ := count_k (fu := 5000) (s := 0) hI.sm (by omega) (by omega) (by omega)
      have e1' : f_L_count 5000 0 M = some (g 1 0, M1) := e1
      refine lv_aload_n B.hx B.hb dL_law_553 rfl (lv_at hl 4 rfl) ?_
      refine lv_iconst (v := 0) B.hx B.hb dL_law_554 (by decide) ?_
      refine w_wrap (n := 2) (M' := M1) (v := g 1 0) (As := [.ref (X.2.2 0), .int 0]) (rest := []) B T N9 hw (c_L_count l hfl _ X 5000 0 M (g 1 0, M1) e1' _) km_L_139 kt_L_count ki_L kc_L_count ⟨by decide +kernel, by decide +kernel, by decide +kernel⟩ rfl hl.1 rfl rfl ⟨(Nat.le_of_ble_eq_true rfl), (Nat.le_of_ble_eq_true rfl)⟩ (Nat.le_of_ble_eq_true rfl) ⟨(by show _ ≤ 663957; omega), (by show _ ≤ 7109899; omega)⟩ dL_law_555 rfl (fun H locs hw => ?_)
      refine lv_aload_n B.hx B.hb dL_law_558 rfl (lv_at hl 6 rfl) ?_
      refine lv_iconst (v := 0) B.hx B.hb dL_law_559 (by decide) ?_
      refine w_iald B hw (i := 143) (kw143 _) (by decide) dL_law_560 ?_
      have h0 : g 1 0 = M1 143 (0 : Int32).toNatClampNeg := by
        have q1 := (hR 0 (by omega)).1.1
        have q2 := (hR 0 (by omega)).2.1.1
        rw [show (0 : Int32).toNatClampNeg = 0 from rfl, e2.2.1 143 (by omega), q1, q2]
      refine lv_icmp_ne (tgt := 568) B.hx B.hb dL_law_561 (by decide) (fun c9 => absurd h0 c9) (fun _ => ?_)
      refine lv_iconst (v := 1) B.hx B.hb dL_law_564 (by decide) ?_
      refine lv_goto (tgt := 569) B.hx B.hb dL_law_565 (by decide) ?_
      refine lv_istore (lv' := [(21, .int 1), (20, .int v1), (19, .int u1), (17, .int (nI i)), (0, .ref b), (1, .ref (X.2.2 0)), (2, .ref (X.2.2 142)), (3, .ref (X.2.2 143)), (4, .ref (X.2.2 144)), (5, .ref (X.2.2 145)), (6, .ref (X.2.2 146)), (7, .ref (X.2.2 147)), (8, .ref (X.2.2 148)), (9, .ref (X.2.2 149)), (10, .ref (X.2.2 150)), (11, .ref (X.2.2 151)), (12, .ref (X.2.2 152)), (13, .ref (X.2.2 153)), (14, .ref (X.2.2 154)), (15, .ref (X.2.2 155)), (16, .ref (X.2.2 156))]) B.hx B.hb dL_law_569 hl (by decide) rfl (fun ls hl => ?_)
      refine W.widen (k := cells + 80) (n := slots + 500) (by omega) (by omega) ?_
      exact kk _ _ _ _ _ _ _ (e2.inv hI.1) (by omega) (by omega) (by omega) (by omega) hw (lv_sub hl [0, 1, 2, 3, 4, 5, 6, 7, 8, 9, 10, 11, 12, 13, 14, 15, 16, 17, 18, 19, 20] rfl)
    · obtain ⟨M1, g1, t1, u2, e1, e2, e3, e4, e5, e6⟩ := runs_ok (fu := 5000) (by omega) hI (by omega) (by omega) hR hW (hro c9)
      refine lv_aload_n B.hx B.hb dL_law_528 rfl (lv_at hl 4 rfl) ?_
      refine lv_aload B.hx B.hb dL_law_529 (lv_at hl 18 rfl) ?_
      refine lv_aload B.hx B.hb dL_law_531 (lv_at hl 19 rfl) ?_
      refine lv_aload_n B.hx B.hb dL_law_533 rfl (lv_at hl 5 rfl) ?_
      refine lv_aload_n B.hx B.hb dL_law_534 rfl (lv_at hl 6 rfl) ?_
      refine lv_aload B.hx B.hb dL_law_535 (lv_at hl 7 rfl) ?_
      refine lv_aload B.hx B.hb dL_law_537 (lv_at hl 8 rfl) ?_
      refine lv_aload B.hx B.hb dL_law_539 (lv_at hl 10 rfl) ?_
      refine lv_aload B.hx B.hb dL_law_541 (lv_at hl 11 rfl) ?_
      refine lv_aload B.hx B.hb dL_law_543 (lv_at hl 16 rfl) ?_
      refine lv_aload B.hx B.hb dL_law_545 (lv_at hl 15 rfl) ?_
      refine wn_callSi (M' := M1) (v := 1) (As := [.ref (X.2.2 0), .ref (X.2.2 155), .ref (X.2.2 156), .ref (X.2.2 142), .ref (X.2.2 143), .ref (X.2.2 144), .ref (X.2.2 145), .ref (X.2.2 147), .ref (X.2.2 148), .ref (X.2.2 153), .ref (X.2.2 152)]) (rest := []) B T N9 hw (c_L_runs l hfl X 5000 M (1, M1) e1 _) cs_L_384 rfl hl.1 rfl rfl ⟨(Nat.le_of_ble_eq_true rfl), (Nat.le_of_ble_eq_true rfl)⟩ (Nat.le_of_ble_eq_true rfl) ⟨(by show _ ≤ 663957; omega), (by show _ ≤ 7109899; omega)⟩ dL_law_547 rfl (fun H locs hw => ?_)
      refine lv_goto (tgt := 569) B.hx B.hb dL_law_550 (by decide) ?_
      refine lv_istore (lv' := [(21, .int 1), (20, .int v1), (19, .int u1), (17, .int (nI i)), (0, .ref b), (1, .ref (X.2.2 0)), (2, .ref (X.2.2 142)), (3, .ref (X.2.2 143)), (4, .ref (X.2.2 144)), (5, .ref (X.2.2 145)), (6, .ref (X.2.2 146)), (7, .ref (X.2.2 147)), (8, .ref (X.2.2 148)), (9, .ref (X.2.2 149)), (10, .ref (X.2.2 150)), (11, .ref (X.2.2 151)), (12, .ref (X.2.2 152)), (13, .ref (X.2.2 153)), (14, .ref (X.2.2 154)), (15, .ref (X.2.2 155)), (16, .ref (X.2.2 156))]) B.hx B.hb dL_law_569 hl (by decide) rfl (fun ls hl => ?_)
      refine W.widen (k := cells + 80) (n := slots + 500) (by omega) (by omega) ?_
      exact kk _ _ _ _ _ _ _ e2 e3 e4 e5 e6 hw (lv_sub hl [0, 1, 2, 3, 4, 5, 6, 7, 8, 9, 10, 11, 12, 13, 14, 15, 16, 17, 18, 19, 20] rfl)
  rcases hroom with ⟨z1, z2⟩ | z1
  · exact go 1 (hru.trans z1) (fun _ s hs => z2 s (by omega) hs)
  · exact go 0 (hru.trans z1) (fun c9 => absurd rfl c9)
set_option maxRecDepth 100000 in
set_option maxHeartbeats 8000000 in
theorem lm_disp (l : Launch) (hfl : l.stackTraces = false) {p : Program} {e : Env} {s : State} {m : MethodId} {b : Nat} {below : List Frame} {meth : Method} {c : Code} {X : XT} {Q : State → Prop} (B : Cx (LW []) X p s m #[Value.ref b] c cL_law RL 22) (T : TX (AX (LW []) X s.heap.size) s) (N9 : NC s) {i t u cells slots : Nat} {M g : Mem} {u1 v1 a1 : Int32} {H : Heap} {locs : List Loc} {ls : Array Slot} (hI : INV M g t u) (ht : t + 2000 < 2 ^ 26) (hu : u ≤ 52) (hc : cells + 80 ≤ 663957) (hs : slots + 500 ≤ 7109899) (hw : HW (LW []) X M s H locs) (hl : lv_has ls 22 [(18, .int a1), (20, .int v1), (19, .int u1), (17, .int (nI i)), (0, .ref b), (1, .ref (X.2.2 0)), (2, .ref (X.2.2 142)), (3, .ref (X.2.2 143)), (4, .ref (X.2.2 144)), (5, .ref (X.2.2 145)), (6, .ref (X.2.2 146)), (7, .ref (X.2.2 147)), (8, .ref (X.2.2 148)), (9, .ref (X.2.2 149)), (10, .ref (X.2.2 150)), (11, .ref (X.2.2 151)), (12, .ref (X.2.2 152)), (13, .ref (X.2.2 153)), (14, .ref (X.2.2 154)), (15, .ref (X.2.2 155)), (16, .ref (X.2.2 156))]) (kk : ∀ (M' g' : Mem) (t' u' : Nat) (H : Heap) (locs : List Loc) (ls : Array Slot), INV M' g' t' u' → t ≤ t' → t' ≤ t + 1500 → u ≤ u' → u' ≤ u + 8 → HW (LW []) X M' s H locs → lv_has ls 22 [(21, .int 1), (20, .int v1), (19, .int u1), (17, .int (nI i)), (0, .ref b), (1, .ref (X.2.2 0)), (2, .ref (X.2.2 142)), (3, .ref (X.2.2 143)), (4, .ref (X.2.2 144)), (5, .ref (X.2.2 145)), (6, .ref (X.2.2 146)), (7, .ref (X.2.2 147)), (8, .ref (X.2.2 148)), (9, .ref (X.2.2 149)), (10, .ref (X.2.2 150)), (11, .ref (X.2.2 151)), (12, .ref (X.2.2 152)), (13, .ref (X.2.2 153)), (14, .ref (X.2.2 154)), (15, .ref (X.2.2 155)), (16, .ref (X.2.2 156))] → W p l e room_1 s m #[Value.ref b] below meth c H locs (cells + 80) (slots + 500) Q (F0 m 571 ls [])) : W p l e room_1 s m #[Value.ref b] below meth c H locs cells slots Q (F0 m 275 ls []) := by
  refine lv_iload B.hx B.hb dL_law_275 (lv_at hl 0 rfl) ?_
  refine lv_bipush (v := 12) B.hx B.hb dL_law_277 (by decide) ?_
  refine lv_icmp_ge (tgt := 333) B.hx B.hb dL_law_279 (by decide) (fun _ => ?_) (fun _ => ?_)
  · refine lv_iload B.hx B.hb dL_law_333 (lv_at hl 0 rfl) ?_
    refine lv_bipush (v := 20) B.hx B.hb dL_law_335 (by decide) ?_
    refine lv_icmp_ge (tgt := 384) B.hx B.hb dL_law_337 (by decide) (fun _ => ?_) (fun _ => ?_)
    · refine lv_iload B.hx B.hb dL_law_384 (lv_at hl 0 rfl) ?_
      refine lv_bipush (v := 36) B.hx B.hb dL_law_386 (by decide) ?_
      refine lv_icmp_ge (tgt := 451) B.hx B.hb dL_law_388 (by decide) (fun _ => ?_) (fun _ => ?_)
      · refine lv_iload B.hx B.hb dL_law_451 (lv_at hl 0 rfl) ?_
        refine lv_bipush (v := 54) B.hx B.hb dL_law_453 (by decide) ?_
        refine lv_icmp_ge (tgt := 495) B.hx B.hb dL_law_455 (by decide) (fun _ => ?_) (fun _ => ?_)
        · refine lv_iload B.hx B.hb dL_law_495 (lv_at hl 0 rfl) ?_
          refine lv_bipush (v := 59) B.hx B.hb dL_law_497 (by decide) ?_
          refine lv_icmp_ge (tgt := 521) B.hx B.hb dL_law_499 (by decide) (fun _ => ?_) (fun _ => ?_)
          · exact lm_runs l hfl B T N9 hI ht hu hc hs hw (lv_sub hl [1, 2, 3, 4, 5, 6, 7, 8, 9, 10, 11, 12, 13, 14, 15, 16, 17, 18, 19, 20] rfl) kk
          · exact lm_steps l hfl B T N9 hI ht hu hc hs hw (lv_sub hl [1, 2, 3, 4, 5, 6, 7, 8, 9, 10, 11, 12, 13, 14, 15, 16, 17, 18, 19, 20] rfl) kk
        · exact lm_asks l hfl B T N9 hI ht hu hc hs hw (lv_sub hl [1, 2, 3, 4, 5, 6, 7, 8, 9, 10, 11, 12, 13, 14, 15, 16, 17, 18, 19, 20] rfl) kk
      · refine lv_aload_n B.hx B.hb dL_law_391 rfl (lv_at hl 5 rfl) ?_
        refine lv_iload B.hx B.hb dL_law_392 (lv_at hl 0 rfl) ?_
        refine lv_bipush (v := 20) B.hx B.hb dL_law_394 (by decide) ?_
        refine lv_isub B.hx B.hb dL_law_396 ?_
        refine lv_bipush (v := 13) B.hx B.hb dL_law_397 (by decide) ?_
        refine lv_icmp_ge (tgt := 410) B.hx B.hb dL_law_399 (by decide) (fun _ => ?_) (fun _ => ?_)
        · refine lv_iload B.hx B.hb dL_law_410 (lv_at hl 0 rfl) ?_
          refine lv_bipush (v := 33) B.hx B.hb dL_law_412 (by decide) ?_
          refine lv_isub B.hx B.hb dL_law_414 ?_
          refine lv_if_ne (tgt := 422) B.hx B.hb dL_law_415 (by decide) (fun _ => ?_) (fun _ => ?_)
          · refine lv_iload B.hx B.hb dL_law_422 (lv_at hl 0 rfl) ?_
            refine lv_bipush (v := 33) B.hx B.hb dL_law_424 (by decide) ?_
            refine lv_isub B.hx B.hb dL_law_426 ?_
            refine lv_iconst (v := 1) B.hx B.hb dL_law_427 (by decide) ?_
            refine lv_icmp_ne (tgt := 435) B.hx B.hb dL_law_428 (by decide) (fun _ => ?_) (fun _ => ?_)
            · refine lv_bipush (v := 9) B.hx B.hb dL_law_435 (by decide) ?_
              exact lm_drafts l hfl B T N9 hI ht hu hc hs hw (lv_sub hl [1, 2, 3, 4, 5, 6, 7, 8, 9, 10, 11, 12, 13, 14, 15, 16, 17, 18, 19, 20] rfl) kk
            · refine lv_iconst (v := 3) B.hx B.hb dL_law_431 (by decide) ?_
              refine lv_goto (tgt := 437) B.hx B.hb dL_law_432 (by decide) ?_
              exact lm_drafts l hfl B T N9 hI ht hu hc hs hw (lv_sub hl [1, 2, 3, 4, 5, 6, 7, 8, 9, 10, 11, 12, 13, 14, 15, 16, 17, 18, 19, 20] rfl) kk
          · refine lv_iconst (v := 1) B.hx B.hb dL_law_418 (by decide) ?_
            refine lv_goto (tgt := 437) B.hx B.hb dL_law_419 (by decide) ?_
            exact lm_drafts l hfl B T N9 hI ht hu hc hs hw (lv_sub hl [1, 2, 3, 4, 5, 6, 7, 8, 9, 10, 11, 12, 13, 14, 15, 16, 17, 18, 19, 20] rfl) kk
        · refine lv_iload B.hx B.hb dL_law_402 (lv_at hl 0 rfl) ?_
          refine lv_bipush (v := 20) B.hx B.hb dL_law_404 (by decide) ?_
          refine lv_isub B.hx B.hb dL_law_406 ?_
          refine lv_goto (tgt := 437) B.hx B.hb dL_law_407 (by decide) ?_
          exact lm_drafts l hfl B T N9 hI ht hu hc hs hw (lv_sub hl [1, 2, 3, 4, 5, 6, 7, 8, 9, 10, 11, 12, 13, 14, 15, 16, 17, 18, 19, 20] rfl) kk
    · refine lv_aload_n B.hx B.hb dL_law_340 rfl (lv_at hl 5 rfl) ?_
      refine lv_iload B.hx B.hb dL_law_341 (lv_at hl 0 rfl) ?_
      refine lv_bipush (v := 12) B.hx B.hb dL_law_343 (by decide) ?_
      refine lv_isub B.hx B.hb dL_law_345 ?_
      refine lv_bipush (v := 6) B.hx B.hb dL_law_346 (by decide) ?_
      refine lv_icmp_ge (tgt := 359) B.hx B.hb dL_law_348 (by decide) (fun _ => ?_) (fun _ => ?_)
      · refine lv_iconst (v := 5) B.hx B.hb dL_law_359 (by decide) ?_
        exact lm_settings l hfl B T N9 hI ht hu hc hs hw (lv_sub hl [1, 2, 3, 4, 5, 6, 7, 8, 9, 10, 11, 12, 13, 14, 15, 16, 17, 18, 19, 20] rfl) kk
      · refine lv_iload B.hx B.hb dL_law_351 (lv_at hl 0 rfl) ?_
        refine lv_bipush (v := 12) B.hx B.hb dL_law_353 (by decide) ?_
        refine lv_isub B.hx B.hb dL_law_355 ?_
        refine lv_goto (tgt := 360) B.hx B.hb dL_law_356 (by decide) ?_
        exact lm_settings l hfl B T N9 hI ht hu hc hs hw (lv_sub hl [1, 2, 3, 4, 5, 6, 7, 8, 9, 10, 11, 12, 13, 14, 15, 16, 17, 18, 19, 20] rfl) kk
  · refine lv_aload_n B.hx B.hb dL_law_282 rfl (lv_at hl 5 rfl) ?_
    refine lv_iload B.hx B.hb dL_law_283 (lv_at hl 0 rfl) ?_
    refine lv_bipush (v := 8) B.hx B.hb dL_law_285 (by decide) ?_
    refine lv_icmp_ge (tgt := 294) B.hx B.hb dL_law_287 (by decide) (fun _ => ?_) (fun _ => ?_)
    · refine lv_iload B.hx B.hb dL_law_294 (lv_at hl 0 rfl) ?_
      refine lv_bipush (v := 11) B.hx B.hb dL_law_296 (by decide) ?_
      refine lv_icmp_ge (tgt := 305) B.hx B.hb dL_law_298 (by decide) (fun _ => ?_) (fun _ => ?_)
      · refine lv_bipush (v := 8) B.hx B.hb dL_law_305 (by decide) ?_
        exact lm_writes l hfl B T N9 hI ht hu hc hs hw (lv_sub hl [1, 2, 3, 4, 5, 6, 7, 8, 9, 10, 11, 12, 13, 14, 15, 16, 17, 18, 19, 20] rfl) kk
      · refine lv_iconst (v := 5) B.hx B.hb dL_law_301 (by decide) ?_
        refine lv_goto (tgt := 307) B.hx B.hb dL_law_302 (by decide) ?_
        exact lm_writes l hfl B T N9 hI ht hu hc hs hw (lv_sub hl [1, 2, 3, 4, 5, 6, 7, 8, 9, 10, 11, 12, 13, 14, 15, 16, 17, 18, 19, 20] rfl) kk
    · refine lv_iconst (v := 0) B.hx B.hb dL_law_290 (by decide) ?_
      refine lv_goto (tgt := 307) B.hx B.hb dL_law_291 (by decide) ?_
      exact lm_writes l hfl B T N9 hI ht hu hc hs hw (lv_sub hl [1, 2, 3, 4, 5, 6, 7, 8, 9, 10, 11, 12, 13, 14, 15, 16, 17, 18, 19, 20] rfl) kk
set_option maxRecDepth 100000 in
set_option maxHeartbeats 8000000 in
theorem lm_head (l : Launch) (hfl : l.stackTraces = false) {p : Program} {e : Env} {s : State} {m : MethodId} {b : Nat} {below : List Frame} {meth : Method} {c : Code} {X : XT} {Q : State → Prop} (B : Cx (LW []) X p s m #[Value.ref b] c cL_law RL 22) (T : TX (AX (LW []) X s.heap.size) s) (N9 : NC s) {i cells slots : Nat} {M : Mem} {H : Heap} {locs : List Loc} {ls : Array Slot} {L : Nat} {xs : Nat → Int32} (hX : va_X b L xs s s.heap) (hbl : b < s.heap.size) (hbA : ¬ AX (LW []) X s.heap.size b) (hL : L ≤ 260) (hi : i < 150) (hc : cells ≤ 663957) (hs : slots ≤ 7109899) (hw : HW (LW []) X M s H locs) (hl : lv_has ls 22 [(17, .int (nI i)), (0, .ref b), (1, .ref (X.2.2 0)), (2, .ref (X.2.2 142)), (3, .ref (X.2.2 143)), (4, .ref (X.2.2 144)), (5, .ref (X.2.2 145)), (6, .ref (X.2.2 146)), (7, .ref (X.2.2 147)), (8, .ref (X.2.2 148)), (9, .ref (X.2.2 149)), (10, .ref (X.2.2 150)), (11, .ref (X.2.2 151)), (12, .ref (X.2.2 152)), (13, .ref (X.2.2 153)), (14, .ref (X.2.2 154)), (15, .ref (X.2.2 155)), (16, .ref (X.2.2 156))]) (kk : ∀ (a1 u1 v1 : Int32) (H : Heap) (locs : List Loc) (ls : Array Slot), HW (LW []) X M s H locs → lv_has ls 22 [(18, .int a1), (20, .int v1), (19, .int u1), (17, .int (nI i)), (0, .ref b), (1, .ref (X.2.2 0)), (2, .ref (X.2.2 142)), (3, .ref (X.2.2 143)), (4, .ref (X.2.2 144)), (5, .ref (X.2.2 145)), (6, .ref (X.2.2 146)), (7, .ref (X.2.2 147)), (8, .ref (X.2.2 148)), (9, .ref (X.2.2 149)), (10, .ref (X.2.2 150)), (11, .ref (X.2.2 151)), (12, .ref (X.2.2 152)), (13, .ref (X.2.2 153)), (14, .ref (X.2.2 154)), (15, .ref (X.2.2 155)), (16, .ref (X.2.2 156))] → W p l e room_1 s m #[Value.ref b] below meth c H locs cells slots Q (F0 m 264 ls [])) : W p l e room_1 s m #[Value.ref b] below meth c H locs cells slots Q (F0 m 203 ls []) := by
  have e3i : (3 : Int32) * nI i = nI (3 * i) := by rw [show (3 : Int32) = nI 3 from rfl, pk_mul]
  have e3j : nI (3 * i) + 1 = nI (3 * i + 1) := nI_add _ 1
  have e3k : nI (3 * i) + 2 = nI (3 * i + 2) := nI_add _ 2
  refine lv_aload_n B.hx B.hb dL_law_203 rfl (lv_at hl 1 rfl) ?_
  refine lv_iconst (v := 3) B.hx B.hb dL_law_204 (by decide) ?_
  refine lv_iload B.hx B.hb dL_law_205 (lv_at hl 0 rfl) ?_
  refine lv_imul B.hx B.hb dL_law_207 ?_
  rw [e3i]
  refine q_callN (k := 3 * i) (rest := []) B hw hX hbl hbA hL (by omega) cs_L_356 hl.1 ⟨(Nat.le_of_ble_eq_true rfl), (Nat.le_of_ble_eq_true rfl)⟩ (Nat.le_of_ble_eq_true rfl) ⟨(by show _ ≤ 663957; omega), (by show _ ≤ 7109899; omega)⟩ dL_law_208 rfl (fun w1 H locs hw => ?_)
  refine lv_bipush (v := 62) B.hx B.hb dL_law_211 (by decide) ?_
  obtain ⟨q, hq, hq2⟩ := low_eq (fu := 5000) (v := w1) (n := 62) (M := M) (by omega) (by omega)
  have hq3 : f_L_low 5000 w1 62 M = some (nI q) := hq2
  refine q_callSi (M' := M) (As := [.int w1, .int 62]) (rest := []) B hw (c_L_low l _ X 5000 w1 62 M (nI q) hq3 _) cs_L_130 rfl hl.1 rfl rfl ⟨(Nat.le_of_ble_eq_true rfl), (Nat.le_of_ble_eq_true rfl)⟩ (Nat.le_of_ble_eq_true rfl) ⟨(by show _ ≤ 663957; omega), (by show _ ≤ 7109899; omega)⟩ dL_law_213 rfl (fun H locs hw => ?_)
  refine lv_istore (lv' := [(18, .int (nI q)), (17, .int (nI i)), (0, .ref b), (1, .ref (X.2.2 0)), (2, .ref (X.2.2 142)), (3, .ref (X.2.2 143)), (4, .ref (X.2.2 144)), (5, .ref (X.2.2 145)), (6, .ref (X.2.2 146)), (7, .ref (X.2.2 147)), (8, .ref (X.2.2 148)), (9, .ref (X.2.2 149)), (10, .ref (X.2.2 150)), (11, .ref (X.2.2 151)), (12, .ref (X.2.2 152)), (13, .ref (X.2.2 153)), (14, .ref (X.2.2 154)), (15, .ref (X.2.2 155)), (16, .ref (X.2.2 156))]) B.hx B.hb dL_law_216 hl (by decide) rfl (fun ls hl => ?_)
  refine lv_aload_n B.hx B.hb dL_law_218 rfl (lv_at hl 2 rfl) ?_
  refine lv_iconst (v := 3) B.hx B.hb dL_law_219 (by decide) ?_
  refine lv_iload B.hx B.hb dL_law_220 (lv_at hl 1 rfl) ?_
  refine lv_imul B.hx B.hb dL_law_222 ?_
  refine lv_iconst (v := 1) B.hx B.hb dL_law_223 (by decide) ?_
  refine lv_iadd B.hx B.hb dL_law_224 ?_
  rw [e3i, e3j]
  refine q_callN (k := 3 * i + 1) (rest := []) B hw hX hbl hbA hL (by omega) cs_L_356 hl.1 ⟨(Nat.le_of_ble_eq_true rfl), (Nat.le_of_ble_eq_true rfl)⟩ (Nat.le_of_ble_eq_true rfl) ⟨(by show _ ≤ 663957; omega), (by show _ ≤ 7109899; omega)⟩ dL_law_225 rfl (fun u1 H locs hw => ?_)
  refine lv_istore (lv' := [(19, .int u1), (18, .int (nI q)), (17, .int (nI i)), (0, .ref b), (1, .ref (X.2.2 0)), (2, .ref (X.2.2 142)), (3, .ref (X.2.2 143)), (4, .ref (X.2.2 144)), (5, .ref (X.2.2 145)), (6, .ref (X.2.2 146)), (7, .ref (X.2.2 147)), (8, .ref (X.2.2 148)), (9, .ref (X.2.2 149)), (10, .ref (X.2.2 150)), (11, .ref (X.2.2 151)), (12, .ref (X.2.2 152)), (13, .ref (X.2.2 153)), (14, .ref (X.2.2 154)), (15, .ref (X.2.2 155)), (16, .ref (X.2.2 156))]) B.hx B.hb dL_law_228 hl (by decide) rfl (fun ls hl => ?_)
  refine lv_aload_n B.hx B.hb dL_law_230 rfl (lv_at hl 3 rfl) ?_
  refine lv_iconst (v := 3) B.hx B.hb dL_law_231 (by decide) ?_
  refine lv_iload B.hx B.hb dL_law_232 (lv_at hl 2 rfl) ?_
  refine lv_imul B.hx B.hb dL_law_234 ?_
  refine lv_iconst (v := 2) B.hx B.hb dL_law_235 (by decide) ?_
  refine lv_iadd B.hx B.hb dL_law_236 ?_
  rw [e3i, e3k]
  refine q_callN (k := 3 * i + 2) (rest := []) B hw hX hbl hbA hL (by omega) cs_L_356 hl.1 ⟨(Nat.le_of_ble_eq_true rfl), (Nat.le_of_ble_eq_true rfl)⟩ (Nat.le_of_ble_eq_true rfl) ⟨(by show _ ≤ 663957; omega), (by show _ ≤ 7109899; omega)⟩ dL_law_237 rfl (fun v1 H locs hw => ?_)
  refine lv_istore (lv' := [(20, .int v1), (19, .int u1), (18, .int (nI q)), (17, .int (nI i)), (0, .ref b), (1, .ref (X.2.2 0)), (2, .ref (X.2.2 142)), (3, .ref (X.2.2 143)), (4, .ref (X.2.2 144)), (5, .ref (X.2.2 145)), (6, .ref (X.2.2 146)), (7, .ref (X.2.2 147)), (8, .ref (X.2.2 148)), (9, .ref (X.2.2 149)), (10, .ref (X.2.2 150)), (11, .ref (X.2.2 151)), (12, .ref (X.2.2 152)), (13, .ref (X.2.2 153)), (14, .ref (X.2.2 154)), (15, .ref (X.2.2 155)), (16, .ref (X.2.2 156))]) B.hx B.hb dL_law_240 hl (by decide) rfl (fun ls hl => ?_)
  refine lv_iload B.hx B.hb dL_law_242 (lv_at hl 3 rfl) ?_
  refine lv_bipush (v := 24) B.hx B.hb dL_law_244 (by decide) ?_
  refine lv_icmp_ge (tgt := 264) B.hx B.hb dL_law_246 (by decide) (fun _ => ?_) (fun _ => ?_)
  · exact kk _ _ _ _ _ _ hw (lv_sub hl [2, 0, 1, 3, 4, 5, 6, 7, 8, 9, 10, 11, 12, 13, 14, 15, 16, 17, 18, 19, 20] rfl)
  · refine lv_iload B.hx B.hb dL_law_249 (lv_at hl 3 rfl) ?_
    refine lv_iconst (v := 2) B.hx B.hb dL_law_251 (by decide) ?_
    refine lv_irem B.hx B.hb dL_law_252 (by decide) ?_
    refine lv_if_ne (tgt := 260) B.hx B.hb dL_law_253 (by decide) (fun _ => ?_) (fun _ => ?_)
    · refine lv_iload B.hx B.hb dL_law_260 (lv_at hl 2 rfl) ?_
      refine lv_istore (lv' := [(18, .int (nI q)), (20, .int v1), (19, .int u1), (17, .int (nI i)), (0, .ref b), (1, .ref (X.2.2 0)), (2, .ref (X.2.2 142)), (3, .ref (X.2.2 143)), (4, .ref (X.2.2 144)), (5, .ref (X.2.2 145)), (6, .ref (X.2.2 146)), (7, .ref (X.2.2 147)), (8, .ref (X.2.2 148)), (9, .ref (X.2.2 149)), (10, .ref (X.2.2 150)), (11, .ref (X.2.2 151)), (12, .ref (X.2.2 152)), (13, .ref (X.2.2 153)), (14, .ref (X.2.2 154)), (15, .ref (X.2.2 155)), (16, .ref (X.2.2 156))]) B.hx B.hb dL_law_262 hl (by decide) rfl (fun ls hl => ?_)
      exact kk _ _ _ _ _ _ hw (lv_sub hl [0, 1, 2, 3, 4, 5, 6, 7, 8, 9, 10, 11, 12, 13, 14, 15, 16, 17, 18, 19, 20] rfl)
    · refine lv_iconst (v := 0) B.hx B.hb dL_law_256 (by decide) ?_
      refine lv_goto (tgt := 262) B.hx B.hb dL_law_257 (by decide) ?_
      refine lv_istore (lv' := [(18, .int 0), (20, .int v1), (19, .int u1), (17, .int (nI i)), (0, .ref b), (1, .ref (X.2.2 0)), (2, .ref (X.2.2 142)), (3, .ref (X.2.2 143)), (4, .ref (X.2.2 144)), (5, .ref (X.2.2 145)), (6, .ref (X.2.2 146)), (7, .ref (X.2.2 147)), (8, .ref (X.2.2 148)), (9, .ref (X.2.2 149)), (10, .ref (X.2.2 150)), (11, .ref (X.2.2 151)), (12, .ref (X.2.2 152)), (13, .ref (X.2.2 153)), (14, .ref (X.2.2 154)), (15, .ref (X.2.2 155)), (16, .ref (X.2.2 156))]) B.hx B.hb dL_law_262 hl (by decide) rfl (fun ls hl => ?_)
      exact kk _ _ _ _ _ _ hw (lv_sub hl [0, 1, 2, 3, 4, 5, 6, 7, 8, 9, 10, 11, 12, 13, 14, 15, 16, 17, 18, 19, 20] rfl)
theorem lm_ret (l : Launch) {p : Program} {e : Env} {s : State} {m : MethodId} {b : Nat} {below : List Frame} {meth : Method} {c : Code} {X : XT} (B : Cx (LW []) X p s m #[Value.ref b] c cL_law RL 22) (hr : meth.sig.returnType = ret) (hlk : meth.locks = false) (hz : ∀ q, AX (LW []) X s.heap.size q → s.heap.size ≤ q) {cells slots pc : Nat} {M : Mem} {H : Heap} {locs : List Loc} {ls : Array Slot} (hc : cells ≤ 663957) (hs : slots ≤ 7109899) (hw : HW (LW []) X M s H locs) (hdg : decode cL_law pc = .ok (.ireturn, 1)) : W p l e room_1 s m #[Value.ref b] below meth c H locs cells slots (lw_Z below #[Value.ref b] s) (F0 m pc ls [.int 1]) := by
  refine va_forget (fun q hq => hz _ (hw.2.2.2 q hq)) ?_
  refine W.widen (k := 663957) (n := 7109899) hc hs ?_
  exact lw_ret B.hx B.hb hr hlk hdg
set_option maxRecDepth 100000 in
set_option maxHeartbeats 8000000 in
theorem lm_loop (l : Launch) (hfl : l.stackTraces = false) {p : Program} {e : Env} {s : State} {m : MethodId} {b : Nat} {below : List Frame} {meth : Method} {c : Code} {X : XT} (B : Cx (LW []) X p s m #[Value.ref b] c cL_law RL 22) (T : TX (AX (LW []) X s.heap.size) s) (N9 : NC s) (hr : meth.sig.returnType = ret) (hlk : meth.locks = false) (hz : ∀ q, AX (LW []) X s.heap.size q → s.heap.size ≤ q) {L : Nat} {xs : Nat → Int32} (hX : va_X b L xs s s.heap) (hbl : b < s.heap.size) (hbA : ¬ AX (LW []) X s.heap.size b) (hL : L ≤ 260) : ∀ (r i : Nat), i + r = 150 → ∀ (M g : Mem) (t u : Nat) (H : Heap) (locs : List Loc) (ls : Array Slot), INV M g t u → t ≤ 1500 * i → HW (LW []) X M s H locs → lv_has ls 22 [(17, .int (nI i)), (0, .ref b), (1, .ref (X.2.2 0)), (2, .ref (X.2.2 142)), (3, .ref (X.2.2 143)), (4, .ref (X.2.2 144)), (5, .ref (X.2.2 145)), (6, .ref (X.2.2 146)), (7, .ref (X.2.2 147)), (8, .ref (X.2.2 148)), (9, .ref (X.2.2 149)), (10, .ref (X.2.2 150)), (11, .ref (X.2.2 151)), (12, .ref (X.2.2 152)), (13, .ref (X.2.2 153)), (14, .ref (X.2.2 154)), (15, .ref (X.2.2 155)), (16, .ref (X.2.2 156))] → W p l e room_1 s m #[Value.ref b] below meth c H locs (200 + 2000 * i) (4000 + 12000 * i) (lw_Z below #[Value.ref b] s) (F0 m 195 ls []) := by
  intro r
  induction r with
  | zero =>
    intro i h1 M g t u H locs ls hI ht hw hl
    have hi : i = 150 := by omega
    subst hi
    refine lv_iload B.hx B.hb dL_law_195 (lv_at hl 0 rfl) ?_
    refine lv_sipush (v := 150) B.hx B.hb dL_law_197 (by decide) ?_
    refine lv_icmp_ge (tgt := 623) B.hx B.hb dL_law_200 (by decide) (fun _ => ?_) (fun c9 => absurd (by decide) c9)
    refine lv_iconst (v := 1) B.hx B.hb dL_law_623 (by decide) ?_
    exact lm_ret l B hr hlk hz (by omega) (by omega) hw dL_law_624
  | succ r ih =>
    intro i h1 M g t u H locs ls hI ht hw hl
    refine lv_iload B.hx B.hb dL_law_195 (lv_at hl 0 rfl) ?_
    refine lv_sipush (v := 150) B.hx B.hb dL_law_197 (by decide) ?_
    have hi : i < 150 := by omega
    refine lv_icmp_ge (tgt := 623) B.hx B.hb dL_law_200 (by decide) (fun c9 => ?_) (fun _ => ?_)
    · rw [show (150 : Int32) = nI 150 from rfl, nI_leI (by omega) (by omega)] at c9
      omega
    refine lm_head l hfl B T N9 hX hbl hbA hL hi (by omega) (by omega) hw hl (fun a1 u1 v1 H locs ls hw hl => ?_)
    refine lv_aload B.hx B.hb dL_law_264 (lv_at hl 16 rfl) ?_
    refine lv_iconst (v := 0) B.hx B.hb dL_law_266 (by decide) ?_
    refine w_iald B hw (i := 152) (kw152 _) (by decide) dL_law_267 ?_
    refine lv_bipush (v := 52) B.hx B.hb dL_law_268 (by decide) ?_
    have hgt := hI.1.pl.2.2.1.tl.gt
    have e0 : M 152 (0 : Int32).toNatClampNeg = nI u := hgt.1
    refine lv_icmp_le (tgt := 275) B.hx B.hb dL_law_270 (by decide) (fun c9 => ?_) (fun _ => ?_)
    · have hu : u ≤ 52 := by
        rw [e0, show (52 : Int32) = nI 52 from rfl, nI_leI (by omega) (by omega)] at c9
        exact c9
      refine lm_disp l hfl B T N9 hI (by omega) hu (by omega) (by omega) hw hl (fun M1 g1 t1 u2 H locs ls hI1 b1 b2 b3 b4 hw hl => ?_)
      refine lm_end l hfl B T N9 hI1 (by omega) (by omega) (by omega) hw hl (fun M2 g2 H locs ls hI2 hw hl => ?_)
      refine lv_iinc (v := nI (i + 1)) (lv' := [(17, .int (nI (i + 1))), (0, .ref b), (1, .ref (X.2.2 0)), (2, .ref (X.2.2 142)), (3, .ref (X.2.2 143)), (4, .ref (X.2.2 144)), (5, .ref (X.2.2 145)), (6, .ref (X.2.2 146)), (7, .ref (X.2.2 147)), (8, .ref (X.2.2 148)), (9, .ref (X.2.2 149)), (10, .ref (X.2.2 150)), (11, .ref (X.2.2 151)), (12, .ref (X.2.2 152)), (13, .ref (X.2.2 153)), (14, .ref (X.2.2 154)), (15, .ref (X.2.2 155)), (16, .ref (X.2.2 156))]) B.hx B.hb dL_law_617 hl (k := 0) rfl (nI_add i 1) (by decide) rfl (fun ls hl => ?_)
      refine lv_goto (tgt := 195) B.hx B.hb dL_law_620 (by decide) ?_
      refine W.widen (k := 200 + 2000 * (i + 1)) (n := 4000 + 12000 * (i + 1)) (by omega) (by omega) ?_
      exact ih (i + 1) (by omega) M2 g2 t1 u2 H locs ls hI2 (by omega) hw hl
    · refine lv_iconst (v := 1) B.hx B.hb dL_law_273 (by decide) ?_
      exact lm_ret l B hr hlk hz (by omega) (by omega) hw dL_law_274
