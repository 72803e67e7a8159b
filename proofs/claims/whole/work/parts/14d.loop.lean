/-! ===== the law's loop ===== -/
theorem l_cnd {L i : Nat} (hL : L ≤ 3584) (hi : 7 * i ≤ 3584) : nI L - 7 < nI (7 * i) ↔ L < 7 * i + 7 := by
  have e : (nI L - 7).toInt = (L : Int) - 7 := pk_sub_toInt (a := L) (b := 7) (by omega) (by omega)
  rw [Int32.lt_iff_toInt_lt, e, nI_toInt (by omega)]
  omega
theorem l_nxt (i : Nat) : nI (7 * i) + Int32.ofInt 7 = nI (7 * (i + 1)) := by
  have e : (Int32.ofInt 7 : Int32) = nI 7 := by decide
  rw [e, nI_add]
  rfl
set_option maxRecDepth 100000 in
set_option maxHeartbeats 4000000 in
theorem lw_go (l : Launch) (hfl : l.stackTraces = false) {p : Program} {e : Env} {s : State} {m : MethodId} {below : List Frame} {meth : Method} {c : Code} {X : XT} {b2 : Nat → Nat} {o b L i : Nat} {xs : Nat → Int32} {Q : State → Prop} (B : CL X b2 o p s m #[Value.ref b] c) (hX : va_X b L xs s s.heap) (hbl : b < s.heap.size) (hL : L ≤ 3584) (hi : 7 * i + 7 ≤ L)
    (hK : KO p l e s m b below meth c X b2 o i (209 + 4 * i) (3753 + 24 * i) Q) {M m0 : Mem} {f : Nat → Int64} {H : Heap} {locs : List Loc} {ls : Array Slot} (hR : RB i M m0) (hw : HL X b2 o M m0 f s H locs) (hl : lv_has ls 7 [(0, .ref b), (1, .ref (X.2.2 0)), (2, .ref (b2 0)), (3, .ref o), (4, .int (nI (7 * i)))]) :
    W p l e room_1 s m #[Value.ref b] below meth c H locs (209 + 4 * i) (3753 + 24 * i) Q (F0 m 40 ls [.int (xs (7 * i) &&& 63)]) := by
    by_cases h0 : (xs (7 * i) &&& 63) = 0
    · exact lv_tableIn (tgt := 196) B.hx B.hb dL_law_40 (by rw [h0]; decide) (by rw [h0]; decide) (by rw [h0]; rfl) (by decide) (lw_k0 l hfl B hX hbl hL hi hR hw hl ⟨by omega, by omega⟩ hK)
    by_cases h1 : (xs (7 * i) &&& 63) = 1
    · exact lv_tableIn (tgt := 300) B.hx B.hb dL_law_40 (by rw [h1]; decide) (by rw [h1]; decide) (by rw [h1]; rfl) (by decide) (lw_k1 l hfl B hX hbl hL hi hR hw hl ⟨by omega, by omega⟩ hK)
    by_cases h2 : (xs (7 * i) &&& 63) = 2
    · exact lv_tableIn (tgt := 392) B.hx B.hb dL_law_40 (by rw [h2]; decide) (by rw [h2]; decide) (by rw [h2]; rfl) (by decide) (lw_k2 l hfl B hX hbl hL hi hR hw hl ⟨by omega, by omega⟩ hK)
    by_cases h3 : (xs (7 * i) &&& 63) = 3
    · exact lv_tableIn (tgt := 460) B.hx B.hb dL_law_40 (by rw [h3]; decide) (by rw [h3]; decide) (by rw [h3]; rfl) (by decide) (lw_k3 l hfl B hX hbl hL hi hR hw hl ⟨by omega, by omega⟩ hK)
    by_cases h4 : (xs (7 * i) &&& 63) = 4
    · exact lv_tableIn (tgt := 516) B.hx B.hb dL_law_40 (by rw [h4]; decide) (by rw [h4]; decide) (by rw [h4]; rfl) (by decide) (lw_k4 l hfl B hX hbl hL hi hR hw hl ⟨by omega, by omega⟩ hK)
    by_cases h5 : (xs (7 * i) &&& 63) = 5
    · exact lv_tableIn (tgt := 596) B.hx B.hb dL_law_40 (by rw [h5]; decide) (by rw [h5]; decide) (by rw [h5]; rfl) (by decide) (lw_k5 l hfl B hX hbl hL hi hR hw hl ⟨by omega, by omega⟩ hK)
    by_cases h6 : (xs (7 * i) &&& 63) = 6
    · exact lv_tableIn (tgt := 609) B.hx B.hb dL_law_40 (by rw [h6]; decide) (by rw [h6]; decide) (by rw [h6]; rfl) (by decide) (lw_k6 l hfl B hX hbl hL hi hR hw hl ⟨by omega, by omega⟩ hK)
    by_cases h7 : (xs (7 * i) &&& 63) = 7
    · exact lv_tableIn (tgt := 622) B.hx B.hb dL_law_40 (by rw [h7]; decide) (by rw [h7]; decide) (by rw [h7]; rfl) (by decide) (lw_k7 l hfl B hX hbl hL hi hR hw hl ⟨by omega, by omega⟩ hK)
    by_cases h8 : (xs (7 * i) &&& 63) = 8
    · exact lv_tableIn (tgt := 702) B.hx B.hb dL_law_40 (by rw [h8]; decide) (by rw [h8]; decide) (by rw [h8]; rfl) (by decide) (lw_k8 l hfl B hX hbl hL hi hR hw hl ⟨by omega, by omega⟩ hK)
    by_cases h9 : (xs (7 * i) &&& 63) = 9
    · exact lv_tableIn (tgt := 782) B.hx B.hb dL_law_40 (by rw [h9]; decide) (by rw [h9]; decide) (by rw [h9]; rfl) (by decide) (lw_k9 l hfl B hX hbl hL hi hR hw hl ⟨by omega, by omega⟩ hK)
    by_cases h10 : (xs (7 * i) &&& 63) = 10
    · exact lv_tableIn (tgt := 850) B.hx B.hb dL_law_40 (by rw [h10]; decide) (by rw [h10]; decide) (by rw [h10]; rfl) (by decide) (lw_k10 l hfl B hX hbl hL hi hR hw hl ⟨by omega, by omega⟩ hK)
    by_cases h11 : (xs (7 * i) &&& 63) = 11
    · exact lv_tableIn (tgt := 946) B.hx B.hb dL_law_40 (by rw [h11]; decide) (by rw [h11]; decide) (by rw [h11]; rfl) (by decide) (lw_k11 l hfl B hX hbl hL hi hR hw hl ⟨by omega, by omega⟩ hK)
    by_cases h12 : (xs (7 * i) &&& 63) = 12
    · exact lv_tableIn (tgt := 1049) B.hx B.hb dL_law_40 (by rw [h12]; decide) (by rw [h12]; decide) (by rw [h12]; rfl) (by decide) (lw_k12 l hfl B hX hbl hL hi hR hw hl ⟨by omega, by omega⟩ hK)
    by_cases h13 : (xs (7 * i) &&& 63) = 13
    · exact lv_tableIn (tgt := 1105) B.hx B.hb dL_law_40 (by rw [h13]; decide) (by rw [h13]; decide) (by rw [h13]; rfl) (by decide) (lw_k13 l hfl B hX hbl hL hi hR hw hl ⟨by omega, by omega⟩ hK)
    by_cases h14 : (xs (7 * i) &&& 63) = 14
    · exact lv_tableIn (tgt := 1118) B.hx B.hb dL_law_40 (by rw [h14]; decide) (by rw [h14]; decide) (by rw [h14]; rfl) (by decide) (lw_k14 l hfl B hX hbl hL hi hR hw hl ⟨by omega, by omega⟩ hK)
    by_cases h15 : (xs (7 * i) &&& 63) = 15
    · exact lv_tableIn (tgt := 1174) B.hx B.hb dL_law_40 (by rw [h15]; decide) (by rw [h15]; decide) (by rw [h15]; rfl) (by decide) (lw_k15 l hfl B hX hbl hL hi hR hw hl ⟨by omega, by omega⟩ hK)
    by_cases h16 : (xs (7 * i) &&& 63) = 16
    · exact lv_tableIn (tgt := 1266) B.hx B.hb dL_law_40 (by rw [h16]; decide) (by rw [h16]; decide) (by rw [h16]; rfl) (by decide) (lw_k16 l hfl B hX hbl hL hi hR hw hl ⟨by omega, by omega⟩ hK)
    by_cases h17 : (xs (7 * i) &&& 63) = 17
    · exact lv_tableIn (tgt := 1358) B.hx B.hb dL_law_40 (by rw [h17]; decide) (by rw [h17]; decide) (by rw [h17]; rfl) (by decide) (lw_k17 l hfl B hX hbl hL hi hR hw hl ⟨by omega, by omega⟩ hK)
    by_cases h18 : (xs (7 * i) &&& 63) = 18
    · exact lv_tableIn (tgt := 1426) B.hx B.hb dL_law_40 (by rw [h18]; decide) (by rw [h18]; decide) (by rw [h18]; rfl) (by decide) (lw_k18 l hfl B hX hbl hL hi hR hw hl ⟨by omega, by omega⟩ hK)
    by_cases h19 : (xs (7 * i) &&& 63) = 19
    · exact lv_tableIn (tgt := 1490) B.hx B.hb dL_law_40 (by rw [h19]; decide) (by rw [h19]; decide) (by rw [h19]; rfl) (by decide) (lw_k19 l hfl B hX hbl hL hi hR hw hl ⟨by omega, by omega⟩ hK)
    by_cases h20 : (xs (7 * i) &&& 63) = 20
    · exact lv_tableIn (tgt := 1503) B.hx B.hb dL_law_40 (by rw [h20]; decide) (by rw [h20]; decide) (by rw [h20]; rfl) (by decide) (lw_k20 l hfl B hX hbl hL hi hR hw hl ⟨by omega, by omega⟩ hK)
    by_cases h21 : (xs (7 * i) &&& 63) = 21
    · exact lv_tableIn (tgt := 1571) B.hx B.hb dL_law_40 (by rw [h21]; decide) (by rw [h21]; decide) (by rw [h21]; rfl) (by decide) (lw_k21 l hfl B hX hbl hL hi hR hw hl ⟨by omega, by omega⟩ hK)
    by_cases h22 : (xs (7 * i) &&& 63) = 22
    · exact lv_tableIn (tgt := 1584) B.hx B.hb dL_law_40 (by rw [h22]; decide) (by rw [h22]; decide) (by rw [h22]; rfl) (by decide) (lw_k22 l hfl B hX hbl hL hi hR hw hl ⟨by omega, by omega⟩ hK)
    by_cases h23 : (xs (7 * i) &&& 63) = 23
    · exact lv_tableIn (tgt := 1652) B.hx B.hb dL_law_40 (by rw [h23]; decide) (by rw [h23]; decide) (by rw [h23]; rfl) (by decide) (lw_k23 l hfl B hX hbl hL hi hR hw hl ⟨by omega, by omega⟩ hK)
    by_cases h24 : (xs (7 * i) &&& 63) = 24
    · exact lv_tableIn (tgt := 1665) B.hx B.hb dL_law_40 (by rw [h24]; decide) (by rw [h24]; decide) (by rw [h24]; rfl) (by decide) (lw_k24 l hfl B hX hbl hL hi hR hw hl ⟨by omega, by omega⟩ hK)
    by_cases h25 : (xs (7 * i) &&& 63) = 25
    · exact lv_tableIn (tgt := 1678) B.hx B.hb dL_law_40 (by rw [h25]; decide) (by rw [h25]; decide) (by rw [h25]; rfl) (by decide) (lw_k25 l hfl B hX hbl hL hi hR hw hl ⟨by omega, by omega⟩ hK)
    by_cases h26 : (xs (7 * i) &&& 63) = 26
    · exact lv_tableIn (tgt := 1691) B.hx B.hb dL_law_40 (by rw [h26]; decide) (by rw [h26]; decide) (by rw [h26]; rfl) (by decide) (lw_k26 l hfl B hX hbl hL hi hR hw hl ⟨by omega, by omega⟩ hK)
    by_cases h27 : (xs (7 * i) &&& 63) = 27
    · exact lv_tableIn (tgt := 1704) B.hx B.hb dL_law_40 (by rw [h27]; decide) (by rw [h27]; decide) (by rw [h27]; rfl) (by decide) (lw_k27 l hfl B hX hbl hL hi hR hw hl ⟨by omega, by omega⟩ hK)
    by_cases h28 : (xs (7 * i) &&& 63) = 28
    · exact lv_tableIn (tgt := 1717) B.hx B.hb dL_law_40 (by rw [h28]; decide) (by rw [h28]; decide) (by rw [h28]; rfl) (by decide) (lw_k28 l hfl B hX hbl hL hi hR hw hl ⟨by omega, by omega⟩ hK)
    by_cases h29 : (xs (7 * i) &&& 63) = 29
    · exact lv_tableIn (tgt := 1773) B.hx B.hb dL_law_40 (by rw [h29]; decide) (by rw [h29]; decide) (by rw [h29]; rfl) (by decide) (lw_k29 l hfl B hX hbl hL hi hR hw hl ⟨by omega, by omega⟩ hK)
    by_cases h30 : (xs (7 * i) &&& 63) = 30
    · exact lv_tableIn (tgt := 1829) B.hx B.hb dL_law_40 (by rw [h30]; decide) (by rw [h30]; decide) (by rw [h30]; rfl) (by decide) (lw_k30 l hfl B hX hbl hL hi hR hw hl ⟨by omega, by omega⟩ hK)
    by_cases h31 : (xs (7 * i) &&& 63) = 31
    · exact lv_tableIn (tgt := 1842) B.hx B.hb dL_law_40 (by rw [h31]; decide) (by rw [h31]; decide) (by rw [h31]; rfl) (by decide) (lw_k31 l hfl B hX hbl hL hi hR hw hl ⟨by omega, by omega⟩ hK)
    by_cases h32 : (xs (7 * i) &&& 63) = 32
    · exact lv_tableIn (tgt := 1886) B.hx B.hb dL_law_40 (by rw [h32]; decide) (by rw [h32]; decide) (by rw [h32]; rfl) (by decide) (lw_k32 l hfl B hX hbl hL hi hR hw hl ⟨by omega, by omega⟩ hK)
    by_cases h33 : (xs (7 * i) &&& 63) = 33
    · exact lv_tableIn (tgt := 1954) B.hx B.hb dL_law_40 (by rw [h33]; decide) (by rw [h33]; decide) (by rw [h33]; rfl) (by decide) (lw_k33 l hfl B hX hbl hL hi hR hw hl ⟨by omega, by omega⟩ hK)
    by_cases h34 : (xs (7 * i) &&& 63) = 34
    · exact lv_tableIn (tgt := 2072) B.hx B.hb dL_law_40 (by rw [h34]; decide) (by rw [h34]; decide) (by rw [h34]; rfl) (by decide) (lw_k34 l hfl B hX hbl hL hi hR hw hl ⟨by omega, by omega⟩ hK)
    refine lv_tableOut (tgt := 2116) B.hx B.hb dL_law_40 (sw_n (n := 35) (fun k hk => ?_) (by decide)) (by decide) ?_
    · rcases (show k = 0 ∨ k = 1 ∨ k = 2 ∨ k = 3 ∨ k = 4 ∨ k = 5 ∨ k = 6 ∨ k = 7 ∨ k = 8 ∨ k = 9 ∨ k = 10 ∨ k = 11 ∨ k = 12 ∨ k = 13 ∨ k = 14 ∨ k = 15 ∨ k = 16 ∨ k = 17 ∨ k = 18 ∨ k = 19 ∨ k = 20 ∨ k = 21 ∨ k = 22 ∨ k = 23 ∨ k = 24 ∨ k = 25 ∨ k = 26 ∨ k = 27 ∨ k = 28 ∨ k = 29 ∨ k = 30 ∨ k = 31 ∨ k = 32 ∨ k = 33 ∨ k = 34 by omega) with rfl | rfl | rfl | rfl | rfl | rfl | rfl | rfl | rfl | rfl | rfl | rfl | rfl | rfl | rfl | rfl | rfl | rfl | rfl | rfl | rfl | rfl | rfl | rfl | rfl | rfl | rfl | rfl | rfl | rfl | rfl | rfl | rfl | rfl | rfl
      · exact h0
      · exact h1
      · exact h2
      · exact h3
      · exact h4
      · exact h5
      · exact h6
      · exact h7
      · exact h8
      · exact h9
      · exact h10
      · exact h11
      · exact h12
      · exact h13
      · exact h14
      · exact h15
      · exact h16
      · exact h17
      · exact h18
      · exact h19
      · exact h20
      · exact h21
      · exact h22
      · exact h23
      · exact h24
      · exact h25
      · exact h26
      · exact h27
      · exact h28
      · exact h29
      · exact h30
      · exact h31
      · exact h32
      · exact h33
      · exact h34
    · refine W.widen (k := 209 + 4 * i + 4) (n := 3753 + 24 * i + 24) (by omega) (by omega) ?_
      exact hK _ _ _ _ _ _ (rb_next hR) hw hl
set_option maxRecDepth 100000 in
set_option maxHeartbeats 4000000 in
theorem lw_loop (l : Launch) (hfl : l.stackTraces = false) {p : Program} {e : Env} {s : State} {m : MethodId} {below : List Frame} {meth : Method} {c : Code} {X : XT} {b2 : Nat → Nat} {o b L : Nat} {xs : Nat → Int32} (B : CL X b2 o p s m #[Value.ref b] c) (hX : va_X b L xs s s.heap) (hbl : b < s.heap.size) (hL : L ≤ 3584) (hr : meth.sig.returnType = ret) (hlk : meth.locks = false) :
    ∀ (r i : Nat), 7 * (i + r) ≤ L → L < 7 * (i + r) + 7 → ∀ (M m0 : Mem) (f : Nat → Int64) (H : Heap) (locs : List Loc) (ls : Array Slot), RB i M m0 → HL X b2 o M m0 f s H locs → lv_has ls 7 [(0, .ref b), (1, .ref (X.2.2 0)), (2, .ref (b2 0)), (3, .ref o), (4, .int (nI (7 * i)))] → W p l e room_1 s m #[Value.ref b] below meth c H locs (209 + 4 * i) (3753 + 24 * i) (lw_Z below #[Value.ref b] s) (F0 m 23 ls []) := by
  intro r
  induction r with
  | zero =>
    intro i h1 h2 M m0 f H locs ls hR hw hl
    refine lv_iload B.hx B.hb dL_law_23 (lv_at hl 4 rfl) ?_
    refine lv_aload_n B.hx B.hb dL_law_25 rfl (lv_at hl 0 rfl) ?_
    refine l_slen B hX hbl hw dL_law_26 ?_
    refine lv_bipush (v := 7) B.hx B.hb dL_law_27 (by decide) ?_
    refine lv_isub B.hx B.hb dL_law_29 ?_
    refine lv_icmp_gt (tgt := 2122) B.hx B.hb dL_law_30 (by decide) (fun _ => ?_) (fun c9 => absurd ((l_cnd hL (by omega)).mpr (by omega)) c9)
    refine lv_iconst (v := 1) B.hx B.hb dL_law_2122 (by decide) ?_
    refine va_forget hw.2.2.2.2.2 ?_
    refine W.widen (k := 601024) (n := 7293034) (by omega) (by omega) ?_
    exact lw_ret B.hx B.hb hr hlk dL_law_2123
  | succ r ih =>
    intro i h1 h2 M m0 f H locs ls hR hw hl
    refine lv_iload B.hx B.hb dL_law_23 (lv_at hl 4 rfl) ?_
    refine lv_aload_n B.hx B.hb dL_law_25 rfl (lv_at hl 0 rfl) ?_
    refine l_slen B hX hbl hw dL_law_26 ?_
    refine lv_bipush (v := 7) B.hx B.hb dL_law_27 (by decide) ?_
    refine lv_isub B.hx B.hb dL_law_29 ?_
    refine lv_icmp_gt (tgt := 2122) B.hx B.hb dL_law_30 (by decide) (fun c9 => absurd ((l_cnd hL (by omega)).mp c9) (by omega)) (fun _ => ?_)
    refine lv_aload_n B.hx B.hb dL_law_33 rfl (lv_at hl 0 rfl) ?_
    refine lv_iload B.hx B.hb dL_law_34 (lv_at hl 4 rfl) ?_
    refine l_sld (k := 7 * i) B hX hbl hw rfl (by omega) hL dL_law_36 ?_
    refine lv_bipush (v := 63) B.hx B.hb dL_law_37 (by decide) ?_
    refine lv_iand B.hx B.hb dL_law_39 ?_
    refine lw_go l hfl B hX hbl hL (by omega) ?_ hR hw hl
    intro M m0 f H locs ls hR hw hl
    refine lv_iinc (v := nI (7 * (i + 1))) (lv' := [(4, .int (nI (7 * (i + 1)))), (0, .ref b), (1, .ref (X.2.2 0)), (2, .ref (b2 0)), (3, .ref o)]) B.hx B.hb dL_law_2116 hl (k := 4) rfl (l_nxt i) (by decide) rfl (fun ls hl => ?_)
    refine lv_goto (tgt := 23) B.hx B.hb dL_law_2119 (by decide) ?_
    refine i_pc (pc' := 23) (c' := 209 + 4 * (i + 1)) (s' := 3753 + 24 * (i + 1)) rfl (by omega) (by omega) ?_
    exact ih (i + 1) (by omega) (by omega) M m0 f H locs ls hR hw (lv_sub hl [1, 2, 3, 4, 0] rfl)
