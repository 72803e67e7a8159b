abbrev rm_L_take : Room := { frames := 6, cells := 2, slots := 12, locals := 180 }
set_option maxRecDepth 100000 in
set_option maxHeartbeats 8000000 in
theorem c_L_take (l : Launch) (hfl : l.stackTraces = false) (X : XT) (fu : Nat) (p12 : Int32) (M : Mem)  (rs : Mem) (hf : f_L_take fu p12 M = some rs) (sz : Nat) : Met l yL_take (wbig yL_take cL_take 27 none) rm_L_take (va_Pc [.ref (X.2.2 142), .ref (X.2.2 143), .ref (X.2.2 144), .ref (X.2.2 145), .ref (X.2.2 146), .ref (X.2.2 147), .ref (X.2.2 148), .ref (X.2.2 153), .ref (X.2.2 149), .ref (X.2.2 150), .ref (X.2.2 151), .ref (X.2.2 152), .int p12] (PXN (LW []) X M sz)) (QV (LW []) X rs sz) 2 12 (AX (LW []) X sz) := by
  refine wn_go (L := (LW [])) (M := M) (by decide +kernel) (Nat.le_of_ble_eq_true rfl) ?_
  intro p e s m args below meth c hsz B T N9 hr hlk hw ls hl
  subst hsz
  have hx := B.hx
  have hb := B.hb
  have B0 := B
  have T0 := T
  have hl : lv_has ls 27 [(0, .ref (X.2.2 142)), (1, .ref (X.2.2 143)), (2, .ref (X.2.2 144)), (3, .ref (X.2.2 145)), (4, .ref (X.2.2 146)), (5, .ref (X.2.2 147)), (6, .ref (X.2.2 148)), (7, .ref (X.2.2 153)), (8, .ref (X.2.2 149)), (9, .ref (X.2.2 150)), (10, .ref (X.2.2 151)), (11, .ref (X.2.2 152)), (12, .int p12)] := hl
  generalize hQ : MQ below _ args s 2 12 (AX (LW []) X s.heap.size) = Q
  unfold f_L_take at hf
  refine lv_aload hx hb dL_take_0 (lv_at hl 4 rfl) ?_
  refine lv_bipush (v := 6) hx hb dL_take_2 (by decide) ?_
  refine lv_iload hx hb dL_take_4 (lv_at hl 12 rfl) ?_
  refine lv_iadd hx hb dL_take_6 ?_
  obtain ⟨g_1, hf⟩ := grd_e hf
  refine w_iald B hw (i := 146) (kw146 _) g_1 dL_take_7 ?_
  refine r_topn hf (fun x13_2 hf => ?_)
  refine lv_istore (lv' := [(13, .int x13_2), (0, .ref (X.2.2 142)), (1, .ref (X.2.2 143)), (2, .ref (X.2.2 144)), (3, .ref (X.2.2 145)), (4, .ref (X.2.2 146)), (5, .ref (X.2.2 147)), (6, .ref (X.2.2 148)), (7, .ref (X.2.2 153)), (8, .ref (X.2.2 149)), (9, .ref (X.2.2 150)), (10, .ref (X.2.2 151)), (11, .ref (X.2.2 152)), (12, .int p12)]) hx hb dL_take_8 hl (by decide) rfl (fun ls hl => ?_)
  refine lv_iload hx hb dL_take_10 (lv_at hl 0 rfl) ?_
  refine lv_iconst (v := 2) hx hb dL_take_12 (by decide) ?_
  refine lv_idiv hx hb dL_take_13 (by decide) ?_
  refine r_topn hf (fun x14_3 hf => ?_)
  refine lv_istore (lv' := [(14, .int x14_3), (13, .int x13_2), (0, .ref (X.2.2 142)), (1, .ref (X.2.2 143)), (2, .ref (X.2.2 144)), (3, .ref (X.2.2 145)), (4, .ref (X.2.2 146)), (5, .ref (X.2.2 147)), (6, .ref (X.2.2 148)), (7, .ref (X.2.2 153)), (8, .ref (X.2.2 149)), (9, .ref (X.2.2 150)), (10, .ref (X.2.2 151)), (11, .ref (X.2.2 152)), (12, .int p12)]) hx hb dL_take_14 hl (by decide) rfl (fun ls hl => ?_)
  refine lv_aload hx hb dL_take_16 (lv_at hl 6 rfl) ?_
  refine lv_aload hx hb dL_take_18 (lv_at hl 7 rfl) ?_
  refine lv_aload hx hb dL_take_20 (lv_at hl 13 rfl) ?_
  refine lv_iload hx hb dL_take_22 (lv_at hl 14 rfl) ?_
  obtain ⟨r_5, h_4, hf⟩ := bd_e hf
  refine q_callSi (M' := M) (As := [.ref (X.2.2 146), .ref (X.2.2 147), .ref (X.2.2 152), .int p12]) (rest := []) B hw (c_L_entry l _ X fu p12 M r_5 h_4 _) cs_L_248 rfl hl.1 rfl rfl ⟨(Nat.le_of_ble_eq_true rfl), (Nat.le_of_ble_eq_true rfl)⟩ (Nat.le_of_ble_eq_true rfl) ⟨(Nat.le_of_ble_eq_true rfl), (Nat.le_of_ble_eq_true rfl)⟩ dL_take_24 rfl (fun H locs hw => ?_)
  refine lv_istore (lv' := [(15, .int r_5), (14, .int x14_3), (13, .int x13_2), (0, .ref (X.2.2 142)), (1, .ref (X.2.2 143)), (2, .ref (X.2.2 144)), (3, .ref (X.2.2 145)), (4, .ref (X.2.2 146)), (5, .ref (X.2.2 147)), (6, .ref (X.2.2 148)), (7, .ref (X.2.2 153)), (8, .ref (X.2.2 149)), (9, .ref (X.2.2 150)), (10, .ref (X.2.2 151)), (11, .ref (X.2.2 152)), (12, .int p12)]) hx hb dL_take_27 hl (by decide) rfl (fun ls hl => ?_)
  refine lv_aload hx hb dL_take_29 (lv_at hl 14 rfl) ?_
  refine lv_bipush (v := 13) hx hb dL_take_31 (by decide) ?_
  refine lv_iconst (v := 0) hx hb dL_take_33 (by decide) ?_
  refine w_iast B hw (i := 152) (kw152 _) (by decide) dL_take_34 hf (fun M_6 H locs hw hf => ?_)
  refine lv_iload hx hb dL_take_35 (lv_at hl 0 rfl) ?_
  refine lv_if_lt (tgt := 137) hx hb dL_take_37 (by decide) (fun c_7 => ?_) (fun c_7 => ?_)
  · have hf := it_e hf c_7
    refine lv_aload_n hx hb dL_take_137 rfl (lv_at hl 5 rfl) ?_
    refine lv_aload hx hb dL_take_138 (lv_at hl 13 rfl) ?_
    refine lv_aload hx hb dL_take_140 (lv_at hl 14 rfl) ?_
    refine lv_iload hx hb dL_take_142 (lv_at hl 15 rfl) ?_
    refine lv_iload hx hb dL_take_144 (lv_at hl 2 rfl) ?_
    refine lv_aload hx hb dL_take_146 (lv_at hl 14 rfl) ?_
    refine lv_iconst (v := 0) hx hb dL_take_148 (by decide) ?_
    refine w_iald B hw (i := 152) (kw152 _) (by decide) dL_take_149 ?_
    obtain ⟨M_9, h_8, hf⟩ := bd_e hf
    refine q_callSv (M' := M_9) (As := [.ref (X.2.2 144), .ref (X.2.2 151), .ref (X.2.2 152), .int p12, .int x13_2, .int (M_6 152 0)]) (rest := []) B hw (c_L_right l _ X fu p12 x13_2 (M_6 152 0) M_6 M_9 h_8 _) cs_L_252 rfl hl.1 rfl rfl ⟨(Nat.le_of_ble_eq_true rfl), (Nat.le_of_ble_eq_true rfl)⟩ (Nat.le_of_ble_eq_true rfl) ⟨(Nat.le_of_ble_eq_true rfl), (Nat.le_of_ble_eq_true rfl)⟩ dL_take_150 rfl (fun H locs hw => ?_)
    refine lv_aload hx hb dL_take_153 (lv_at hl 7 rfl) ?_
    refine lv_aload hx hb dL_take_155 (lv_at hl 13 rfl) ?_
    refine lv_iload hx hb dL_take_157 (lv_at hl 15 rfl) ?_
    obtain ⟨r_11, h_10, hf⟩ := bd_e hf
    refine q_callSi (M' := M_9) (As := [.ref (X.2.2 146), .ref (X.2.2 151), .int p12]) (rest := []) B hw (c_L_linkOf l _ X fu p12 M_9 r_11 h_10 _) cs_L_256 rfl hl.1 rfl rfl ⟨(Nat.le_of_ble_eq_true rfl), (Nat.le_of_ble_eq_true rfl)⟩ (Nat.le_of_ble_eq_true rfl) ⟨(Nat.le_of_ble_eq_true rfl), (Nat.le_of_ble_eq_true rfl)⟩ dL_take_159 rfl (fun H locs hw => ?_)
    refine lv_istore (lv' := [(16, .int r_11), (15, .int r_5), (14, .int x14_3), (13, .int x13_2), (0, .ref (X.2.2 142)), (1, .ref (X.2.2 143)), (2, .ref (X.2.2 144)), (3, .ref (X.2.2 145)), (4, .ref (X.2.2 146)), (5, .ref (X.2.2 147)), (6, .ref (X.2.2 148)), (7, .ref (X.2.2 153)), (8, .ref (X.2.2 149)), (9, .ref (X.2.2 150)), (10, .ref (X.2.2 151)), (11, .ref (X.2.2 152)), (12, .int p12)]) hx hb dL_take_162 hl (by decide) rfl (fun ls hl => ?_)
    refine lv_iload hx hb dL_take_164 (lv_at hl 2 rfl) ?_
    refine q_callSi (M' := M_9) (As := [.int x14_3]) (rest := []) B hw (c_L_fee l _ X x14_3 _ rfl M_9 _) cs_L_222 rfl hl.1 rfl rfl ⟨(Nat.le_of_ble_eq_true rfl), (Nat.le_of_ble_eq_true rfl)⟩ (Nat.le_of_ble_eq_true rfl) ⟨(Nat.le_of_ble_eq_true rfl), (Nat.le_of_ble_eq_true rfl)⟩ dL_take_166 rfl (fun H locs hw => ?_)
    refine lv_iload hx hb dL_take_169 (lv_at hl 2 rfl) ?_
    refine q_callSi (M' := M_9) (As := [.int x14_3]) (rest := [.int (f_L_fee x14_3)]) B hw (c_L_freight l _ X x14_3 _ rfl M_9 _) cs_L_233 rfl hl.1 rfl rfl ⟨(Nat.le_of_ble_eq_true rfl), (Nat.le_of_ble_eq_true rfl)⟩ (Nat.le_of_ble_eq_true rfl) ⟨(Nat.le_of_ble_eq_true rfl), (Nat.le_of_ble_eq_true rfl)⟩ dL_take_171 rfl (fun H locs hw => ?_)
    refine lv_aload hx hb dL_take_174 (lv_at hl 8 rfl) ?_
    refine lv_aload hx hb dL_take_176 (lv_at hl 11 rfl) ?_
    refine lv_iload hx hb dL_take_178 (lv_at hl 16 rfl) ?_
    obtain ⟨r_15, h_14, hf⟩ := bd_e hf
    refine q_callSi (M' := M_9) (As := [.ref (X.2.2 146), .ref (X.2.2 153), .int p12]) (rest := [.int (f_L_freight x14_3), .int (f_L_fee x14_3)]) B hw (c_L_guess l _ X fu p12 M_9 r_15 h_14 _) cs_L_260 rfl hl.1 rfl rfl ⟨(Nat.le_of_ble_eq_true rfl), (Nat.le_of_ble_eq_true rfl)⟩ (Nat.le_of_ble_eq_true rfl) ⟨(Nat.le_of_ble_eq_true rfl), (Nat.le_of_ble_eq_true rfl)⟩ dL_take_180 rfl (fun H locs hw => ?_)
    refine lv_imul hx hb dL_take_183 ?_
    refine lv_iadd hx hb dL_take_184 ?_
    refine r_topn hf (fun x17_16 hf => ?_)
    refine lv_istore (lv' := [(17, .int x17_16), (16, .int r_11), (15, .int r_5), (14, .int x14_3), (13, .int x13_2), (0, .ref (X.2.2 142)), (1, .ref (X.2.2 143)), (2, .ref (X.2.2 144)), (3, .ref (X.2.2 145)), (4, .ref (X.2.2 146)), (5, .ref (X.2.2 147)), (6, .ref (X.2.2 148)), (7, .ref (X.2.2 153)), (8, .ref (X.2.2 149)), (9, .ref (X.2.2 150)), (10, .ref (X.2.2 151)), (11, .ref (X.2.2 152)), (12, .int p12)]) hx hb dL_take_185 hl (by decide) rfl (fun ls hl => ?_)
    refine lv_iload hx hb dL_take_187 (lv_at hl 1 rfl) ?_
    refine jn_e hf (fun kk => ∀ (M_18 : Mem) (H : Heap) (locs : List Loc) (ls : Array Slot), HW (LW []) X M_18 s H locs → lv_has ls 27 [(0, .ref (X.2.2 142)), (1, .ref (X.2.2 143)), (2, .ref (X.2.2 144)), (3, .ref (X.2.2 145)), (4, .ref (X.2.2 146)), (5, .ref (X.2.2 147)), (6, .ref (X.2.2 148)), (7, .ref (X.2.2 153)), (8, .ref (X.2.2 149)), (9, .ref (X.2.2 150)), (10, .ref (X.2.2 151)), (11, .ref (X.2.2 152)), (12, .int p12)] → kk M_18 = some rs → W p l e rm_L_take s m args below meth c H locs 2 12 Q (F0 m 518 ls [])) ?_ (fun k518_17 J518_17 hf => ?_)
    · intro M_18 H locs ls hw hl hf
      refine lv_aload hx hb dL_take_518 (lv_at hl 10 rfl) ?_
      refine lv_iconst (v := 4) hx hb dL_take_520 (by decide) ?_
      refine lv_iload hx hb dL_take_521 (lv_at hl 12 rfl) ?_
      refine lv_imul hx hb dL_take_523 ?_
      refine lv_iconst (v := 3) hx hb dL_take_524 (by decide) ?_
      obtain ⟨g_19, hf⟩ := grd_e hf
      refine w_iast B hw (i := 151) (kw151 _) g_19 dL_take_525 hf (fun M_20 H locs hw hf => ?_)
      refine lv_aload hx hb dL_take_526 (lv_at hl 10 rfl) ?_
      refine lv_iconst (v := 4) hx hb dL_take_528 (by decide) ?_
      refine lv_iload hx hb dL_take_529 (lv_at hl 12 rfl) ?_
      refine lv_imul hx hb dL_take_531 ?_
      refine lv_iconst (v := 1) hx hb dL_take_532 (by decide) ?_
      refine lv_iadd hx hb dL_take_533 ?_
      refine lv_aload_n hx hb dL_take_534 rfl (lv_at hl 0 rfl) ?_
      refine lv_aload_n hx hb dL_take_535 rfl (lv_at hl 1 rfl) ?_
      refine lv_aload_n hx hb dL_take_536 rfl (lv_at hl 2 rfl) ?_
      refine lv_aload_n hx hb dL_take_537 rfl (lv_at hl 3 rfl) ?_
      refine lv_aload hx hb dL_take_538 (lv_at hl 4 rfl) ?_
      refine lv_aload hx hb dL_take_540 (lv_at hl 5 rfl) ?_
      refine lv_aload hx hb dL_take_542 (lv_at hl 6 rfl) ?_
      refine lv_aload hx hb dL_take_544 (lv_at hl 7 rfl) ?_
      refine lv_aload hx hb dL_take_546 (lv_at hl 8 rfl) ?_
      refine lv_aload hx hb dL_take_548 (lv_at hl 9 rfl) ?_
      refine lv_aload hx hb dL_take_550 (lv_at hl 11 rfl) ?_
      refine lv_iload hx hb dL_take_552 (lv_at hl 12 rfl) ?_
      obtain ⟨r_22, M_23, h_21, hf⟩ := bm_e hf
      refine q_callSi (M' := M_23) (As := [.ref (X.2.2 142), .ref (X.2.2 143), .ref (X.2.2 144), .ref (X.2.2 145), .ref (X.2.2 146), .ref (X.2.2 147), .ref (X.2.2 148), .ref (X.2.2 153), .ref (X.2.2 149), .ref (X.2.2 150), .ref (X.2.2 152), .int p12]) (rest := [.int ((4 * p12) + 1), .ref (X.2.2 151)]) B hw (c_L_scan l _ X fu p12 M_20 (r_22, M_23) h_21 _) cs_L_267 rfl hl.1 rfl rfl ⟨(Nat.le_of_ble_eq_true rfl), (Nat.le_of_ble_eq_true rfl)⟩ (Nat.le_of_ble_eq_true rfl) ⟨(Nat.le_of_ble_eq_true rfl), (Nat.le_of_ble_eq_true rfl)⟩ dL_take_554 rfl (fun H locs hw => ?_)
      refine nmv_e hf (fun kk => ∀ (H : Heap) (locs : List Loc), HW (LW []) X M_23 s H locs → W p l e rm_L_take s m args below meth c H locs 2 12 Q (F0 m 565 ls [.int kk, .int ((4 * p12) + 1), .ref (X.2.2 151)])) (fun J => ?_) (fun v_25 hf H locs hw => ?_)
      · refine lv_if_eq (tgt := 564) hx hb dL_take_557 (by decide) (fun c_24 => ?_) (fun c_24 => ?_)
        · rw [if_pos (show r_22 = 0 from c_24)] at J
          refine lv_iconst (v := 0) hx hb dL_take_564 (by decide) ?_
          exact J _ _ hw
        · rw [if_neg (show ¬ (r_22 = 0) from c_24)] at J
          refine lv_iconst (v := 1) hx hb dL_take_560 (by decide) ?_
          refine lv_goto (tgt := 565) hx hb dL_take_561 (by decide) ?_
          exact J _ _ hw
      · obtain ⟨g_26, hf⟩ := grd_e hf
        refine w_iast B hw (i := 151) (kw151 _) g_26 dL_take_565 hf (fun M_27 H locs hw hf => ?_)
        cases hf
        subst hQ
        exact q_vret B0 hr hlk hw rfl dL_take_566
    refine lv_if_lt (tgt := 518) hx hb dL_take_189 (by decide) (fun c_28 => ?_) (fun c_28 => ?_)
    · have hf := it_e hf c_28
      refine W.widen (k := 2) (n := 12) (by omega) (by omega) ?_
      exact J518_17 M_9 _ _ _ hw (lv_sub hl [5, 6, 7, 8, 9, 10, 11, 12, 13, 14, 15, 16, 17] rfl) hf
    · have hf := ie_e hf c_28
      refine lv_aload hx hb dL_take_192 (lv_at hl 9 rfl) ?_
      refine lv_bipush (v := 9) hx hb dL_take_194 (by decide) ?_
      refine lv_iconst (v := 4) hx hb dL_take_196 (by decide) ?_
      refine lv_iload hx hb dL_take_197 (lv_at hl 1 rfl) ?_
      refine lv_imul hx hb dL_take_199 ?_
      refine lv_iadd hx hb dL_take_200 ?_
      obtain ⟨g_29, hf⟩ := grd_e hf
      refine w_iald B hw (i := 146) (kw146 _) g_29 dL_take_201 ?_
      refine lv_iload hx hb dL_take_202 (lv_at hl 17 rfl) ?_
      refine nmv_e hf (fun kk => ∀ (H : Heap) (locs : List Loc), HW (LW []) X M_9 s H locs → W p l e rm_L_take s m args below meth c H locs 0 0 Q (F0 m 212 ls [.int kk])) (fun J => ?_) (fun v_31 hf H locs hw => ?_)
      · refine lv_icmp_ne (tgt := 211) hx hb dL_take_204 (by decide) (fun c_30 => ?_) (fun c_30 => ?_)
        · rw [if_neg (show ¬ ((M_9 146 (9 + (4 * r_11)).toNatClampNeg) = p12) from c_30)] at J
          refine lv_iconst (v := 0) hx hb dL_take_211 (by decide) ?_
          exact J _ _ hw
        · rw [if_pos (show (M_9 146 (9 + (4 * r_11)).toNatClampNeg) = p12 from c_30)] at J
          refine lv_iconst (v := 1) hx hb dL_take_207 (by decide) ?_
          refine lv_goto (tgt := 212) hx hb dL_take_208 (by decide) ?_
          exact J _ _ hw
      · refine lv_istore (lv' := [(18, .int v_31), (17, .int x17_16), (16, .int r_11), (15, .int r_5), (14, .int x14_3), (13, .int x13_2), (0, .ref (X.2.2 142)), (1, .ref (X.2.2 143)), (2, .ref (X.2.2 144)), (3, .ref (X.2.2 145)), (4, .ref (X.2.2 146)), (5, .ref (X.2.2 147)), (6, .ref (X.2.2 148)), (7, .ref (X.2.2 153)), (8, .ref (X.2.2 149)), (9, .ref (X.2.2 150)), (10, .ref (X.2.2 151)), (11, .ref (X.2.2 152)), (12, .int p12)]) hx hb dL_take_212 hl (by decide) rfl (fun ls hl => ?_)
        refine lv_iload hx hb dL_take_214 (lv_at hl 0 rfl) ?_
        refine jn_e hf (fun kk => ∀ (v_33 : Int32) (H : Heap) (locs : List Loc) (ls : Array Slot), HW (LW []) X M_9 s H locs → lv_has ls 27 [(0, .ref (X.2.2 142)), (1, .ref (X.2.2 143)), (2, .ref (X.2.2 144)), (3, .ref (X.2.2 145)), (4, .ref (X.2.2 146)), (5, .ref (X.2.2 147)), (6, .ref (X.2.2 148)), (7, .ref (X.2.2 153)), (8, .ref (X.2.2 149)), (9, .ref (X.2.2 150)), (10, .ref (X.2.2 151)), (11, .ref (X.2.2 152)), (12, .int p12), (14, .int x14_3), (16, .int r_11), (17, .int x17_16), (18, .int v_31)] → kk v_33 = some rs → W p l e rm_L_take s m args below meth c H locs 0 0 Q (F0 m 242 ls [.int v_33])) ?_ (fun k242_32 J242_32 hf => ?_)
        · intro v_33 H locs ls hw hl hf
          refine lv_istore (lv' := [(19, .int v_33), (0, .ref (X.2.2 142)), (1, .ref (X.2.2 143)), (2, .ref (X.2.2 144)), (3, .ref (X.2.2 145)), (4, .ref (X.2.2 146)), (5, .ref (X.2.2 147)), (6, .ref (X.2.2 148)), (7, .ref (X.2.2 153)), (8, .ref (X.2.2 149)), (9, .ref (X.2.2 150)), (10, .ref (X.2.2 151)), (11, .ref (X.2.2 152)), (12, .int p12), (14, .int x14_3), (16, .int r_11), (17, .int x17_16), (18, .int v_31)]) hx hb dL_take_242 hl (by decide) rfl (fun ls hl => ?_)
          refine lv_iload hx hb dL_take_244 (lv_at hl 17 rfl) ?_
          refine jn_e hf (fun kk => ∀ (v_35 : Int32) (H : Heap) (locs : List Loc) (ls : Array Slot), HW (LW []) X M_9 s H locs → lv_has ls 27 [(0, .ref (X.2.2 142)), (1, .ref (X.2.2 143)), (2, .ref (X.2.2 144)), (3, .ref (X.2.2 145)), (4, .ref (X.2.2 146)), (5, .ref (X.2.2 147)), (6, .ref (X.2.2 148)), (7, .ref (X.2.2 153)), (8, .ref (X.2.2 149)), (9, .ref (X.2.2 150)), (10, .ref (X.2.2 151)), (11, .ref (X.2.2 152)), (12, .int p12), (14, .int x14_3), (16, .int r_11), (17, .int x17_16), (18, .int v_31), (19, .int v_33)] → kk v_35 = some rs → W p l e rm_L_take s m args below meth c H locs 0 0 Q (F0 m 272 ls [.int v_35])) ?_ (fun k272_34 J272_34 hf => ?_)
          · intro v_35 H locs ls hw hl hf
            refine lv_istore (lv' := [(20, .int v_35), (0, .ref (X.2.2 142)), (1, .ref (X.2.2 143)), (2, .ref (X.2.2 144)), (3, .ref (X.2.2 145)), (4, .ref (X.2.2 146)), (5, .ref (X.2.2 147)), (6, .ref (X.2.2 148)), (7, .ref (X.2.2 153)), (8, .ref (X.2.2 149)), (9, .ref (X.2.2 150)), (10, .ref (X.2.2 151)), (11, .ref (X.2.2 152)), (12, .int p12), (14, .int x14_3), (16, .int r_11), (17, .int x17_16), (18, .int v_31), (19, .int v_33)]) hx hb dL_take_272 hl (by decide) rfl (fun ls hl => ?_)
            refine lv_iload hx hb dL_take_274 (lv_at hl 17 rfl) ?_
            refine jn_e hf (fun kk => ∀ (v_37 : Int32) (H : Heap) (locs : List Loc) (ls : Array Slot), HW (LW []) X M_9 s H locs → lv_has ls 27 [(0, .ref (X.2.2 142)), (1, .ref (X.2.2 143)), (2, .ref (X.2.2 144)), (3, .ref (X.2.2 145)), (4, .ref (X.2.2 146)), (5, .ref (X.2.2 147)), (6, .ref (X.2.2 148)), (7, .ref (X.2.2 153)), (8, .ref (X.2.2 149)), (9, .ref (X.2.2 150)), (10, .ref (X.2.2 151)), (11, .ref (X.2.2 152)), (12, .int p12), (14, .int x14_3), (17, .int x17_16), (19, .int v_33), (20, .int v_35)] → kk v_37 = some rs → W p l e rm_L_take s m args below meth c H locs 0 0 Q (F0 m 302 ls [.int v_37])) ?_ (fun k302_36 J302_36 hf => ?_)
            · intro v_37 H locs ls hw hl hf
              refine lv_istore (lv' := [(21, .int v_37), (0, .ref (X.2.2 142)), (1, .ref (X.2.2 143)), (2, .ref (X.2.2 144)), (3, .ref (X.2.2 145)), (4, .ref (X.2.2 146)), (5, .ref (X.2.2 147)), (6, .ref (X.2.2 148)), (7, .ref (X.2.2 153)), (8, .ref (X.2.2 149)), (9, .ref (X.2.2 150)), (10, .ref (X.2.2 151)), (11, .ref (X.2.2 152)), (12, .int p12), (14, .int x14_3), (17, .int x17_16), (19, .int v_33), (20, .int v_35)]) hx hb dL_take_302 hl (by decide) rfl (fun ls hl => ?_)
              refine lv_iload hx hb dL_take_304 (lv_at hl 14 rfl) ?_
              refine lv_iload hx hb dL_take_306 (lv_at hl 16 rfl) ?_
              refine lv_iconst (v := 0) hx hb dL_take_308 (by decide) ?_
              refine q_callSi (M' := M_9) (As := [.int x14_3, .int v_33, .int 0]) (rest := []) B hw (c_L_done l _ X x14_3 v_33 0 _ rfl M_9 _) cs_L_212 rfl hl.1 rfl rfl ⟨(Nat.le_of_ble_eq_true rfl), (Nat.le_of_ble_eq_true rfl)⟩ (Nat.le_of_ble_eq_true rfl) ⟨(Nat.le_of_ble_eq_true rfl), (Nat.le_of_ble_eq_true rfl)⟩ dL_take_309 rfl (fun H locs hw => ?_)
              refine lv_if_eq (tgt := 518) hx hb dL_take_312 (by decide) (fun c_39 => ?_) (fun c_39 => ?_)
              · have hf := it_e hf c_39
                refine W.widen (k := 2) (n := 12) (by omega) (by omega) ?_
                exact J518_17 M_9 _ _ _ hw (lv_sub hl [1, 2, 3, 4, 5, 6, 7, 8, 9, 10, 11, 12, 13] rfl) hf
              · have hf := ie_e hf c_39
                refine lv_aload hx hb dL_take_315 (lv_at hl 8 rfl) ?_
                refine lv_bipush (v := 8) hx hb dL_take_317 (by decide) ?_
                refine lv_aload hx hb dL_take_319 (lv_at hl 5 rfl) ?_
                refine lv_bipush (v := 6) hx hb dL_take_321 (by decide) ?_
                refine lv_iload hx hb dL_take_323 (lv_at hl 17 rfl) ?_
                refine lv_iadd hx hb dL_take_325 ?_
                obtain ⟨g_40, hf⟩ := grd_e hf
                refine w_iald B hw (i := 146) (kw146 _) g_40 dL_take_326 ?_
                refine lv_iadd hx hb dL_take_327 ?_
                obtain ⟨g_41, hf⟩ := grd_e hf
                refine w_iald B hw (i := 153) (kw153 _) g_41 dL_take_328 ?_
                refine lv_iload hx hb dL_take_329 (lv_at hl 14 rfl) ?_
                refine lv_ishr hx hb dL_take_331 ?_
                refine lv_iconst (v := 1) hx hb dL_take_332 (by decide) ?_
                refine lv_iand hx hb dL_take_333 ?_
                refine lv_if_ne (tgt := 518) hx hb dL_take_334 (by decide) (fun c_42 => ?_) (fun c_42 => ?_)
                · have hf := ie_e hf c_42
                  refine W.widen (k := 2) (n := 12) (by omega) (by omega) ?_
                  exact J518_17 M_9 _ _ _ hw (lv_sub hl [1, 2, 3, 4, 5, 6, 7, 8, 9, 10, 11, 12, 13] rfl) hf
                · have hf := it_e hf c_42
                  refine lv_bipush (v := 10) hx hb dL_take_337 (by decide) ?_
                  obtain ⟨g_45, hf⟩ := grd_e hf
                  refine w_newi (ex := []) (ex' := [(20, 10)]) (N := 10) (num := 157) B T hw g_45 (by decide +kernel) (by decide +kernel) (Nat.le_of_ble_eq_true rfl) (Nat.le_of_ble_eq_true rfl) (Nat.le_of_ble_eq_true rfl) rfl rfl dL_take_339 hf (fun q_43 M_44 H locs hq_43 B T hw hf => ?_)
                  refine W.widen (k := 2) (n := 12) (by omega) (by omega) ?_
                  have hl : lv_has ls 27 [(21, .int v_37), (0, .ref ((xn X 157 q_43).2.2 142)), (1, .ref ((xn X 157 q_43).2.2 143)), (2, .ref ((xn X 157 q_43).2.2 144)), (3, .ref ((xn X 157 q_43).2.2 145)), (4, .ref ((xn X 157 q_43).2.2 146)), (5, .ref ((xn X 157 q_43).2.2 147)), (6, .ref ((xn X 157 q_43).2.2 148)), (7, .ref ((xn X 157 q_43).2.2 153)), (8, .ref ((xn X 157 q_43).2.2 149)), (9, .ref ((xn X 157 q_43).2.2 150)), (10, .ref ((xn X 157 q_43).2.2 151)), (11, .ref ((xn X 157 q_43).2.2 152)), (12, .int p12), (14, .int x14_3), (17, .int x17_16), (19, .int v_33), (20, .int v_35)] := hl
                  refine lv_astore (lv' := [(22, .ref ((xn X 157 q_43).2.2 157)), (21, .int v_37), (0, .ref ((xn X 157 q_43).2.2 142)), (1, .ref ((xn X 157 q_43).2.2 143)), (2, .ref ((xn X 157 q_43).2.2 144)), (3, .ref ((xn X 157 q_43).2.2 145)), (4, .ref ((xn X 157 q_43).2.2 146)), (5, .ref ((xn X 157 q_43).2.2 147)), (6, .ref ((xn X 157 q_43).2.2 148)), (7, .ref ((xn X 157 q_43).2.2 153)), (8, .ref ((xn X 157 q_43).2.2 149)), (9, .ref ((xn X 157 q_43).2.2 150)), (10, .ref ((xn X 157 q_43).2.2 151)), (11, .ref ((xn X 157 q_43).2.2 152)), (12, .int p12), (14, .int x14_3), (17, .int x17_16), (19, .int v_33), (20, .int v_35)]) hx hb dL_take_341 hl (by decide) rfl (fun ls hl => ?_)
                  refine lv_iconst (v := 0) hx hb dL_take_343 (by decide) ?_
                  refine lv_istore (lv' := [(23, .int 0), (22, .ref ((xn X 157 q_43).2.2 157)), (21, .int v_37), (0, .ref ((xn X 157 q_43).2.2 142)), (1, .ref ((xn X 157 q_43).2.2 143)), (2, .ref ((xn X 157 q_43).2.2 144)), (3, .ref ((xn X 157 q_43).2.2 145)), (4, .ref ((xn X 157 q_43).2.2 146)), (5, .ref ((xn X 157 q_43).2.2 147)), (6, .ref ((xn X 157 q_43).2.2 148)), (7, .ref ((xn X 157 q_43).2.2 153)), (8, .ref ((xn X 157 q_43).2.2 149)), (9, .ref ((xn X 157 q_43).2.2 150)), (10, .ref ((xn X 157 q_43).2.2 151)), (11, .ref ((xn X 157 q_43).2.2 152)), (12, .int p12), (14, .int x14_3), (17, .int x17_16), (19, .int v_33), (20, .int v_35)]) hx hb dL_take_344 hl (by decide) rfl (fun ls hl => ?_)
                  refine lv_sipush (v := (-999)) hx hb dL_take_346 (by decide) ?_
                  refine lv_istore (lv' := [(24, .int (-999)), (23, .int 0), (22, .ref ((xn X 157 q_43).2.2 157)), (21, .int v_37), (0, .ref ((xn X 157 q_43).2.2 142)), (1, .ref ((xn X 157 q_43).2.2 143)), (2, .ref ((xn X 157 q_43).2.2 144)), (3, .ref ((xn X 157 q_43).2.2 145)), (4, .ref ((xn X 157 q_43).2.2 146)), (5, .ref ((xn X 157 q_43).2.2 147)), (6, .ref ((xn X 157 q_43).2.2 148)), (7, .ref ((xn X 157 q_43).2.2 153)), (8, .ref ((xn X 157 q_43).2.2 149)), (9, .ref ((xn X 157 q_43).2.2 150)), (10, .ref ((xn X 157 q_43).2.2 151)), (11, .ref ((xn X 157 q_43).2.2 152)), (12, .int p12), (14, .int x14_3), (17, .int x17_16), (19, .int v_33), (20, .int v_35)]) hx hb dL_take_349 hl (by decide) rfl (fun ls hl => ?_)
                  refine jn_e hf (fun kk => ∀ (x23_47 : Int32) (M_48 : Mem) (H : Heap) (locs : List Loc) (ls : Array Slot), HW (LW [(20, 10)]) (xn X 157 q_43) M_48 s H locs → lv_has ls 27 [(0, .ref ((xn X 157 q_43).2.2 142)), (1, .ref ((xn X 157 q_43).2.2 143)), (2, .ref ((xn X 157 q_43).2.2 144)), (3, .ref ((xn X 157 q_43).2.2 145)), (4, .ref ((xn X 157 q_43).2.2 146)), (5, .ref ((xn X 157 q_43).2.2 147)), (6, .ref ((xn X 157 q_43).2.2 148)), (7, .ref ((xn X 157 q_43).2.2 153)), (8, .ref ((xn X 157 q_43).2.2 149)), (9, .ref ((xn X 157 q_43).2.2 150)), (10, .ref ((xn X 157 q_43).2.2 151)), (11, .ref ((xn X 157 q_43).2.2 152)), (12, .int p12), (14, .int x14_3), (17, .int x17_16), (19, .int v_33), (22, .ref ((xn X 157 q_43).2.2 157)), (23, .int x23_47)] → kk x23_47 M_48 = some rs → W p l e rm_L_take s m args below meth c H locs 2 12 Q (F0 m 458 ls [])) ?_ (fun k458_46 J458_46 hf => ?_)
                  · intro x23_47 M_48 H locs ls hw hl hf
                    refine lv_iload hx hb dL_take_458 (lv_at hl 17 rfl) ?_
                    refine lv_iconst (v := 3) hx hb dL_take_460 (by decide) ?_
                    refine lv_iadd hx hb dL_take_461 ?_
                    refine lv_iconst (v := 4) hx hb dL_take_462 (by decide) ?_
                    refine lv_idiv hx hb dL_take_463 (by decide) ?_
                    refine lv_iload hx hb dL_take_464 (lv_at hl 13 rfl) ?_
                    refine q_callSi (M' := M_48) (As := [.int x14_3]) (rest := [.int ((x23_47 + 3) / 4)]) B hw (c_L_fee l _ (xn X 157 q_43) x14_3 _ rfl M_48 _) cs_L_222 rfl hl.1 rfl rfl ⟨(Nat.le_of_ble_eq_true rfl), (Nat.le_of_ble_eq_true rfl)⟩ (Nat.le_of_ble_eq_true rfl) ⟨(Nat.le_of_ble_eq_true rfl), (Nat.le_of_ble_eq_true rfl)⟩ dL_take_466 rfl (fun H locs hw => ?_)
                    refine lv_imul hx hb dL_take_469 ?_
                    refine lv_iload hx hb dL_take_470 (lv_at hl 17 rfl) ?_
                    refine lv_iload hx hb dL_take_472 (lv_at hl 13 rfl) ?_
                    refine q_callSi (M' := M_48) (As := [.int x14_3]) (rest := [.int x23_47, .int (((x23_47 + 3) / 4) * (f_L_fee x14_3))]) B hw (c_L_freight l _ (xn X 157 q_43) x14_3 _ rfl M_48 _) cs_L_233 rfl hl.1 rfl rfl ⟨(Nat.le_of_ble_eq_true rfl), (Nat.le_of_ble_eq_true rfl)⟩ (Nat.le_of_ble_eq_true rfl) ⟨(Nat.le_of_ble_eq_true rfl), (Nat.le_of_ble_eq_true rfl)⟩ dL_take_474 rfl (fun H locs hw => ?_)
                    refine lv_imul hx hb dL_take_477 ?_
                    refine lv_iadd hx hb dL_take_478 ?_
                    refine lv_iload hx hb dL_take_479 (lv_at hl 14 rfl) ?_
                    refine lv_icmp_ge (tgt := 518) hx hb dL_take_481 (by decide) (fun c_51 => ?_) (fun c_51 => ?_)
                    · have hf := it_e hf c_51
                      obtain ⟨g_52, hf⟩ := grd_e hf
                      have hw := w_drop (ex := []) (k := (20, 10)) hq_43 rfl rfl g_52 hw
                      exact J518_17 M_48 _ _ _ hw (lv_sub hl [0, 1, 2, 3, 4, 5, 6, 7, 8, 9, 10, 11, 12] rfl) hf
                    · have hf := ie_e hf c_51
                      refine lv_aload_n hx hb dL_take_484 rfl (lv_at hl 0 rfl) ?_
                      refine lv_aload_n hx hb dL_take_485 rfl (lv_at hl 1 rfl) ?_
                      refine lv_aload_n hx hb dL_take_486 rfl (lv_at hl 2 rfl) ?_
                      refine lv_aload_n hx hb dL_take_487 rfl (lv_at hl 3 rfl) ?_
                      refine lv_aload hx hb dL_take_488 (lv_at hl 4 rfl) ?_
                      refine lv_aload hx hb dL_take_490 (lv_at hl 5 rfl) ?_
                      refine lv_aload hx hb dL_take_492 (lv_at hl 6 rfl) ?_
                      refine lv_aload hx hb dL_take_494 (lv_at hl 7 rfl) ?_
                      refine lv_aload hx hb dL_take_496 (lv_at hl 8 rfl) ?_
                      refine lv_aload hx hb dL_take_498 (lv_at hl 9 rfl) ?_
                      refine lv_aload hx hb dL_take_500 (lv_at hl 10 rfl) ?_
                      refine lv_aload hx hb dL_take_502 (lv_at hl 11 rfl) ?_
                      refine lv_aload hx hb dL_take_504 (lv_at hl 16 rfl) ?_
                      refine lv_iload hx hb dL_take_506 (lv_at hl 17 rfl) ?_
                      refine lv_iload hx hb dL_take_508 (lv_at hl 12 rfl) ?_
                      refine lv_iload hx hb dL_take_510 (lv_at hl 15 rfl) ?_
                      refine lv_iload hx hb dL_take_512 (lv_at hl 14 rfl) ?_
                      obtain ⟨M_54, h_53, hf⟩ := bd_e hf
                      refine q_callSv (M' := M_54) (As := [.ref ((xn X 157 q_43).2.2 142), .ref ((xn X 157 q_43).2.2 143), .ref ((xn X 157 q_43).2.2 144), .ref ((xn X 157 q_43).2.2 145), .ref ((xn X 157 q_43).2.2 146), .ref ((xn X 157 q_43).2.2 147), .ref ((xn X 157 q_43).2.2 148), .ref ((xn X 157 q_43).2.2 153), .ref ((xn X 157 q_43).2.2 149), .ref ((xn X 157 q_43).2.2 150), .ref ((xn X 157 q_43).2.2 151), .ref ((xn X 157 q_43).2.2 152), .ref ((xn X 157 q_43).2.2 157), .int x23_47, .int p12, .int v_33, .int x17_16]) (rest := []) B hw (c_L_bind l (xn X 157 q_43) fu x23_47 p12 v_33 x17_16 M_48 M_54 h_53 _) cs_L_263 rfl hl.1 rfl rfl ⟨(Nat.le_of_ble_eq_true rfl), (Nat.le_of_ble_eq_true rfl)⟩ (Nat.le_of_ble_eq_true rfl) ⟨(Nat.le_of_ble_eq_true rfl), (Nat.le_of_ble_eq_true rfl)⟩ dL_take_514 rfl (fun H locs hw => ?_)
                      obtain ⟨g_55, hf⟩ := grd_e hf
                      have hw := w_drop (ex := []) (k := (20, 10)) hq_43 rfl rfl g_55 hw
                      cases hf
                      subst hQ
                      exact q_vret B0 hr hlk hw rfl dL_take_517
                  have hL_351 : ∀ (n_351 : Nat) (x23_56 : Int32) (x24_57 : Int32) (M_58 : Mem) (H : Heap) (locs : List Loc) (ls : Array Slot), HW (LW [(20, 10)]) (xn X 157 q_43) M_58 s H locs → lv_has ls 27 [(0, .ref ((xn X 157 q_43).2.2 142)), (1, .ref ((xn X 157 q_43).2.2 143)), (2, .ref ((xn X 157 q_43).2.2 144)), (3, .ref ((xn X 157 q_43).2.2 145)), (4, .ref ((xn X 157 q_43).2.2 146)), (5, .ref ((xn X 157 q_43).2.2 147)), (6, .ref ((xn X 157 q_43).2.2 148)), (7, .ref ((xn X 157 q_43).2.2 153)), (8, .ref ((xn X 157 q_43).2.2 149)), (9, .ref ((xn X 157 q_43).2.2 150)), (10, .ref ((xn X 157 q_43).2.2 151)), (11, .ref ((xn X 157 q_43).2.2 152)), (12, .int p12), (14, .int x14_3), (17, .int x17_16), (19, .int v_33), (20, .int v_35), (21, .int v_37), (22, .ref ((xn X 157 q_43).2.2 157)), (23, .int x23_56), (24, .int x24_57)] → f_L_take_L351 fu v_35 v_37 k458_46 n_351 x23_56 x24_57 M_58 = some rs → W p l e rm_L_take s m args below meth c H locs 2 12 Q (F0 m 351 ls []) := by
                    intro n_351
                    induction n_351 with
                    | zero => intro x23_56 x24_57 M_58 H locs ls hw hl hf; exact no_none hf
                    | succ n_351 ih_351 =>
                      intro x23_56 x24_57 M_58 H locs ls hw hl hf
                      rw [f_L_take_L351] at hf
                      refine lv_iload hx hb dL_take_351 (lv_at hl 20 rfl) ?_
                      refine lv_sipush (v := 1000) hx hb dL_take_353 (by decide) ?_
                      refine lv_icmp_ge (tgt := 458) hx hb dL_take_356 (by decide) (fun c_59 => ?_) (fun c_59 => ?_)
                      · have hf := it_e hf c_59
                        exact J458_46 x23_56 M_58 _ _ _ hw (lv_sub hl [0, 1, 2, 3, 4, 5, 6, 7, 8, 9, 10, 11, 12, 13, 14, 15, 18, 19] rfl) hf
                      · have hf := ie_e hf c_59
                        refine lv_iconst (v := 0) hx hb dL_take_359 (by decide) ?_
                        refine lv_istore (lv' := [(25, .int 0), (0, .ref ((xn X 157 q_43).2.2 142)), (1, .ref ((xn X 157 q_43).2.2 143)), (2, .ref ((xn X 157 q_43).2.2 144)), (3, .ref ((xn X 157 q_43).2.2 145)), (4, .ref ((xn X 157 q_43).2.2 146)), (5, .ref ((xn X 157 q_43).2.2 147)), (6, .ref ((xn X 157 q_43).2.2 148)), (7, .ref ((xn X 157 q_43).2.2 153)), (8, .ref ((xn X 157 q_43).2.2 149)), (9, .ref ((xn X 157 q_43).2.2 150)), (10, .ref ((xn X 157 q_43).2.2 151)), (11, .ref ((xn X 157 q_43).2.2 152)), (12, .int p12), (14, .int x14_3), (17, .int x17_16), (19, .int v_33), (20, .int v_35), (21, .int v_37), (22, .ref ((xn X 157 q_43).2.2 157)), (23, .int x23_56), (24, .int x24_57)]) hx hb dL_take_360 hl (by decide) rfl (fun ls hl => ?_)
                        refine lv_iconst (v := 0) hx hb dL_take_362 (by decide) ?_
                        refine lv_istore (lv' := [(26, .int 0), (25, .int 0), (0, .ref ((xn X 157 q_43).2.2 142)), (1, .ref ((xn X 157 q_43).2.2 143)), (2, .ref ((xn X 157 q_43).2.2 144)), (3, .ref ((xn X 157 q_43).2.2 145)), (4, .ref ((xn X 157 q_43).2.2 146)), (5, .ref ((xn X 157 q_43).2.2 147)), (6, .ref ((xn X 157 q_43).2.2 148)), (7, .ref ((xn X 157 q_43).2.2 153)), (8, .ref ((xn X 157 q_43).2.2 149)), (9, .ref ((xn X 157 q_43).2.2 150)), (10, .ref ((xn X 157 q_43).2.2 151)), (11, .ref ((xn X 157 q_43).2.2 152)), (12, .int p12), (14, .int x14_3), (17, .int x17_16), (19, .int v_33), (20, .int v_35), (21, .int v_37), (22, .ref ((xn X 157 q_43).2.2 157)), (23, .int x23_56), (24, .int x24_57)]) hx hb dL_take_363 hl (by decide) rfl (fun ls hl => ?_)
                        refine jn_e hf (fun kk => ∀ (x25_61 : Int32) (H : Heap) (locs : List Loc) (ls : Array Slot), HW (LW [(20, 10)]) (xn X 157 q_43) M_58 s H locs → lv_has ls 27 [(0, .ref ((xn X 157 q_43).2.2 142)), (1, .ref ((xn X 157 q_43).2.2 143)), (2, .ref ((xn X 157 q_43).2.2 144)), (3, .ref ((xn X 157 q_43).2.2 145)), (4, .ref ((xn X 157 q_43).2.2 146)), (5, .ref ((xn X 157 q_43).2.2 147)), (6, .ref ((xn X 157 q_43).2.2 148)), (7, .ref ((xn X 157 q_43).2.2 153)), (8, .ref ((xn X 157 q_43).2.2 149)), (9, .ref ((xn X 157 q_43).2.2 150)), (10, .ref ((xn X 157 q_43).2.2 151)), (11, .ref ((xn X 157 q_43).2.2 152)), (12, .int p12), (14, .int x14_3), (17, .int x17_16), (19, .int v_33), (20, .int v_35), (21, .int v_37), (22, .ref ((xn X 157 q_43).2.2 157)), (23, .int x23_56), (24, .int x24_57), (25, .int x25_61)] → kk x25_61 = some rs → W p l e rm_L_take s m args below meth c H locs 2 12 Q (F0 m 434 ls [])) ?_ (fun k434_60 J434_60 hf => ?_)
                        · intro x25_61 H locs ls hw hl hf
                          refine lv_iload hx hb dL_take_434 (lv_at hl 21 rfl) ?_
                          refine lv_if_ne (tgt := 442) hx hb dL_take_436 (by decide) (fun c_62 => ?_) (fun c_62 => ?_)
                          · have hf := ie_e hf c_62
                            refine lv_aload hx hb dL_take_442 (lv_at hl 18 rfl) ?_
                            refine lv_iload hx hb dL_take_444 (lv_at hl 19 rfl) ?_
                            refine lv_iload hx hb dL_take_446 (lv_at hl 20 rfl) ?_
                            obtain ⟨g_63, hf⟩ := grd_e hf
                            refine w_iast B hw (i := 157) rfl g_63 dL_take_448 hf (fun M_64 H locs hw hf => ?_)
                            refine r_iinc (v := (x23_56 + 1)) hx hb dL_take_449 hl (k := 19) rfl rfl (by decide) hf (fun x23_65 ls hl hf => ?_)
                            have hl : lv_has ls 27 [(23, .int x23_65), (0, .ref ((xn X 157 q_43).2.2 142)), (1, .ref ((xn X 157 q_43).2.2 143)), (2, .ref ((xn X 157 q_43).2.2 144)), (3, .ref ((xn X 157 q_43).2.2 145)), (4, .ref ((xn X 157 q_43).2.2 146)), (5, .ref ((xn X 157 q_43).2.2 147)), (6, .ref ((xn X 157 q_43).2.2 148)), (7, .ref ((xn X 157 q_43).2.2 153)), (8, .ref ((xn X 157 q_43).2.2 149)), (9, .ref ((xn X 157 q_43).2.2 150)), (10, .ref ((xn X 157 q_43).2.2 151)), (11, .ref ((xn X 157 q_43).2.2 152)), (12, .int p12), (14, .int x14_3), (17, .int x17_16), (19, .int v_33), (20, .int v_35), (21, .int v_37), (22, .ref ((xn X 157 q_43).2.2 157)), (24, .int x24_57), (25, .int x25_61)] := hl
                            refine r_iinc (v := (x24_57 + 1)) hx hb dL_take_452 hl (k := 20) rfl rfl (by decide) hf (fun x24_66 ls hl hf => ?_)
                            have hl : lv_has ls 27 [(24, .int x24_66), (23, .int x23_65), (0, .ref ((xn X 157 q_43).2.2 142)), (1, .ref ((xn X 157 q_43).2.2 143)), (2, .ref ((xn X 157 q_43).2.2 144)), (3, .ref ((xn X 157 q_43).2.2 145)), (4, .ref ((xn X 157 q_43).2.2 146)), (5, .ref ((xn X 157 q_43).2.2 147)), (6, .ref ((xn X 157 q_43).2.2 148)), (7, .ref ((xn X 157 q_43).2.2 153)), (8, .ref ((xn X 157 q_43).2.2 149)), (9, .ref ((xn X 157 q_43).2.2 150)), (10, .ref ((xn X 157 q_43).2.2 151)), (11, .ref ((xn X 157 q_43).2.2 152)), (12, .int p12), (14, .int x14_3), (17, .int x17_16), (19, .int v_33), (20, .int v_35), (21, .int v_37), (22, .ref ((xn X 157 q_43).2.2 157)), (25, .int x25_61)] := hl
                            refine lv_goto (tgt := 351) hx hb dL_take_455 (by decide) ?_
                            exact ih_351 x23_65 x24_66 M_64 _ _ _ hw (lv_sub hl [2, 3, 4, 5, 6, 7, 8, 9, 10, 11, 12, 13, 14, 15, 16, 17, 18, 19, 20, 1, 0] rfl) hf
                          · have hf := it_e hf c_62
                            refine lv_goto (tgt := 452) hx hb dL_take_439 (by decide) ?_
                            refine r_iinc (v := (x24_57 + 1)) hx hb dL_take_452 hl (k := 20) rfl rfl (by decide) hf (fun x24_67 ls hl hf => ?_)
                            have hl : lv_has ls 27 [(24, .int x24_67), (0, .ref ((xn X 157 q_43).2.2 142)), (1, .ref ((xn X 157 q_43).2.2 143)), (2, .ref ((xn X 157 q_43).2.2 144)), (3, .ref ((xn X 157 q_43).2.2 145)), (4, .ref ((xn X 157 q_43).2.2 146)), (5, .ref ((xn X 157 q_43).2.2 147)), (6, .ref ((xn X 157 q_43).2.2 148)), (7, .ref ((xn X 157 q_43).2.2 153)), (8, .ref ((xn X 157 q_43).2.2 149)), (9, .ref ((xn X 157 q_43).2.2 150)), (10, .ref ((xn X 157 q_43).2.2 151)), (11, .ref ((xn X 157 q_43).2.2 152)), (12, .int p12), (14, .int x14_3), (17, .int x17_16), (19, .int v_33), (20, .int v_35), (21, .int v_37), (22, .ref ((xn X 157 q_43).2.2 157)), (23, .int x23_56), (25, .int x25_61)] := hl
                            refine lv_goto (tgt := 351) hx hb dL_take_455 (by decide) ?_
                            exact ih_351 x23_56 x24_67 M_58 _ _ _ hw (lv_sub hl [1, 2, 3, 4, 5, 6, 7, 8, 9, 10, 11, 12, 13, 14, 15, 16, 17, 18, 19, 20, 0] rfl) hf
                        have hL_365 : ∀ (n_365 : Nat) (x25_68 : Int32) (x26_69 : Int32) (H : Heap) (locs : List Loc) (ls : Array Slot), HW (LW [(20, 10)]) (xn X 157 q_43) M_58 s H locs → lv_has ls 27 [(0, .ref ((xn X 157 q_43).2.2 142)), (1, .ref ((xn X 157 q_43).2.2 143)), (2, .ref ((xn X 157 q_43).2.2 144)), (3, .ref ((xn X 157 q_43).2.2 145)), (4, .ref ((xn X 157 q_43).2.2 146)), (5, .ref ((xn X 157 q_43).2.2 147)), (6, .ref ((xn X 157 q_43).2.2 148)), (7, .ref ((xn X 157 q_43).2.2 153)), (8, .ref ((xn X 157 q_43).2.2 149)), (9, .ref ((xn X 157 q_43).2.2 150)), (10, .ref ((xn X 157 q_43).2.2 151)), (11, .ref ((xn X 157 q_43).2.2 152)), (12, .int p12), (14, .int x14_3), (17, .int x17_16), (19, .int v_33), (20, .int v_35), (21, .int v_37), (22, .ref ((xn X 157 q_43).2.2 157)), (23, .int x23_56), (24, .int x24_57), (25, .int x25_68), (26, .int x26_69)] → f_L_take_L365 fu v_35 v_37 x24_57 M_58 k434_60 n_365 x25_68 x26_69 = some rs → W p l e rm_L_take s m args below meth c H locs 2 12 Q (F0 m 365 ls []) := by
                          intro n_365
                          induction n_365 with
                          | zero => intro x25_68 x26_69 H locs ls hw hl hf; exact no_none hf
                          | succ n_365 ih_365 =>
                            intro x25_68 x26_69 H locs ls hw hl hf
                            rw [f_L_take_L365] at hf
                            refine lv_iload hx hb dL_take_365 (lv_at hl 22 rfl) ?_
                            refine lv_aload hx hb dL_take_367 (lv_at hl 9 rfl) ?_
                            refine lv_iload hx hb dL_take_369 (lv_at hl 16 rfl) ?_
                            obtain ⟨g_70, hf⟩ := grd_e hf
                            refine w_iald B hw (i := 150) (kw150 _) g_70 dL_take_371 ?_
                            refine lv_icmp_ge (tgt := 434) hx hb dL_take_372 (by decide) (fun c_71 => ?_) (fun c_71 => ?_)
                            · have hf := it_e hf c_71
                              exact J434_60 x25_68 _ _ _ hw (lv_sub hl [0, 1, 2, 3, 4, 5, 6, 7, 8, 9, 10, 11, 12, 13, 14, 15, 16, 17, 18, 19, 20, 21] rfl) hf
                            · have hf := ie_e hf c_71
                              refine lv_iload hx hb dL_take_375 (lv_at hl 21 rfl) ?_
                              refine lv_aload hx hb dL_take_377 (lv_at hl 8 rfl) ?_
                              refine lv_bipush (v := 10) hx hb dL_take_379 (by decide) ?_
                              refine lv_iload hx hb dL_take_381 (lv_at hl 16 rfl) ?_
                              refine lv_imul hx hb dL_take_383 ?_
                              refine lv_iload hx hb dL_take_384 (lv_at hl 22 rfl) ?_
                              refine lv_iadd hx hb dL_take_386 ?_
                              obtain ⟨g_72, hf⟩ := grd_e hf
                              refine w_lald B hw (i := 149) (kw149 _) g_72 dL_take_387 ?_
                              refine lv_iload hx hb dL_take_388 (lv_at hl 17 rfl) ?_
                              refine q_callSi (M' := M_58) (As := [.long (lg (M_58 149) ((10 * v_35) + x26_69).toNatClampNeg), .int v_37]) (rest := [.int x25_68]) B hw (c_L_at l _ (xn X 157 q_43) (lg (M_58 149) ((10 * v_35) + x26_69).toNatClampNeg) v_37 _ rfl M_58 _) cs_L_169 rfl hl.1 rfl rfl ⟨(Nat.le_of_ble_eq_true rfl), (Nat.le_of_ble_eq_true rfl)⟩ (Nat.le_of_ble_eq_true rfl) ⟨(Nat.le_of_ble_eq_true rfl), (Nat.le_of_ble_eq_true rfl)⟩ dL_take_390 rfl (fun H locs hw => ?_)
                              refine lv_iload hx hb dL_take_393 (lv_at hl 20 rfl) ?_
                              refine jn_e hf (fun kk => ∀ (v_75 : Int32) (H : Heap) (locs : List Loc) (ls : Array Slot), HW (LW [(20, 10)]) (xn X 157 q_43) M_58 s H locs → lv_has ls 27 [(0, .ref ((xn X 157 q_43).2.2 142)), (1, .ref ((xn X 157 q_43).2.2 143)), (2, .ref ((xn X 157 q_43).2.2 144)), (3, .ref ((xn X 157 q_43).2.2 145)), (4, .ref ((xn X 157 q_43).2.2 146)), (5, .ref ((xn X 157 q_43).2.2 147)), (6, .ref ((xn X 157 q_43).2.2 148)), (7, .ref ((xn X 157 q_43).2.2 153)), (8, .ref ((xn X 157 q_43).2.2 149)), (9, .ref ((xn X 157 q_43).2.2 150)), (10, .ref ((xn X 157 q_43).2.2 151)), (11, .ref ((xn X 157 q_43).2.2 152)), (12, .int p12), (14, .int x14_3), (17, .int x17_16), (19, .int v_33), (20, .int v_35), (21, .int v_37), (22, .ref ((xn X 157 q_43).2.2 157)), (23, .int x23_56), (24, .int x24_57), (26, .int x26_69)] → kk v_75 = some rs → W p l e rm_L_take s m args below meth c H locs 2 12 Q (F0 m 425 ls [.int v_75, .int x25_68])) ?_ (fun k425_74 J425_74 hf => ?_)
                              · intro v_75 H locs ls hw hl hf
                                refine lv_ior hx hb dL_take_425 ?_
                                refine r_topn hf (fun x25_76 hf => ?_)
                                refine lv_istore (lv' := [(25, .int x25_76), (0, .ref ((xn X 157 q_43).2.2 142)), (1, .ref ((xn X 157 q_43).2.2 143)), (2, .ref ((xn X 157 q_43).2.2 144)), (3, .ref ((xn X 157 q_43).2.2 145)), (4, .ref ((xn X 157 q_43).2.2 146)), (5, .ref ((xn X 157 q_43).2.2 147)), (6, .ref ((xn X 157 q_43).2.2 148)), (7, .ref ((xn X 157 q_43).2.2 153)), (8, .ref ((xn X 157 q_43).2.2 149)), (9, .ref ((xn X 157 q_43).2.2 150)), (10, .ref ((xn X 157 q_43).2.2 151)), (11, .ref ((xn X 157 q_43).2.2 152)), (12, .int p12), (14, .int x14_3), (17, .int x17_16), (19, .int v_33), (20, .int v_35), (21, .int v_37), (22, .ref ((xn X 157 q_43).2.2 157)), (23, .int x23_56), (24, .int x24_57), (26, .int x26_69)]) hx hb dL_take_426 hl (by decide) rfl (fun ls hl => ?_)
                                refine r_iinc (v := (x26_69 + 1)) hx hb dL_take_428 hl (k := 22) rfl rfl (by decide) hf (fun x26_77 ls hl hf => ?_)
                                have hl : lv_has ls 27 [(26, .int x26_77), (25, .int x25_76), (0, .ref ((xn X 157 q_43).2.2 142)), (1, .ref ((xn X 157 q_43).2.2 143)), (2, .ref ((xn X 157 q_43).2.2 144)), (3, .ref ((xn X 157 q_43).2.2 145)), (4, .ref ((xn X 157 q_43).2.2 146)), (5, .ref ((xn X 157 q_43).2.2 147)), (6, .ref ((xn X 157 q_43).2.2 148)), (7, .ref ((xn X 157 q_43).2.2 153)), (8, .ref ((xn X 157 q_43).2.2 149)), (9, .ref ((xn X 157 q_43).2.2 150)), (10, .ref ((xn X 157 q_43).2.2 151)), (11, .ref ((xn X 157 q_43).2.2 152)), (12, .int p12), (14, .int x14_3), (17, .int x17_16), (19, .int v_33), (20, .int v_35), (21, .int v_37), (22, .ref ((xn X 157 q_43).2.2 157)), (23, .int x23_56), (24, .int x24_57)] := hl
                                refine lv_goto (tgt := 365) hx hb dL_take_431 (by decide) ?_
                                exact ih_365 x25_76 x26_77 _ _ _ hw (lv_sub hl [2, 3, 4, 5, 6, 7, 8, 9, 10, 11, 12, 13, 14, 15, 16, 17, 18, 19, 20, 21, 22, 1, 0] rfl) hf
                              refine jn_e hf (fun kk => ∀ (_ : Unit) (H : Heap) (locs : List Loc) (ls : Array Slot), HW (LW [(20, 10)]) (xn X 157 q_43) M_58 s H locs → lv_has ls 27 [(0, .ref ((xn X 157 q_43).2.2 142)), (1, .ref ((xn X 157 q_43).2.2 143)), (2, .ref ((xn X 157 q_43).2.2 144)), (3, .ref ((xn X 157 q_43).2.2 145)), (4, .ref ((xn X 157 q_43).2.2 146)), (5, .ref ((xn X 157 q_43).2.2 147)), (6, .ref ((xn X 157 q_43).2.2 148)), (7, .ref ((xn X 157 q_43).2.2 153)), (8, .ref ((xn X 157 q_43).2.2 149)), (9, .ref ((xn X 157 q_43).2.2 150)), (10, .ref ((xn X 157 q_43).2.2 151)), (11, .ref ((xn X 157 q_43).2.2 152)), (12, .int p12), (14, .int x14_3), (17, .int x17_16), (19, .int v_33), (20, .int v_35), (21, .int v_37), (22, .ref ((xn X 157 q_43).2.2 157)), (23, .int x23_56), (24, .int x24_57), (26, .int x26_69)] → kk () = some rs → W p l e rm_L_take s m args below meth c H locs 2 12 Q (F0 m 424 ls [.int x25_68])) ?_ (fun k424_78 J424_78 hf => ?_)
                              · intro _ H locs ls hw hl hf
                                refine lv_iconst (v := 0) hx hb dL_take_424 (by decide) ?_
                                exact J425_74 0 _ _ _ hw (lv_sub hl [0, 1, 2, 3, 4, 5, 6, 7, 8, 9, 10, 11, 12, 13, 14, 15, 16, 17, 18, 19, 20, 21] rfl) hf
                              refine lv_icmp_ne (tgt := 424) hx hb dL_take_395 (by decide) (fun c_79 => ?_) (fun c_79 => ?_)
                              · have hf := ie_e hf c_79
                                exact J424_78 () _ _ _ hw (lv_sub hl [0, 1, 2, 3, 4, 5, 6, 7, 8, 9, 10, 11, 12, 13, 14, 15, 16, 17, 18, 19, 20, 22] rfl) hf
                              · have hf := it_e hf c_79
                                refine lv_aload hx hb dL_take_398 (lv_at hl 4 rfl) ?_
                                refine lv_iload hx hb dL_take_400 (lv_at hl 16 rfl) ?_
                                refine lv_aload hx hb dL_take_402 (lv_at hl 8 rfl) ?_
                                refine lv_bipush (v := 10) hx hb dL_take_404 (by decide) ?_
                                refine lv_iload hx hb dL_take_406 (lv_at hl 16 rfl) ?_
                                refine lv_imul hx hb dL_take_408 ?_
                                refine lv_iload hx hb dL_take_409 (lv_at hl 22 rfl) ?_
                                refine lv_iadd hx hb dL_take_411 ?_
                                refine w_lald B hw (i := 149) (kw149 _) g_72 dL_take_412 ?_
                                refine lv_iconst (v := 1) hx hb dL_take_413 (by decide) ?_
                                obtain ⟨r_81, h_80, hf⟩ := bd_e hf
                                refine q_callSi (M' := M_58) (As := [.ref ((xn X 157 q_43).2.2 146), .int v_35, .long (lg (M_58 149) ((10 * v_35) + x26_69).toNatClampNeg), .int 1]) (rest := [.int x25_68]) B hw (c_L_hold l _ (xn X 157 q_43) fu v_35 (lg (M_58 149) ((10 * v_35) + x26_69).toNatClampNeg) 1 M_58 r_81 h_80 _) cs_L_229 rfl hl.1 rfl rfl ⟨(Nat.le_of_ble_eq_true rfl), (Nat.le_of_ble_eq_true rfl)⟩ (Nat.le_of_ble_eq_true rfl) ⟨(Nat.le_of_ble_eq_true rfl), (Nat.le_of_ble_eq_true rfl)⟩ dL_take_414 rfl (fun H locs hw => ?_)
                                refine lv_if_eq (tgt := 424) hx hb dL_take_417 (by decide) (fun c_82 => ?_) (fun c_82 => ?_)
                                · have hf := it_e hf c_82
                                  exact J424_78 () _ _ _ hw (lv_sub hl [0, 1, 2, 3, 4, 5, 6, 7, 8, 9, 10, 11, 12, 13, 14, 15, 16, 17, 18, 19, 20, 22] rfl) hf
                                · have hf := ie_e hf c_82
                                  refine lv_iconst (v := 1) hx hb dL_take_420 (by decide) ?_
                                  refine lv_goto (tgt := 425) hx hb dL_take_421 (by decide) ?_
                                  exact J425_74 1 _ _ _ hw (lv_sub hl [0, 1, 2, 3, 4, 5, 6, 7, 8, 9, 10, 11, 12, 13, 14, 15, 16, 17, 18, 19, 20, 22] rfl) hf
                        exact hL_365 fu 0 0 _ _ _ hw (lv_sub hl [2, 3, 4, 5, 6, 7, 8, 9, 10, 11, 12, 13, 14, 15, 16, 17, 18, 19, 20, 21, 22, 1, 0] rfl) hf
                  exact hL_351 fu 0 (-999) M_44 _ _ _ hw (lv_sub hl [4, 5, 6, 7, 8, 9, 10, 11, 12, 13, 14, 15, 16, 17, 18, 19, 20, 3, 2, 1, 0] rfl) hf
            refine lv_if_eq (tgt := 292) hx hb dL_take_276 (by decide) (fun c_83 => ?_) (fun c_83 => ?_)
            · have hf := it_e hf c_83
              refine lv_aload hx hb dL_take_292 (lv_at hl 5 rfl) ?_
              refine lv_bipush (v := 10) hx hb dL_take_294 (by decide) ?_
              refine lv_iconst (v := 4) hx hb dL_take_296 (by decide) ?_
              refine lv_iload hx hb dL_take_297 (lv_at hl 15 rfl) ?_
              refine lv_imul hx hb dL_take_299 ?_
              refine lv_iadd hx hb dL_take_300 ?_
              obtain ⟨g_84, hf⟩ := grd_e hf
              refine w_iald B hw (i := 146) (kw146 _) g_84 dL_take_301 ?_
              exact J302_36 (M_9 146 (10 + (4 * r_11)).toNatClampNeg) _ _ _ hw (lv_sub hl [1, 2, 3, 4, 5, 6, 7, 8, 9, 10, 11, 12, 13, 14, 16, 18, 0] rfl) hf
            · have hf := ie_e hf c_83
              refine lv_aload hx hb dL_take_279 (lv_at hl 5 rfl) ?_
              refine lv_bipush (v := 12) hx hb dL_take_281 (by decide) ?_
              refine lv_iconst (v := 4) hx hb dL_take_283 (by decide) ?_
              refine lv_iload hx hb dL_take_284 (lv_at hl 15 rfl) ?_
              refine lv_imul hx hb dL_take_286 ?_
              refine lv_iadd hx hb dL_take_287 ?_
              obtain ⟨g_85, hf⟩ := grd_e hf
              refine w_iald B hw (i := 146) (kw146 _) g_85 dL_take_288 ?_
              refine lv_goto (tgt := 302) hx hb dL_take_289 (by decide) ?_
              exact J302_36 (M_9 146 (12 + (4 * r_11)).toNatClampNeg) _ _ _ hw (lv_sub hl [1, 2, 3, 4, 5, 6, 7, 8, 9, 10, 11, 12, 13, 14, 16, 18, 0] rfl) hf
          refine lv_if_eq (tgt := 262) hx hb dL_take_246 (by decide) (fun c_86 => ?_) (fun c_86 => ?_)
          · have hf := it_e hf c_86
            refine lv_aload hx hb dL_take_262 (lv_at hl 5 rfl) ?_
            refine lv_bipush (v := 9) hx hb dL_take_264 (by decide) ?_
            refine lv_iconst (v := 4) hx hb dL_take_266 (by decide) ?_
            refine lv_iload hx hb dL_take_267 (lv_at hl 15 rfl) ?_
            refine lv_imul hx hb dL_take_269 ?_
            refine lv_iadd hx hb dL_take_270 ?_
            refine w_iald B hw (i := 146) (kw146 _) g_29 dL_take_271 ?_
            exact J272_34 (M_9 146 (9 + (4 * r_11)).toNatClampNeg) _ _ _ hw (lv_sub hl [1, 2, 3, 4, 5, 6, 7, 8, 9, 10, 11, 12, 13, 14, 15, 16, 17, 0] rfl) hf
          · have hf := ie_e hf c_86
            refine lv_aload hx hb dL_take_249 (lv_at hl 5 rfl) ?_
            refine lv_bipush (v := 11) hx hb dL_take_251 (by decide) ?_
            refine lv_iconst (v := 4) hx hb dL_take_253 (by decide) ?_
            refine lv_iload hx hb dL_take_254 (lv_at hl 15 rfl) ?_
            refine lv_imul hx hb dL_take_256 ?_
            refine lv_iadd hx hb dL_take_257 ?_
            obtain ⟨g_87, hf⟩ := grd_e hf
            refine w_iald B hw (i := 146) (kw146 _) g_87 dL_take_258 ?_
            refine lv_goto (tgt := 272) hx hb dL_take_259 (by decide) ?_
            exact J272_34 (M_9 146 (11 + (4 * r_11)).toNatClampNeg) _ _ _ hw (lv_sub hl [1, 2, 3, 4, 5, 6, 7, 8, 9, 10, 11, 12, 13, 14, 15, 16, 17, 0] rfl) hf
        refine lv_if_eq (tgt := 232) hx hb dL_take_216 (by decide) (fun c_88 => ?_) (fun c_88 => ?_)
        · have hf := it_e hf c_88
          refine lv_aload hx hb dL_take_232 (lv_at hl 10 rfl) ?_
          refine lv_bipush (v := 12) hx hb dL_take_234 (by decide) ?_
          refine lv_iconst (v := 4) hx hb dL_take_236 (by decide) ?_
          refine lv_iload hx hb dL_take_237 (lv_at hl 2 rfl) ?_
          refine lv_imul hx hb dL_take_239 ?_
          refine lv_iadd hx hb dL_take_240 ?_
          obtain ⟨g_89, hf⟩ := grd_e hf
          refine w_iald B hw (i := 146) (kw146 _) g_89 dL_take_241 ?_
          exact J242_32 (M_9 146 (12 + (4 * r_11)).toNatClampNeg) _ _ _ hw (lv_sub hl [6, 7, 8, 9, 10, 11, 12, 13, 14, 15, 16, 17, 18, 4, 2, 1, 0] rfl) hf
        · have hf := ie_e hf c_88
          refine lv_aload hx hb dL_take_219 (lv_at hl 10 rfl) ?_
          refine lv_bipush (v := 10) hx hb dL_take_221 (by decide) ?_
          refine lv_iconst (v := 4) hx hb dL_take_223 (by decide) ?_
          refine lv_iload hx hb dL_take_224 (lv_at hl 2 rfl) ?_
          refine lv_imul hx hb dL_take_226 ?_
          refine lv_iadd hx hb dL_take_227 ?_
          obtain ⟨g_90, hf⟩ := grd_e hf
          refine w_iald B hw (i := 146) (kw146 _) g_90 dL_take_228 ?_
          refine lv_goto (tgt := 242) hx hb dL_take_229 (by decide) ?_
          exact J242_32 (M_9 146 (10 + (4 * r_11)).toNatClampNeg) _ _ _ hw (lv_sub hl [6, 7, 8, 9, 10, 11, 12, 13, 14, 15, 16, 17, 18, 4, 2, 1, 0] rfl) hf
  · have hf := ie_e hf c_7
    refine lv_aload hx hb dL_take_40 (lv_at hl 12 rfl) ?_
    refine lv_iload hx hb dL_take_42 (lv_at hl 15 rfl) ?_
    refine lv_aload hx hb dL_take_44 (lv_at hl 8 rfl) ?_
    refine lv_bipush (v := 8) hx hb dL_take_46 (by decide) ?_
    refine lv_iload hx hb dL_take_48 (lv_at hl 0 rfl) ?_
    refine lv_imul hx hb dL_take_50 ?_
    refine lv_iconst (v := 3) hx hb dL_take_51 (by decide) ?_
    refine lv_iadd hx hb dL_take_52 ?_
    obtain ⟨g_91, hf⟩ := grd_e hf
    refine w_iald B hw (i := 147) (kw147 _) g_91 dL_take_53 ?_
    obtain ⟨g_92, hf⟩ := grd_e hf
    refine w_iast B hw (i := 150) (kw150 _) g_92 dL_take_54 hf (fun M_93 H locs hw hf => ?_)
    refine lv_iconst (v := 0) hx hb dL_take_55 (by decide) ?_
    refine lv_istore (lv' := [(16, .int 0), (15, .int r_5), (14, .int x14_3), (13, .int x13_2), (0, .ref (X.2.2 142)), (1, .ref (X.2.2 143)), (2, .ref (X.2.2 144)), (3, .ref (X.2.2 145)), (4, .ref (X.2.2 146)), (5, .ref (X.2.2 147)), (6, .ref (X.2.2 148)), (7, .ref (X.2.2 153)), (8, .ref (X.2.2 149)), (9, .ref (X.2.2 150)), (10, .ref (X.2.2 151)), (11, .ref (X.2.2 152)), (12, .int p12)]) hx hb dL_take_56 hl (by decide) rfl (fun ls hl => ?_)
    refine jn_e hf (fun kk => ∀ (M_95 : Mem) (H : Heap) (locs : List Loc) (ls : Array Slot), HW (LW []) X M_95 s H locs → lv_has ls 27 [(2, .ref (X.2.2 144)), (5, .ref (X.2.2 147)), (10, .ref (X.2.2 151)), (11, .ref (X.2.2 152)), (12, .int p12), (13, .int x13_2), (15, .int r_5)] → kk M_95 = some rs → W p l e rm_L_take s m args below meth c H locs 0 0 Q (F0 m 96 ls [])) ?_ (fun k96_94 J96_94 hf => ?_)
    · intro M_95 H locs ls hw hl hf
      refine lv_aload hx hb dL_take_96 (lv_at hl 2 rfl) ?_
      refine lv_iconst (v := 4) hx hb dL_take_98 (by decide) ?_
      refine lv_iload hx hb dL_take_99 (lv_at hl 4 rfl) ?_
      refine lv_imul hx hb dL_take_101 ?_
      refine lv_iconst (v := 0) hx hb dL_take_102 (by decide) ?_
      obtain ⟨g_96, hf⟩ := grd_e hf
      refine w_iast B hw (i := 151) (kw151 _) g_96 dL_take_103 hf (fun M_97 H locs hw hf => ?_)
      refine lv_aload hx hb dL_take_104 (lv_at hl 2 rfl) ?_
      refine lv_iconst (v := 4) hx hb dL_take_106 (by decide) ?_
      refine lv_iload hx hb dL_take_107 (lv_at hl 4 rfl) ?_
      refine lv_imul hx hb dL_take_109 ?_
      refine lv_iconst (v := 1) hx hb dL_take_110 (by decide) ?_
      refine lv_iadd hx hb dL_take_111 ?_
      refine lv_iconst (v := 0) hx hb dL_take_112 (by decide) ?_
      obtain ⟨g_98, hf⟩ := grd_e hf
      refine w_iast B hw (i := 151) (kw151 _) g_98 dL_take_113 hf (fun M_99 H locs hw hf => ?_)
      refine lv_aload_n hx hb dL_take_114 rfl (lv_at hl 0 rfl) ?_
      refine lv_aload hx hb dL_take_115 (lv_at hl 2 rfl) ?_
      refine lv_aload hx hb dL_take_117 (lv_at hl 3 rfl) ?_
      refine lv_iload hx hb dL_take_119 (lv_at hl 4 rfl) ?_
      refine lv_iload hx hb dL_take_121 (lv_at hl 5 rfl) ?_
      refine lv_aload hx hb dL_take_123 (lv_at hl 1 rfl) ?_
      refine lv_bipush (v := 8) hx hb dL_take_125 (by decide) ?_
      refine lv_iload hx hb dL_take_127 (lv_at hl 6 rfl) ?_
      refine lv_imul hx hb dL_take_129 ?_
      refine lv_iconst (v := 2) hx hb dL_take_130 (by decide) ?_
      refine lv_iadd hx hb dL_take_131 ?_
      obtain ⟨g_100, hf⟩ := grd_e hf
      refine w_iald B hw (i := 147) (kw147 _) g_100 dL_take_132 ?_
      obtain ⟨M_102, h_101, hf⟩ := bd_e hf
      refine q_callSv (M' := M_102) (As := [.ref (X.2.2 144), .ref (X.2.2 151), .ref (X.2.2 152), .int p12, .int x13_2, .int (M_99 147 ((8 * r_5) + 2).toNatClampNeg)]) (rest := []) B hw (c_L_right l _ X fu p12 x13_2 (M_99 147 ((8 * r_5) + 2).toNatClampNeg) M_99 M_102 h_101 _) cs_L_252 rfl hl.1 rfl rfl ⟨(Nat.le_of_ble_eq_true rfl), (Nat.le_of_ble_eq_true rfl)⟩ (Nat.le_of_ble_eq_true rfl) ⟨(Nat.le_of_ble_eq_true rfl), (Nat.le_of_ble_eq_true rfl)⟩ dL_take_133 rfl (fun H locs hw => ?_)
      refine W.widen (k := 2) (n := 12) (by omega) (by omega) ?_
      cases hf
      subst hQ
      exact q_vret B0 hr hlk hw rfl dL_take_136
    have hL_58 : ∀ (n_58 : Nat) (x16_103 : Int32) (M_104 : Mem) (H : Heap) (locs : List Loc) (ls : Array Slot), HW (LW []) X M_104 s H locs → lv_has ls 27 [(2, .ref (X.2.2 144)), (5, .ref (X.2.2 147)), (6, .ref (X.2.2 148)), (8, .ref (X.2.2 149)), (9, .ref (X.2.2 150)), (10, .ref (X.2.2 151)), (11, .ref (X.2.2 152)), (12, .int p12), (13, .int x13_2), (15, .int r_5), (16, .int x16_103)] → f_L_take_L58 fu p12 r_5 k96_94 n_58 x16_103 M_104 = some rs → W p l e rm_L_take s m args below meth c H locs 0 0 Q (F0 m 58 ls []) := by
      intro n_58
      induction n_58 with
      | zero => intro x16_103 M_104 H locs ls hw hl hf; exact no_none hf
      | succ n_58 ih_58 =>
        intro x16_103 M_104 H locs ls hw hl hf
        rw [f_L_take_L58] at hf
        refine lv_iload hx hb dL_take_58 (lv_at hl 10 rfl) ?_
        refine lv_aload hx hb dL_take_60 (lv_at hl 4 rfl) ?_
        refine lv_iload hx hb dL_take_62 (lv_at hl 7 rfl) ?_
        obtain ⟨g_105, hf⟩ := grd_e hf
        refine w_iald B hw (i := 150) (kw150 _) g_105 dL_take_64 ?_
        refine lv_icmp_ge (tgt := 96) hx hb dL_take_65 (by decide) (fun c_106 => ?_) (fun c_106 => ?_)
        · have hf := it_e hf c_106
          exact J96_94 M_104 _ _ _ hw (lv_sub hl [0, 1, 5, 6, 7, 8, 9] rfl) hf
        · have hf := ie_e hf c_106
          refine lv_aload hx hb dL_take_68 (lv_at hl 3 rfl) ?_
          refine lv_bipush (v := 10) hx hb dL_take_70 (by decide) ?_
          refine lv_iload hx hb dL_take_72 (lv_at hl 7 rfl) ?_
          refine lv_imul hx hb dL_take_74 ?_
          refine lv_iload hx hb dL_take_75 (lv_at hl 10 rfl) ?_
          refine lv_iadd hx hb dL_take_77 ?_
          refine lv_aload hx hb dL_take_78 (lv_at hl 2 rfl) ?_
          refine lv_bipush (v := 10) hx hb dL_take_80 (by decide) ?_
          refine lv_iload hx hb dL_take_82 (lv_at hl 9 rfl) ?_
          refine lv_imul hx hb dL_take_84 ?_
          refine lv_iload hx hb dL_take_85 (lv_at hl 10 rfl) ?_
          refine lv_iadd hx hb dL_take_87 ?_
          obtain ⟨g_107, hf⟩ := grd_e hf
          refine w_lald B hw (i := 148) (kw148 _) g_107 dL_take_88 ?_
          obtain ⟨g_108, hf⟩ := grd_e hf
          refine w_last B hw (i := 149) (kw149 _) g_108 dL_take_89 hf (fun M_109 H locs hw hf => ?_)
          refine r_iinc (v := (x16_103 + 1)) hx hb dL_take_90 hl (k := 10) rfl rfl (by decide) hf (fun x16_110 ls hl hf => ?_)
          have hl : lv_has ls 27 [(16, .int x16_110), (2, .ref (X.2.2 144)), (5, .ref (X.2.2 147)), (6, .ref (X.2.2 148)), (8, .ref (X.2.2 149)), (9, .ref (X.2.2 150)), (10, .ref (X.2.2 151)), (11, .ref (X.2.2 152)), (12, .int p12), (13, .int x13_2), (15, .int r_5)] := hl
          refine lv_goto (tgt := 58) hx hb dL_take_93 (by decide) ?_
          exact ih_58 x16_110 M_109 _ _ _ hw (lv_sub hl [1, 2, 3, 4, 5, 6, 7, 8, 9, 10, 0] rfl) hf
    exact hL_58 fu 0 M_93 _ _ _ hw (lv_sub hl [6, 9, 10, 12, 13, 14, 15, 16, 3, 1, 0] rfl) hf
abbrev rm_L_seatCell : Room := { frames := 1, cells := 0, slots := 0, locals := 23 }
set_option maxRecDepth 100000 in
set_option maxHeartbeats 8000000 in
theorem c_L_seatCell (l : Launch) (ex : List (Nat × Nat)) (X : XT) (fu : Nat) (a1 : Nat) (p2 : Int32) (p3 : Int32) (p4 : Int32) (p5 : Int32) (p6 : Int32) (M : Mem) (ha1 : kW ex a1 = (24, 30)) (rs : Int32) (hf : f_L_seatCell fu a1 p2 p3 p4 p5 p6 M = some rs) (sz : Nat) : Met l yL_seatCell (wbig yL_seatCell cL_seatCell 7 (some .int)) rm_L_seatCell (va_Pc [.ref (X.2.2 146), .ref (X.2.2 a1), .int p2, .int p3, .int p4, .int p5, .int p6] (PW (LW ex) X M sz)) (QI (LW ex) X M rs sz) 0 0 (AX (LW ex) X sz) := by
  refine met_go (L := (LW ex)) (M := M) (by decide +kernel) (Nat.le_of_ble_eq_true rfl) ?_
  intro p e s m args below meth c hsz B hr hlk hw ls hl
  subst hsz
  have hx := B.hx
  have hb := B.hb
  have hl : lv_has ls 7 [(0, .ref (X.2.2 146)), (1, .ref (X.2.2 a1)), (2, .int p2), (3, .int p3), (4, .int p4), (5, .int p5), (6, .int p6)] := hl
  generalize hQ : MQ below _ args s 0 0 (AX (LW ex) X s.heap.size) = Q
  unfold f_L_seatCell at hf
  refine lv_aload_n hx hb dL_seatCell_0 rfl (lv_at hl 1 rfl) ?_
  refine lv_bipush (v := 10) hx hb dL_seatCell_1 (by decide) ?_
  refine lv_iload_n hx hb dL_seatCell_3 rfl (lv_at hl 2 rfl) ?_
  refine lv_imul hx hb dL_seatCell_4 ?_
  refine lv_iload_n hx hb dL_seatCell_5 rfl (lv_at hl 2 rfl) ?_
  refine nmv_e hf (fun kk => ∀ (H : Heap) (locs : List Loc), HW (LW ex) X M s H locs → W p l e rm_L_seatCell s m args below meth c H locs 0 0 Q (F0 m 26 ls [.int kk, .int (10 * p2), .ref (X.2.2 a1)])) (fun J => ?_) (fun v_3 hf H locs hw => ?_)
  · refine lv_if_ne (tgt := 14) hx hb dL_seatCell_6 (by decide) (fun c_1 => ?_) (fun c_1 => ?_)
    · rw [if_neg (show ¬ (p2 = 0) from c_1)] at J
      refine lv_iload_n hx hb dL_seatCell_14 rfl (lv_at hl 2 rfl) ?_
      refine lv_iconst (v := 1) hx hb dL_seatCell_15 (by decide) ?_
      refine lv_icmp_ne (tgt := 24) hx hb dL_seatCell_16 (by decide) (fun c_2 => ?_) (fun c_2 => ?_)
      · rw [if_neg (show ¬ (p2 = 1) from c_2)] at J
        refine lv_iload hx hb dL_seatCell_24 (lv_at hl 6 rfl) ?_
        exact J _ _ hw
      · rw [if_pos (show p2 = 1 from c_2)] at J
        refine lv_iload hx hb dL_seatCell_19 (lv_at hl 5 rfl) ?_
        refine lv_goto (tgt := 26) hx hb dL_seatCell_21 (by decide) ?_
        exact J _ _ hw
    · rw [if_pos (show p2 = 0 from c_1)] at J
      refine lv_iload hx hb dL_seatCell_9 (lv_at hl 4 rfl) ?_
      refine lv_goto (tgt := 26) hx hb dL_seatCell_11 (by decide) ?_
      exact J _ _ hw
  · refine lv_iadd hx hb dL_seatCell_26 ?_
    obtain ⟨g_4, hf⟩ := grd_e hf
    refine w_lald B hw (i := a1) ha1 g_4 dL_seatCell_27 ?_
    refine lv_iload_n hx hb dL_seatCell_28 rfl (lv_at hl 3 rfl) ?_
    refine q_callSi (M' := M) (As := [.long (lg (M a1) ((10 * p2) + v_3).toNatClampNeg), .int p3]) (rest := []) B hw (c_L_at l _ X (lg (M a1) ((10 * p2) + v_3).toNatClampNeg) p3 _ rfl M _) cs_L_169 rfl hl.1 rfl rfl ⟨(Nat.le_of_ble_eq_true rfl), (Nat.le_of_ble_eq_true rfl)⟩ (Nat.le_of_ble_eq_true rfl) ⟨(Nat.le_of_ble_eq_true rfl), (Nat.le_of_ble_eq_true rfl)⟩ dL_seatCell_29 rfl (fun H locs hw => ?_)
    cases hf
    subst hQ
    exact q_iret B hr hlk hw rfl rfl dL_seatCell_32
abbrev rm_L_linked : Room := { frames := 2, cells := 0, slots := 0, locals := 49 }
set_option maxRecDepth 100000 in
set_option maxHeartbeats 8000000 in
theorem c_L_linked (l : Launch) (ex : List (Nat × Nat)) (X : XT) (fu : Nat) (a1 : Nat) (p2 : Int32) (p3 : Int32) (p4 : Int32) (M : Mem) (ha1 : kW ex a1 = (24, 30)) (rs : Int32) (hf : f_L_linked fu a1 p2 p3 p4 M = some rs) (sz : Nat) : Met l yL_linked (wbig yL_linked cL_linked 7 (some .boolean)) rm_L_linked (va_Pc [.ref (X.2.2 146), .ref (X.2.2 a1), .int p2, .int p3, .int p4] (PW (LW ex) X M sz)) (QI (LW ex) X M rs sz) 0 0 (AX (LW ex) X sz) := by
  refine met_go (L := (LW ex)) (M := M) (by decide +kernel) (Nat.le_of_ble_eq_true rfl) ?_
  intro p e s m args below meth c hsz B hr hlk hw ls hl
  subst hsz
  have hx := B.hx
  have hb := B.hb
  have hl : lv_has ls 7 [(0, .ref (X.2.2 146)), (1, .ref (X.2.2 a1)), (2, .int p2), (3, .int p3), (4, .int p4)] := hl
  generalize hQ : MQ below _ args s 0 0 (AX (LW ex) X s.heap.size) = Q
  unfold f_L_linked at hf
  refine lv_iconst (v := 0) hx hb dL_linked_0 (by decide) ?_
  refine lv_istore (lv' := [(5, .int 0), (0, .ref (X.2.2 146)), (1, .ref (X.2.2 a1)), (2, .int p2), (3, .int p3), (4, .int p4)]) hx hb dL_linked_1 hl (by decide) rfl (fun ls hl => ?_)
  have hL_3 : ∀ (n_3 : Nat) (x5_1 : Int32) (H : Heap) (locs : List Loc) (ls : Array Slot), HW (LW ex) X M s H locs → lv_has ls 7 [(0, .ref (X.2.2 146)), (1, .ref (X.2.2 a1)), (2, .int p2), (3, .int p3), (4, .int p4), (5, .int x5_1)] → f_L_linked_L3 fu a1 p2 p3 p4 M n_3 x5_1 = some rs → W p l e rm_L_linked s m args below meth c H locs 0 0 Q (F0 m 3 ls []) := by
    intro n_3
    induction n_3 with
    | zero => intro x5_1 H locs ls hw hl hf; exact no_none hf
    | succ n_3 ih_3 =>
      intro x5_1 H locs ls hw hl hf
      rw [f_L_linked_L3] at hf
      refine lv_iload hx hb dL_linked_3 (lv_at hl 5 rfl) ?_
      refine lv_aload_n hx hb dL_linked_5 rfl (lv_at hl 0 rfl) ?_
      refine lv_iconst (v := 1) hx hb dL_linked_6 (by decide) ?_
      refine w_iald B hw (i := 146) (kw146 _) (by decide) dL_linked_7 ?_
      refine lv_icmp_ge (tgt := 88) hx hb dL_linked_8 (by decide) (fun c_2 => ?_) (fun c_2 => ?_)
      · have hf := it_e hf c_2
        refine lv_iconst (v := 1) hx hb dL_linked_88 (by decide) ?_
        cases hf
        subst hQ
        exact q_zret B hr hlk rfl hw rfl rfl dL_linked_89
      · have hf := ie_e hf c_2
        refine lv_aload_n hx hb dL_linked_11 rfl (lv_at hl 0 rfl) ?_
        refine lv_aload_n hx hb dL_linked_12 rfl (lv_at hl 1 rfl) ?_
        refine lv_aload_n hx hb dL_linked_13 rfl (lv_at hl 0 rfl) ?_
        refine lv_bipush (v := 9) hx hb dL_linked_14 (by decide) ?_
        refine lv_iconst (v := 4) hx hb dL_linked_16 (by decide) ?_
        refine lv_iload hx hb dL_linked_17 (lv_at hl 5 rfl) ?_
        refine lv_imul hx hb dL_linked_19 ?_
        refine lv_iadd hx hb dL_linked_20 ?_
        obtain ⟨g_3, hf⟩ := grd_e hf
        refine w_iald B hw (i := 146) (kw146 _) g_3 dL_linked_21 ?_
        refine lv_aload_n hx hb dL_linked_22 rfl (lv_at hl 0 rfl) ?_
        refine lv_bipush (v := 10) hx hb dL_linked_23 (by decide) ?_
        refine lv_iconst (v := 4) hx hb dL_linked_25 (by decide) ?_
        refine lv_iload hx hb dL_linked_26 (lv_at hl 5 rfl) ?_
        refine lv_imul hx hb dL_linked_28 ?_
        refine lv_iadd hx hb dL_linked_29 ?_
        obtain ⟨g_4, hf⟩ := grd_e hf
        refine w_iald B hw (i := 146) (kw146 _) g_4 dL_linked_30 ?_
        refine lv_iload_n hx hb dL_linked_31 rfl (lv_at hl 2 rfl) ?_
        refine lv_iload_n hx hb dL_linked_32 rfl (lv_at hl 3 rfl) ?_
        refine lv_iload hx hb dL_linked_33 (lv_at hl 4 rfl) ?_
        obtain ⟨r_6, h_5, hf⟩ := bd_e hf
        refine q_callSi (M' := M) (As := [.ref (X.2.2 146), .ref (X.2.2 a1), .int (M 146 (9 + (4 * x5_1)).toNatClampNeg), .int (M 146 (10 + (4 * x5_1)).toNatClampNeg), .int p2, .int p3, .int p4]) (rest := []) B hw (c_L_seatCell l _ X fu a1 (M 146 (9 + (4 * x5_1)).toNatClampNeg) (M 146 (10 + (4 * x5_1)).toNatClampNeg) p2 p3 p4 M ha1 r_6 h_5 _) cs_L_283 rfl hl.1 rfl rfl ⟨(Nat.le_of_ble_eq_true rfl), (Nat.le_of_ble_eq_true rfl)⟩ (Nat.le_of_ble_eq_true rfl) ⟨(Nat.le_of_ble_eq_true rfl), (Nat.le_of_ble_eq_true rfl)⟩ dL_linked_35 rfl (fun H locs hw => ?_)
        refine lv_istore (lv' := [(6, .int r_6), (0, .ref (X.2.2 146)), (1, .ref (X.2.2 a1)), (2, .int p2), (3, .int p3), (4, .int p4), (5, .int x5_1)]) hx hb dL_linked_38 hl (by decide) rfl (fun ls hl => ?_)
        refine lv_iload hx hb dL_linked_40 (lv_at hl 0 rfl) ?_
        refine q_callSi (M' := M) (As := [.int r_6]) (rest := []) B hw (c_L_isNumber l _ X r_6 _ rfl M _) cs_L_109 rfl hl.1 rfl rfl ⟨(Nat.le_of_ble_eq_true rfl), (Nat.le_of_ble_eq_true rfl)⟩ (Nat.le_of_ble_eq_true rfl) ⟨(Nat.le_of_ble_eq_true rfl), (Nat.le_of_ble_eq_true rfl)⟩ dL_linked_42 rfl (fun H locs hw => ?_)
        refine lv_if_eq (tgt := 80) hx hb dL_linked_45 (by decide) (fun c_8 => ?_) (fun c_8 => ?_)
        · have hf := it_e hf c_8
          refine lv_iconst (v := 0) hx hb dL_linked_80 (by decide) ?_
          cases hf
          subst hQ
          exact q_zret B hr hlk rfl hw rfl rfl dL_linked_81
        · have hf := ie_e hf c_8
          refine lv_iload hx hb dL_linked_48 (lv_at hl 0 rfl) ?_
          refine lv_aload_n hx hb dL_linked_50 rfl (lv_at hl 1 rfl) ?_
          refine lv_aload_n hx hb dL_linked_51 rfl (lv_at hl 2 rfl) ?_
          refine lv_aload_n hx hb dL_linked_52 rfl (lv_at hl 1 rfl) ?_
          refine lv_bipush (v := 11) hx hb dL_linked_53 (by decide) ?_
          refine lv_iconst (v := 4) hx hb dL_linked_55 (by decide) ?_
          refine lv_iload hx hb dL_linked_56 (lv_at hl 6 rfl) ?_
          refine lv_imul hx hb dL_linked_58 ?_
          refine lv_iadd hx hb dL_linked_59 ?_
          obtain ⟨g_9, hf⟩ := grd_e hf
          refine w_iald B hw (i := 146) (kw146 _) g_9 dL_linked_60 ?_
          refine lv_aload_n hx hb dL_linked_61 rfl (lv_at hl 1 rfl) ?_
          refine lv_bipush (v := 12) hx hb dL_linked_62 (by decide) ?_
          refine lv_iconst (v := 4) hx hb dL_linked_64 (by decide) ?_
          refine lv_iload hx hb dL_linked_65 (lv_at hl 6 rfl) ?_
          refine lv_imul hx hb dL_linked_67 ?_
          refine lv_iadd hx hb dL_linked_68 ?_
          obtain ⟨g_10, hf⟩ := grd_e hf
          refine w_iald B hw (i := 146) (kw146 _) g_10 dL_linked_69 ?_
          refine lv_iload_n hx hb dL_linked_70 rfl (lv_at hl 3 rfl) ?_
          refine lv_iload_n hx hb dL_linked_71 rfl (lv_at hl 4 rfl) ?_
          refine lv_iload hx hb dL_linked_72 (lv_at hl 5 rfl) ?_
          obtain ⟨r_12, h_11, hf⟩ := bd_e hf
          refine q_callSi (M' := M) (As := [.ref (X.2.2 146), .ref (X.2.2 a1), .int (M 146 (11 + (4 * x5_1)).toNatClampNeg), .int (M 146 (12 + (4 * x5_1)).toNatClampNeg), .int p2, .int p3, .int p4]) (rest := [.int r_6]) B hw (c_L_seatCell l _ X fu a1 (M 146 (11 + (4 * x5_1)).toNatClampNeg) (M 146 (12 + (4 * x5_1)).toNatClampNeg) p2 p3 p4 M ha1 r_12 h_11 _) cs_L_283 rfl hl.1 rfl rfl ⟨(Nat.le_of_ble_eq_true rfl), (Nat.le_of_ble_eq_true rfl)⟩ (Nat.le_of_ble_eq_true rfl) ⟨(Nat.le_of_ble_eq_true rfl), (Nat.le_of_ble_eq_true rfl)⟩ dL_linked_74 rfl (fun H locs hw => ?_)
          refine lv_icmp_eq (tgt := 82) hx hb dL_linked_77 (by decide) (fun c_13 => ?_) (fun c_13 => ?_)
          · have hf := it_e hf c_13
            refine r_iinc (v := (x5_1 + 1)) hx hb dL_linked_82 hl (k := 6) rfl rfl (by decide) hf (fun x5_14 ls hl hf => ?_)
            have hl : lv_has ls 7 [(5, .int x5_14), (6, .int r_6), (0, .ref (X.2.2 146)), (1, .ref (X.2.2 a1)), (2, .int p2), (3, .int p3), (4, .int p4)] := hl
            refine lv_goto (tgt := 3) hx hb dL_linked_85 (by decide) ?_
            exact ih_3 x5_14 _ _ _ hw (lv_sub hl [2, 3, 4, 5, 6, 0] rfl) hf
          · have hf := ie_e hf c_13
            refine lv_iconst (v := 0) hx hb dL_linked_80 (by decide) ?_
            cases hf
            subst hQ
            exact q_zret B hr hlk rfl hw rfl rfl dL_linked_81
  exact hL_3 fu 0 _ _ _ hw (lv_sub hl [1, 2, 3, 4, 5, 0] rfl) hf
abbrev rm_L_outOf : Room := { frames := 2, cells := 0, slots := 0, locals := 49 }
set_option maxRecDepth 100000 in
set_option maxHeartbeats 8000000 in
theorem c_L_outOf (l : Launch) (ex : List (Nat × Nat)) (X : XT) (fu : Nat) (a1 : Nat) (p2 : Int32) (p3 : Int32) (p4 : Int32) (p5 : Int32) (M : Mem) (ha1 : kW ex a1 = (24, 30)) (rs : Int32) (hf : f_L_outOf fu a1 p2 p3 p4 p5 M = some rs) (sz : Nat) : Met l yL_outOf (wbig yL_outOf cL_outOf 6 (some .int)) rm_L_outOf (va_Pc [.ref (X.2.2 146), .ref (X.2.2 a1), .int p2, .int p3, .int p4, .int p5] (PW (LW ex) X M sz)) (QI (LW ex) X M rs sz) 0 0 (AX (LW ex) X sz) := by
  refine met_go (L := (LW ex)) (M := M) (by decide +kernel) (Nat.le_of_ble_eq_true rfl) ?_
  intro p e s m args below meth c hsz B hr hlk hw ls hl
  subst hsz
  have hx := B.hx
  have hb := B.hb
  have hl : lv_has ls 6 [(0, .ref (X.2.2 146)), (1, .ref (X.2.2 a1)), (2, .int p2), (3, .int p3), (4, .int p4), (5, .int p5)] := hl
  generalize hQ : MQ below _ args s 0 0 (AX (LW ex) X s.heap.size) = Q
  unfold f_L_outOf at hf
  refine lv_aload_n hx hb dL_outOf_0 rfl (lv_at hl 0 rfl) ?_
  refine lv_aload_n hx hb dL_outOf_1 rfl (lv_at hl 1 rfl) ?_
  refine lv_aload_n hx hb dL_outOf_2 rfl (lv_at hl 0 rfl) ?_
  refine lv_bipush (v := 37) hx hb dL_outOf_3 (by decide) ?_
  refine lv_iconst (v := 2) hx hb dL_outOf_5 (by decide) ?_
  refine lv_iload_n hx hb dL_outOf_6 rfl (lv_at hl 2 rfl) ?_
  refine lv_imul hx hb dL_outOf_7 ?_
  refine lv_iadd hx hb dL_outOf_8 ?_
  obtain ⟨g_1, hf⟩ := grd_e hf
  refine w_iald B hw (i := 146) (kw146 _) g_1 dL_outOf_9 ?_
  refine lv_aload_n hx hb dL_outOf_10 rfl (lv_at hl 0 rfl) ?_
  refine lv_bipush (v := 38) hx hb dL_outOf_11 (by decide) ?_
  refine lv_iconst (v := 2) hx hb dL_outOf_13 (by decide) ?_
  refine lv_iload_n hx hb dL_outOf_14 rfl (lv_at hl 2 rfl) ?_
  refine lv_imul hx hb dL_outOf_15 ?_
  refine lv_iadd hx hb dL_outOf_16 ?_
  obtain ⟨g_2, hf⟩ := grd_e hf
  refine w_iald B hw (i := 146) (kw146 _) g_2 dL_outOf_17 ?_
  refine lv_iload_n hx hb dL_outOf_18 rfl (lv_at hl 3 rfl) ?_
  refine lv_iload hx hb dL_outOf_19 (lv_at hl 4 rfl) ?_
  refine lv_iload hx hb dL_outOf_21 (lv_at hl 5 rfl) ?_
  obtain ⟨r_4, h_3, hf⟩ := bd_e hf
  refine q_callSi (M' := M) (As := [.ref (X.2.2 146), .ref (X.2.2 a1), .int (M 146 (37 + (2 * p2)).toNatClampNeg), .int (M 146 (38 + (2 * p2)).toNatClampNeg), .int p3, .int p4, .int p5]) (rest := []) B hw (c_L_seatCell l _ X fu a1 (M 146 (37 + (2 * p2)).toNatClampNeg) (M 146 (38 + (2 * p2)).toNatClampNeg) p3 p4 p5 M ha1 r_4 h_3 _) cs_L_283 rfl hl.1 rfl rfl ⟨(Nat.le_of_ble_eq_true rfl), (Nat.le_of_ble_eq_true rfl)⟩ (Nat.le_of_ble_eq_true rfl) ⟨(Nat.le_of_ble_eq_true rfl), (Nat.le_of_ble_eq_true rfl)⟩ dL_outOf_23 rfl (fun H locs hw => ?_)
  cases hf
  subst hQ
  exact q_iret B hr hlk hw rfl rfl dL_outOf_26
abbrev rm_L_isAhead : Room := { frames := 0, cells := 0, slots := 0, locals := 0 }
set_option maxRecDepth 100000 in
set_option maxHeartbeats 8000000 in
theorem c_L_isAhead (l : Launch) (ex : List (Nat × Nat)) (X : XT) (p0 : Int32) (p1 : Int32)  (rs : Int32) (hf : f_L_isAhead p0 p1 = rs) (M : Mem) (sz : Nat) : Met l yL_isAhead (wbig yL_isAhead cL_isAhead 2 (some .boolean)) rm_L_isAhead (va_Pc [.int p0, .int p1] (PW (LW ex) X M sz)) (QI (LW ex) X M rs sz) 0 0 (AX (LW ex) X sz) := by
  refine met_go (L := (LW ex)) (M := M) (by decide +kernel) (Nat.le_of_ble_eq_true rfl) ?_
  intro p e s m args below meth c hsz B hr hlk hw ls hl
  subst hsz
  have hx := B.hx
  have hb := B.hb
  have hl : lv_has ls 2 [(0, .int p0), (1, .int p1)] := hl
  generalize hQ : MQ below _ args s 0 0 (AX (LW ex) X s.heap.size) = Q
  unfold f_L_isAhead at hf
  refine lv_iload_n hx hb dL_isAhead_0 rfl (lv_at hl 0 rfl) ?_
  refine lv_iload_n hx hb dL_isAhead_1 rfl (lv_at hl 1 rfl) ?_
  refine lv_icmp_eq (tgt := 12) hx hb dL_isAhead_2 (by decide) (fun c_1 => ?_) (fun c_1 => ?_)
  · have hf := it_e hf c_1
    refine lv_iconst (v := 0) hx hb dL_isAhead_12 (by decide) ?_
    subst hf
    subst hQ
    exact q_zret B hr hlk rfl hw rfl rfl dL_isAhead_13
  · have hf := ie_e hf c_1
    refine lv_iload_n hx hb dL_isAhead_5 rfl (lv_at hl 1 rfl) ?_
    refine lv_sipush (v := 5001) hx hb dL_isAhead_6 (by decide) ?_
    refine lv_icmp_ne (tgt := 14) hx hb dL_isAhead_9 (by decide) (fun c_2 => ?_) (fun c_2 => ?_)
    · have hf := ie_e hf c_2
      refine lv_iload_n hx hb dL_isAhead_14 rfl (lv_at hl 0 rfl) ?_
      refine lv_sipush (v := 5001) hx hb dL_isAhead_15 (by decide) ?_
      refine lv_icmp_eq (tgt := 40) hx hb dL_isAhead_18 (by decide) (fun c_3 => ?_) (fun c_3 => ?_)
      · have hf := it_e hf c_3
        refine lv_iconst (v := 1) hx hb dL_isAhead_40 (by decide) ?_
        refine lv_goto (tgt := 45) hx hb dL_isAhead_41 (by decide) ?_
        subst hf
        subst hQ
        exact q_zret B hr hlk rfl hw rfl rfl dL_isAhead_45
      · have hf := ie_e hf c_3
        refine lv_iload_n hx hb dL_isAhead_21 rfl (lv_at hl 1 rfl) ?_
        refine lv_sipush (v := 5000) hx hb dL_isAhead_22 (by decide) ?_
        refine lv_icmp_eq (tgt := 44) hx hb dL_isAhead_25 (by decide) (fun c_4 => ?_) (fun c_4 => ?_)
        · have hf := it_e hf c_4
          refine lv_iconst (v := 0) hx hb dL_isAhead_44 (by decide) ?_
          subst hf
          subst hQ
          exact q_zret B hr hlk rfl hw rfl rfl dL_isAhead_45
        · have hf := ie_e hf c_4
          refine lv_iload_n hx hb dL_isAhead_28 rfl (lv_at hl 0 rfl) ?_
          refine lv_sipush (v := 5000) hx hb dL_isAhead_29 (by decide) ?_
          refine lv_icmp_eq (tgt := 40) hx hb dL_isAhead_32 (by decide) (fun c_5 => ?_) (fun c_5 => ?_)
          · have hf := it_e hf c_5
            refine lv_iconst (v := 1) hx hb dL_isAhead_40 (by decide) ?_
            refine lv_goto (tgt := 45) hx hb dL_isAhead_41 (by decide) ?_
            subst hf
            subst hQ
            exact q_zret B hr hlk rfl hw rfl rfl dL_isAhead_45
          · have hf := ie_e hf c_5
            refine lv_iload_n hx hb dL_isAhead_35 rfl (lv_at hl 0 rfl) ?_
            refine lv_iload_n hx hb dL_isAhead_36 rfl (lv_at hl 1 rfl) ?_
            refine lv_icmp_ge (tgt := 44) hx hb dL_isAhead_37 (by decide) (fun c_6 => ?_) (fun c_6 => ?_)
            · have hf := it_e hf c_6
              refine lv_iconst (v := 0) hx hb dL_isAhead_44 (by decide) ?_
              subst hf
              subst hQ
              exact q_zret B hr hlk rfl hw rfl rfl dL_isAhead_45
            · have hf := ie_e hf c_6
              refine lv_iconst (v := 1) hx hb dL_isAhead_40 (by decide) ?_
              refine lv_goto (tgt := 45) hx hb dL_isAhead_41 (by decide) ?_
              subst hf
              subst hQ
              exact q_zret B hr hlk rfl hw rfl rfl dL_isAhead_45
    · have hf := it_e hf c_2
      refine lv_iconst (v := 0) hx hb dL_isAhead_12 (by decide) ?_
      subst hf
      subst hQ
      exact q_zret B hr hlk rfl hw rfl rfl dL_isAhead_13
theorem isb_f_L_isAhead (p0 : Int32) (p1 : Int32) : isb (f_L_isAhead p0 p1) = true := by
  unfold f_L_isAhead
  try simp only [jn, nm]
  repeat' first | apply isb_ite | exact isb_0 | exact isb_1
