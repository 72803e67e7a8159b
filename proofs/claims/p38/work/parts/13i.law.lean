abbrev rm_L_come : Room := { frames := 3, cells := 0, slots := 0, locals := 69 }
set_option maxRecDepth 100000 in
set_option maxHeartbeats 8000000 in
theorem c_L_come (l : Launch) (ex : List (Nat × Nat)) (X : XT) (fu : Nat) (p7 : Int32) (p8 : Int32) (a9 : Nat) (l9 : Nat) (p10 : Int32) (p11 : Int32) (M : Mem) (ha9 : kW ex a9 = (20, l9)) (rs : Mem) (hf : f_L_come fu p7 p8 a9 l9 p10 p11 M = some rs) (sz : Nat) : Met l yL_come (wbig yL_come cL_come 20 none) rm_L_come (va_Pc [.ref (X.2.2 142), .ref (X.2.2 143), .ref (X.2.2 145), .ref (X.2.2 146), .ref (X.2.2 149), .ref (X.2.2 150), .ref (X.2.2 152), .int p7, .int p8, .ref (X.2.2 a9), .int p10, .int p11] (PW (LW ex) X M sz)) (QV (LW ex) X rs sz) 0 0 (AX (LW ex) X sz) := by
  refine met_go (L := (LW ex)) (M := M) (by decide +kernel) (Nat.le_of_ble_eq_true rfl) ?_
  intro p e s m args below meth c hsz B hr hlk hw ls hl
  subst hsz
  have hx := B.hx
  have hb := B.hb
  have hl : lv_has ls 20 [(0, .ref (X.2.2 142)), (1, .ref (X.2.2 143)), (2, .ref (X.2.2 145)), (3, .ref (X.2.2 146)), (4, .ref (X.2.2 149)), (5, .ref (X.2.2 150)), (6, .ref (X.2.2 152)), (7, .int p7), (8, .int p8), (9, .ref (X.2.2 a9)), (10, .int p10), (11, .int p11)] := hl
  generalize hQ : MQ below _ args s 0 0 (AX (LW ex) X s.heap.size) = Q
  unfold f_L_come at hf
  refine lv_aload_n hx hb dL_come_0 rfl (lv_at hl 3 rfl) ?_
  refine lv_bipush (v := 6) hx hb dL_come_1 (by decide) ?_
  refine lv_iload hx hb dL_come_3 (lv_at hl 7 rfl) ?_
  refine lv_iadd hx hb dL_come_5 ?_
  obtain ⟨g_1, hf⟩ := grd_e hf
  refine w_iald B hw (i := 146) (kw146 _) g_1 dL_come_6 ?_
  refine r_topn hf (fun x12_2 hf => ?_)
  refine lv_istore (lv' := [(12, .int x12_2), (0, .ref (X.2.2 142)), (1, .ref (X.2.2 143)), (2, .ref (X.2.2 145)), (3, .ref (X.2.2 146)), (4, .ref (X.2.2 149)), (5, .ref (X.2.2 150)), (6, .ref (X.2.2 152)), (7, .int p7), (8, .int p8), (9, .ref (X.2.2 a9)), (10, .int p10), (11, .int p11)]) hx hb dL_come_7 hl (by decide) rfl (fun ls hl => ?_)
  refine lv_iconst (v := 0) hx hb dL_come_9 (by decide) ?_
  refine lv_istore (lv' := [(13, .int 0), (12, .int x12_2), (0, .ref (X.2.2 142)), (1, .ref (X.2.2 143)), (2, .ref (X.2.2 145)), (3, .ref (X.2.2 146)), (4, .ref (X.2.2 149)), (5, .ref (X.2.2 150)), (6, .ref (X.2.2 152)), (7, .int p7), (8, .int p8), (9, .ref (X.2.2 a9)), (10, .int p10), (11, .int p11)]) hx hb dL_come_10 hl (by decide) rfl (fun ls hl => ?_)
  refine lv_aload hx hb dL_come_12 (lv_at hl 8 rfl) ?_
  refine lv_bipush (v := 14) hx hb dL_come_14 (by decide) ?_
  refine lv_iconst (v := 0) hx hb dL_come_16 (by decide) ?_
  refine w_iast B hw (i := 152) (kw152 _) (by decide) dL_come_17 hf (fun M_3 H locs hw hf => ?_)
  refine lv_iconst (v := 0) hx hb dL_come_18 (by decide) ?_
  refine lv_istore (lv' := [(14, .int 0), (13, .int 0), (12, .int x12_2), (0, .ref (X.2.2 142)), (1, .ref (X.2.2 143)), (2, .ref (X.2.2 145)), (3, .ref (X.2.2 146)), (4, .ref (X.2.2 149)), (5, .ref (X.2.2 150)), (6, .ref (X.2.2 152)), (7, .int p7), (8, .int p8), (9, .ref (X.2.2 a9)), (10, .int p10), (11, .int p11)]) hx hb dL_come_19 hl (by decide) rfl (fun ls hl => ?_)
  refine jn_e hf (fun kk => ∀ (x13_5 : Int32) (M_6 : Mem) (H : Heap) (locs : List Loc) (ls : Array Slot), HW (LW ex) X M_6 s H locs → lv_has ls 20 [(6, .ref (X.2.2 152)), (12, .int x12_2), (13, .int x13_5)] → kk x13_5 M_6 = some rs → W p l e rm_L_come s m args below meth c H locs 0 0 Q (F0 m 161 ls [])) ?_ (fun k161_4 J161_4 hf => ?_)
  · intro x13_5 M_6 H locs ls hw hl hf
    refine lv_aload hx hb dL_come_161 (lv_at hl 0 rfl) ?_
    refine lv_bipush (v := 9) hx hb dL_come_163 (by decide) ?_
    refine lv_dup2_11 hx hb dL_come_165 rfl rfl ?_
    refine w_iald B hw (i := 152) (kw152 _) (by decide) dL_come_166 ?_
    refine lv_iload hx hb dL_come_167 (lv_at hl 2 rfl) ?_
    refine lv_iadd hx hb dL_come_169 ?_
    refine w_iast B hw (i := 152) (kw152 _) (by decide) dL_come_170 hf (fun M_7 H locs hw hf => ?_)
    refine lv_aload hx hb dL_come_171 (lv_at hl 0 rfl) ?_
    refine lv_bipush (v := 7) hx hb dL_come_173 (by decide) ?_
    refine lv_dup2_11 hx hb dL_come_175 rfl rfl ?_
    refine w_iald B hw (i := 152) (kw152 _) (by decide) dL_come_176 ?_
    refine lv_iload hx hb dL_come_177 (lv_at hl 2 rfl) ?_
    refine lv_iload hx hb dL_come_179 (lv_at hl 1 rfl) ?_
    refine lv_iconst (v := 2) hx hb dL_come_181 (by decide) ?_
    refine lv_idiv hx hb dL_come_182 (by decide) ?_
    refine q_callSi (M' := M_7) (As := [.int (x12_2 / 2)]) (rest := [.int x13_5, .int (M_7 152 7), .int 7, .ref (X.2.2 152)]) B hw (c_L_freight l _ X (x12_2 / 2) _ rfl M_7 _) cs_L_233 rfl hl.1 rfl rfl ⟨(Nat.le_of_ble_eq_true rfl), (Nat.le_of_ble_eq_true rfl)⟩ (Nat.le_of_ble_eq_true rfl) ⟨(Nat.le_of_ble_eq_true rfl), (Nat.le_of_ble_eq_true rfl)⟩ dL_come_183 rfl (fun H locs hw => ?_)
    refine lv_imul hx hb dL_come_186 ?_
    refine lv_iadd hx hb dL_come_187 ?_
    refine w_iast B hw (i := 152) (kw152 _) (by decide) dL_come_188 hf (fun M_9 H locs hw hf => ?_)
    refine lv_aload hx hb dL_come_189 (lv_at hl 0 rfl) ?_
    refine lv_bipush (v := 13) hx hb dL_come_191 (by decide) ?_
    refine lv_dup2_11 hx hb dL_come_193 rfl rfl ?_
    refine w_iald B hw (i := 152) (kw152 _) (by decide) dL_come_194 ?_
    refine lv_iload hx hb dL_come_195 (lv_at hl 2 rfl) ?_
    refine lv_iload hx hb dL_come_197 (lv_at hl 1 rfl) ?_
    refine lv_iconst (v := 2) hx hb dL_come_199 (by decide) ?_
    refine lv_idiv hx hb dL_come_200 (by decide) ?_
    refine q_callSi (M' := M_9) (As := [.int (x12_2 / 2)]) (rest := [.int x13_5, .int (M_9 152 13), .int 13, .ref (X.2.2 152)]) B hw (c_L_freight l _ X (x12_2 / 2) _ rfl M_9 _) cs_L_233 rfl hl.1 rfl rfl ⟨(Nat.le_of_ble_eq_true rfl), (Nat.le_of_ble_eq_true rfl)⟩ (Nat.le_of_ble_eq_true rfl) ⟨(Nat.le_of_ble_eq_true rfl), (Nat.le_of_ble_eq_true rfl)⟩ dL_come_201 rfl (fun H locs hw => ?_)
    refine lv_imul hx hb dL_come_204 ?_
    refine lv_iadd hx hb dL_come_205 ?_
    refine w_iast B hw (i := 152) (kw152 _) (by decide) dL_come_206 hf (fun M_11 H locs hw hf => ?_)
    cases hf
    subst hQ
    exact q_vret B hr hlk hw rfl dL_come_207
  refine jn_e hf (fun kk => ∀ (x13_13 : Int32) (M_14 : Mem) (H : Heap) (locs : List Loc) (ls : Array Slot), HW (LW ex) X M_14 s H locs → lv_has ls 20 [(6, .ref (X.2.2 152)), (12, .int x12_2), (13, .int x13_13)] → kk x13_13 M_14 = some rs → W p l e rm_L_come s m args below meth c H locs 0 0 Q (F0 m 132 ls [])) ?_ (fun k132_12 J132_12 hf => ?_)
  · intro x13_13 M_14 H locs ls hw hl hf
    refine lv_aload hx hb dL_come_132 (lv_at hl 0 rfl) ?_
    refine lv_bipush (v := 14) hx hb dL_come_134 (by decide) ?_
    refine lv_iconst (v := 1) hx hb dL_come_136 (by decide) ?_
    refine w_iast B hw (i := 152) (kw152 _) (by decide) dL_come_137 hf (fun M_15 H locs hw hf => ?_)
    refine lv_goto (tgt := 161) hx hb dL_come_138 (by decide) ?_
    exact J161_4 x13_13 M_15 _ _ _ hw (lv_sub hl [0, 1, 2] rfl) hf
  have hL_21 : ∀ (n_21 : Nat) (x13_16 : Int32) (x14_17 : Int32) (M_18 : Mem) (H : Heap) (locs : List Loc) (ls : Array Slot), HW (LW ex) X M_18 s H locs → lv_has ls 20 [(0, .ref (X.2.2 142)), (1, .ref (X.2.2 143)), (2, .ref (X.2.2 145)), (3, .ref (X.2.2 146)), (4, .ref (X.2.2 149)), (5, .ref (X.2.2 150)), (6, .ref (X.2.2 152)), (7, .int p7), (8, .int p8), (9, .ref (X.2.2 a9)), (10, .int p10), (11, .int p11), (12, .int x12_2), (13, .int x13_16), (14, .int x14_17)] → f_L_come_L21 fu p7 p8 a9 l9 p10 p11 x12_2 k161_4 k132_12 n_21 x13_16 x14_17 M_18 = some rs → W p l e rm_L_come s m args below meth c H locs 0 0 Q (F0 m 21 ls []) := by
    intro n_21
    induction n_21 with
    | zero => intro x13_16 x14_17 M_18 H locs ls hw hl hf; exact no_none hf
    | succ n_21 ih_21 =>
      intro x13_16 x14_17 M_18 H locs ls hw hl hf
      rw [f_L_come_L21] at hf
      refine lv_iload hx hb dL_come_21 (lv_at hl 14 rfl) ?_
      refine lv_aload_n hx hb dL_come_23 rfl (lv_at hl 1 rfl) ?_
      refine lv_iload hx hb dL_come_24 (lv_at hl 12 rfl) ?_
      obtain ⟨g_19, hf⟩ := grd_e hf
      refine w_iald B hw (i := 143) (kw143 _) g_19 dL_come_26 ?_
      refine lv_icmp_ge (tgt := 161) hx hb dL_come_27 (by decide) (fun c_20 => ?_) (fun c_20 => ?_)
      · have hf := it_e hf c_20
        exact J161_4 x13_16 M_18 _ _ _ hw (lv_sub hl [6, 12, 13] rfl) hf
      · have hf := ie_e hf c_20
        refine lv_aload_n hx hb dL_come_30 rfl (lv_at hl 0 rfl) ?_
        refine lv_bipush (v := 10) hx hb dL_come_31 (by decide) ?_
        refine lv_iload hx hb dL_come_33 (lv_at hl 12 rfl) ?_
        refine lv_imul hx hb dL_come_35 ?_
        refine lv_iload hx hb dL_come_36 (lv_at hl 14 rfl) ?_
        refine lv_iadd hx hb dL_come_38 ?_
        obtain ⟨g_21, hf⟩ := grd_e hf
        refine w_lald B hw (i := 142) (kw142 _) g_21 dL_come_39 ?_
        refine r_topl hf (fun x15_22 hf => ?_)
        refine lv_lstore (lv' := [(15, .long x15_22), (0, .ref (X.2.2 142)), (1, .ref (X.2.2 143)), (2, .ref (X.2.2 145)), (3, .ref (X.2.2 146)), (4, .ref (X.2.2 149)), (5, .ref (X.2.2 150)), (6, .ref (X.2.2 152)), (7, .int p7), (8, .int p8), (9, .ref (X.2.2 a9)), (10, .int p10), (11, .int p11), (12, .int x12_2), (13, .int x13_16), (14, .int x14_17)]) hx hb dL_come_40 hl (by decide) rfl (fun ls hl => ?_)
        refine lv_aload_n hx hb dL_come_42 rfl (lv_at hl 4 rfl) ?_
        refine lv_iload hx hb dL_come_43 (lv_at hl 8 rfl) ?_
        refine lv_lload hx hb dL_come_45 (lv_at hl 0 rfl) ?_
        refine lv_iconst (v := 0) hx hb dL_come_47 (by decide) ?_
        obtain ⟨r_24, h_23, hf⟩ := bd_e hf
        refine q_callSi (M' := M_18) (As := [.ref (X.2.2 146), .int p7, .long x15_22, .int 0]) (rest := []) B hw (c_L_hold l _ X fu p7 x15_22 0 M_18 r_24 h_23 _) cs_L_229 rfl hl.1 rfl rfl ⟨(Nat.le_of_ble_eq_true rfl), (Nat.le_of_ble_eq_true rfl)⟩ (Nat.le_of_ble_eq_true rfl) ⟨(Nat.le_of_ble_eq_true rfl), (Nat.le_of_ble_eq_true rfl)⟩ dL_come_48 rfl (fun H locs hw => ?_)
        refine lv_istore (lv' := [(17, .int r_24), (15, .long x15_22), (0, .ref (X.2.2 142)), (1, .ref (X.2.2 143)), (2, .ref (X.2.2 145)), (3, .ref (X.2.2 146)), (4, .ref (X.2.2 149)), (5, .ref (X.2.2 150)), (6, .ref (X.2.2 152)), (7, .int p7), (8, .int p8), (9, .ref (X.2.2 a9)), (10, .int p10), (11, .int p11), (12, .int x12_2), (13, .int x13_16), (14, .int x14_17)]) hx hb dL_come_51 hl (by decide) rfl (fun ls hl => ?_)
        refine lv_iload hx hb dL_come_53 (lv_at hl 10 rfl) ?_
        refine jn_e hf (fun kk => ∀ (x17_26 : Int32) (H : Heap) (locs : List Loc) (ls : Array Slot), HW (LW ex) X M_18 s H locs → lv_has ls 20 [(0, .ref (X.2.2 142)), (1, .ref (X.2.2 143)), (2, .ref (X.2.2 145)), (3, .ref (X.2.2 146)), (4, .ref (X.2.2 149)), (5, .ref (X.2.2 150)), (6, .ref (X.2.2 152)), (7, .int p7), (8, .int p8), (9, .ref (X.2.2 a9)), (10, .int p10), (11, .int p11), (12, .int x12_2), (13, .int x13_16), (14, .int x14_17), (15, .long x15_22), (17, .int x17_26)] → kk x17_26 = some rs → W p l e rm_L_come s m args below meth c H locs 0 0 Q (F0 m 110 ls [])) ?_ (fun k110_25 J110_25 hf => ?_)
        · intro x17_26 H locs ls hw hl hf
          refine lv_iload hx hb dL_come_110 (lv_at hl 16 rfl) ?_
          refine lv_if_ne (tgt := 118) hx hb dL_come_112 (by decide) (fun c_27 => ?_) (fun c_27 => ?_)
          · have hf := ie_e hf c_27
            refine lv_iload hx hb dL_come_118 (lv_at hl 13 rfl) ?_
            refine lv_aload_n hx hb dL_come_120 rfl (lv_at hl 2 rfl) ?_
            refine lv_bipush (v := 9) hx hb dL_come_121 (by decide) ?_
            refine lv_iload hx hb dL_come_123 (lv_at hl 12 rfl) ?_
            refine lv_iconst (v := 2) hx hb dL_come_125 (by decide) ?_
            refine lv_idiv hx hb dL_come_126 (by decide) ?_
            refine lv_iadd hx hb dL_come_127 ?_
            obtain ⟨g_28, hf⟩ := grd_e hf
            refine w_iald B hw (i := 145) (kw145 _) g_28 dL_come_128 ?_
            refine lv_icmp_ne (tgt := 141) hx hb dL_come_129 (by decide) (fun c_29 => ?_) (fun c_29 => ?_)
            · have hf := ie_e hf c_29
              refine lv_aload hx hb dL_come_141 (lv_at hl 4 rfl) ?_
              refine lv_aload hx hb dL_come_143 (lv_at hl 5 rfl) ?_
              refine lv_iload hx hb dL_come_145 (lv_at hl 7 rfl) ?_
              refine lv_lload hx hb dL_come_147 (lv_at hl 15 rfl) ?_
              obtain ⟨M_31, h_30, hf⟩ := bd_e hf
              refine q_callSv (M' := M_31) (As := [.ref (X.2.2 149), .ref (X.2.2 150), .int p7, .long x15_22]) (rest := []) B hw (c_L_lay l _ X fu 149 30 150 3 p7 x15_22 M_18 (kw149 _) (kw150 _) M_31 h_30 _) cs_L_154 rfl hl.1 rfl rfl ⟨(Nat.le_of_ble_eq_true rfl), (Nat.le_of_ble_eq_true rfl)⟩ (Nat.le_of_ble_eq_true rfl) ⟨(Nat.le_of_ble_eq_true rfl), (Nat.le_of_ble_eq_true rfl)⟩ dL_come_149 rfl (fun H locs hw => ?_)
              refine r_iinc (v := (x13_16 + 1)) hx hb dL_come_152 hl (k := 13) rfl rfl (by decide) hf (fun x13_32 ls hl hf => ?_)
              have hl : lv_has ls 20 [(13, .int x13_32), (0, .ref (X.2.2 142)), (1, .ref (X.2.2 143)), (2, .ref (X.2.2 145)), (3, .ref (X.2.2 146)), (4, .ref (X.2.2 149)), (5, .ref (X.2.2 150)), (6, .ref (X.2.2 152)), (7, .int p7), (8, .int p8), (9, .ref (X.2.2 a9)), (10, .int p10), (11, .int p11), (12, .int x12_2), (14, .int x14_17), (15, .long x15_22), (17, .int x17_26)] := hl
              refine r_iinc (v := (x14_17 + 1)) hx hb dL_come_155 hl (k := 14) rfl rfl (by decide) hf (fun x14_33 ls hl hf => ?_)
              have hl : lv_has ls 20 [(14, .int x14_33), (13, .int x13_32), (0, .ref (X.2.2 142)), (1, .ref (X.2.2 143)), (2, .ref (X.2.2 145)), (3, .ref (X.2.2 146)), (4, .ref (X.2.2 149)), (5, .ref (X.2.2 150)), (6, .ref (X.2.2 152)), (7, .int p7), (8, .int p8), (9, .ref (X.2.2 a9)), (10, .int p10), (11, .int p11), (12, .int x12_2), (15, .long x15_22), (17, .int x17_26)] := hl
              refine lv_goto (tgt := 21) hx hb dL_come_158 (by decide) ?_
              exact ih_21 x13_32 x14_33 M_31 _ _ _ hw (lv_sub hl [2, 3, 4, 5, 6, 7, 8, 9, 10, 11, 12, 13, 14, 1, 0] rfl) hf
            · have hf := it_e hf c_29
              exact J132_12 x13_16 M_18 _ _ _ hw (lv_sub hl [6, 12, 13] rfl) hf
          · have hf := it_e hf c_27
            refine lv_goto (tgt := 155) hx hb dL_come_115 (by decide) ?_
            refine r_iinc (v := (x14_17 + 1)) hx hb dL_come_155 hl (k := 14) rfl rfl (by decide) hf (fun x14_34 ls hl hf => ?_)
            have hl : lv_has ls 20 [(14, .int x14_34), (0, .ref (X.2.2 142)), (1, .ref (X.2.2 143)), (2, .ref (X.2.2 145)), (3, .ref (X.2.2 146)), (4, .ref (X.2.2 149)), (5, .ref (X.2.2 150)), (6, .ref (X.2.2 152)), (7, .int p7), (8, .int p8), (9, .ref (X.2.2 a9)), (10, .int p10), (11, .int p11), (12, .int x12_2), (13, .int x13_16), (15, .long x15_22), (17, .int x17_26)] := hl
            refine lv_goto (tgt := 21) hx hb dL_come_158 (by decide) ?_
            exact ih_21 x13_16 x14_34 M_18 _ _ _ hw (lv_sub hl [1, 2, 3, 4, 5, 6, 7, 8, 9, 10, 11, 12, 13, 14, 0] rfl) hf
        refine lv_if_lt (tgt := 110) hx hb dL_come_55 (by decide) (fun c_35 => ?_) (fun c_35 => ?_)
        · have hf := it_e hf c_35
          exact J110_25 r_24 _ _ _ hw (lv_sub hl [2, 3, 4, 5, 6, 7, 8, 9, 10, 11, 12, 13, 14, 15, 16, 1, 0] rfl) hf
        · have hf := ie_e hf c_35
          refine lv_iconst (v := 0) hx hb dL_come_58 (by decide) ?_
          refine lv_istore (lv' := [(18, .int 0), (17, .int r_24), (15, .long x15_22), (0, .ref (X.2.2 142)), (1, .ref (X.2.2 143)), (2, .ref (X.2.2 145)), (3, .ref (X.2.2 146)), (4, .ref (X.2.2 149)), (5, .ref (X.2.2 150)), (6, .ref (X.2.2 152)), (7, .int p7), (8, .int p8), (9, .ref (X.2.2 a9)), (10, .int p10), (11, .int p11), (12, .int x12_2), (13, .int x13_16), (14, .int x14_17)]) hx hb dL_come_59 hl (by decide) rfl (fun ls hl => ?_)
          refine lv_iload hx hb dL_come_61 (lv_at hl 13 rfl) ?_
          refine lv_istore (lv' := [(19, .int p10), (18, .int 0), (17, .int r_24), (15, .long x15_22), (0, .ref (X.2.2 142)), (1, .ref (X.2.2 143)), (2, .ref (X.2.2 145)), (3, .ref (X.2.2 146)), (4, .ref (X.2.2 149)), (5, .ref (X.2.2 150)), (6, .ref (X.2.2 152)), (7, .int p7), (8, .int p8), (9, .ref (X.2.2 a9)), (10, .int p10), (11, .int p11), (12, .int x12_2), (13, .int x13_16), (14, .int x14_17)]) hx hb dL_come_63 hl (by decide) rfl (fun ls hl => ?_)
          refine jn_e hf (fun kk => ∀ (x18_37 : Int32) (H : Heap) (locs : List Loc) (ls : Array Slot), HW (LW ex) X M_18 s H locs → lv_has ls 20 [(0, .ref (X.2.2 142)), (1, .ref (X.2.2 143)), (2, .ref (X.2.2 145)), (3, .ref (X.2.2 146)), (4, .ref (X.2.2 149)), (5, .ref (X.2.2 150)), (6, .ref (X.2.2 152)), (7, .int p7), (8, .int p8), (9, .ref (X.2.2 a9)), (10, .int p10), (11, .int p11), (12, .int x12_2), (13, .int x13_16), (14, .int x14_17), (15, .long x15_22), (17, .int r_24), (18, .int x18_37)] → kk x18_37 = some rs → W p l e rm_L_come s m args below meth c H locs 0 0 Q (F0 m 103 ls [])) ?_ (fun k103_36 J103_36 hf => ?_)
          · intro x18_37 H locs ls hw hl hf
            refine lv_iload hx hb dL_come_103 (lv_at hl 16 rfl) ?_
            refine lv_iload hx hb dL_come_105 (lv_at hl 17 rfl) ?_
            refine lv_iand hx hb dL_come_107 ?_
            refine r_topn hf (fun x17_38 hf => ?_)
            refine lv_istore (lv' := [(17, .int x17_38), (0, .ref (X.2.2 142)), (1, .ref (X.2.2 143)), (2, .ref (X.2.2 145)), (3, .ref (X.2.2 146)), (4, .ref (X.2.2 149)), (5, .ref (X.2.2 150)), (6, .ref (X.2.2 152)), (7, .int p7), (8, .int p8), (9, .ref (X.2.2 a9)), (10, .int p10), (11, .int p11), (12, .int x12_2), (13, .int x13_16), (14, .int x14_17), (15, .long x15_22), (18, .int x18_37)]) hx hb dL_come_108 hl (by decide) rfl (fun ls hl => ?_)
            exact J110_25 x17_38 _ _ _ hw (lv_sub hl [1, 2, 3, 4, 5, 6, 7, 8, 9, 10, 11, 12, 13, 14, 15, 16, 0] rfl) hf
          have hL_65 : ∀ (n_65 : Nat) (x18_39 : Int32) (x19_40 : Int32) (H : Heap) (locs : List Loc) (ls : Array Slot), HW (LW ex) X M_18 s H locs → lv_has ls 20 [(0, .ref (X.2.2 142)), (1, .ref (X.2.2 143)), (2, .ref (X.2.2 145)), (3, .ref (X.2.2 146)), (4, .ref (X.2.2 149)), (5, .ref (X.2.2 150)), (6, .ref (X.2.2 152)), (7, .int p7), (8, .int p8), (9, .ref (X.2.2 a9)), (10, .int p10), (11, .int p11), (12, .int x12_2), (13, .int x13_16), (14, .int x14_17), (15, .long x15_22), (17, .int r_24), (18, .int x18_39), (19, .int x19_40)] → f_L_come_L65 fu p8 a9 l9 p11 M_18 x15_22 k103_36 n_65 x18_39 x19_40 = some rs → W p l e rm_L_come s m args below meth c H locs 0 0 Q (F0 m 65 ls []) := by
            intro n_65
            induction n_65 with
            | zero => intro x18_39 x19_40 H locs ls hw hl hf; exact no_none hf
            | succ n_65 ih_65 =>
              intro x18_39 x19_40 H locs ls hw hl hf
              rw [f_L_come_L65] at hf
              refine lv_iload hx hb dL_come_65 (lv_at hl 18 rfl) ?_
              refine lv_iload hx hb dL_come_67 (lv_at hl 11 rfl) ?_
              refine lv_icmp_ge (tgt := 103) hx hb dL_come_69 (by decide) (fun c_41 => ?_) (fun c_41 => ?_)
              · have hf := it_e hf c_41
                exact J103_36 x18_39 _ _ _ hw (lv_sub hl [0, 1, 2, 3, 4, 5, 6, 7, 8, 9, 10, 11, 12, 13, 14, 15, 16, 17] rfl) hf
              · have hf := ie_e hf c_41
                refine lv_iload hx hb dL_come_72 (lv_at hl 17 rfl) ?_
                refine lv_aload hx hb dL_come_74 (lv_at hl 9 rfl) ?_
                refine lv_iload hx hb dL_come_76 (lv_at hl 18 rfl) ?_
                obtain ⟨g_42, hf⟩ := grd_e hf
                refine w_iald B hw (i := a9) ha9 g_42 dL_come_78 ?_
                refine lv_lload hx hb dL_come_79 (lv_at hl 15 rfl) ?_
                refine lv_iload hx hb dL_come_81 (lv_at hl 8 rfl) ?_
                refine q_callSi (M' := M_18) (As := [.long x15_22, .int p8]) (rest := [.int (M_18 a9 x19_40.toNatClampNeg), .int x18_39]) B hw (c_L_at l _ X x15_22 p8 _ rfl M_18 _) cs_L_169 rfl hl.1 rfl rfl ⟨(Nat.le_of_ble_eq_true rfl), (Nat.le_of_ble_eq_true rfl)⟩ (Nat.le_of_ble_eq_true rfl) ⟨(Nat.le_of_ble_eq_true rfl), (Nat.le_of_ble_eq_true rfl)⟩ dL_come_83 rfl (fun H locs hw => ?_)
                refine nmv_e hf (fun kk => ∀ (H : Heap) (locs : List Loc), HW (LW ex) X M_18 s H locs → W p l e rm_L_come s m args below meth c H locs 0 0 Q (F0 m 94 ls [.int kk, .int x18_39])) (fun J => ?_) (fun v_45 hf H locs hw => ?_)
                · refine lv_icmp_ne (tgt := 93) hx hb dL_come_86 (by decide) (fun c_44 => ?_) (fun c_44 => ?_)
                  · rw [if_neg (show ¬ ((M_18 a9 x19_40.toNatClampNeg) = (f_L_at x15_22 p8)) from c_44)] at J
                    refine lv_iconst (v := 0) hx hb dL_come_93 (by decide) ?_
                    exact J _ _ hw
                  · rw [if_pos (show (M_18 a9 x19_40.toNatClampNeg) = (f_L_at x15_22 p8) from c_44)] at J
                    refine lv_iconst (v := 1) hx hb dL_come_89 (by decide) ?_
                    refine lv_goto (tgt := 94) hx hb dL_come_90 (by decide) ?_
                    exact J _ _ hw
                · refine lv_ior hx hb dL_come_94 ?_
                  refine r_topn hf (fun x18_46 hf => ?_)
                  refine lv_istore (lv' := [(18, .int x18_46), (0, .ref (X.2.2 142)), (1, .ref (X.2.2 143)), (2, .ref (X.2.2 145)), (3, .ref (X.2.2 146)), (4, .ref (X.2.2 149)), (5, .ref (X.2.2 150)), (6, .ref (X.2.2 152)), (7, .int p7), (8, .int p8), (9, .ref (X.2.2 a9)), (10, .int p10), (11, .int p11), (12, .int x12_2), (13, .int x13_16), (14, .int x14_17), (15, .long x15_22), (17, .int r_24), (19, .int x19_40)]) hx hb dL_come_95 hl (by decide) rfl (fun ls hl => ?_)
                  refine r_iinc (v := (x19_40 + 1)) hx hb dL_come_97 hl (k := 18) rfl rfl (by decide) hf (fun x19_47 ls hl hf => ?_)
                  have hl : lv_has ls 20 [(19, .int x19_47), (18, .int x18_46), (0, .ref (X.2.2 142)), (1, .ref (X.2.2 143)), (2, .ref (X.2.2 145)), (3, .ref (X.2.2 146)), (4, .ref (X.2.2 149)), (5, .ref (X.2.2 150)), (6, .ref (X.2.2 152)), (7, .int p7), (8, .int p8), (9, .ref (X.2.2 a9)), (10, .int p10), (11, .int p11), (12, .int x12_2), (13, .int x13_16), (14, .int x14_17), (15, .long x15_22), (17, .int r_24)] := hl
                  refine lv_goto (tgt := 65) hx hb dL_come_100 (by decide) ?_
                  exact ih_65 x18_46 x19_47 _ _ _ hw (lv_sub hl [2, 3, 4, 5, 6, 7, 8, 9, 10, 11, 12, 13, 14, 15, 16, 17, 18, 1, 0] rfl) hf
          exact hL_65 fu 0 p10 _ _ _ hw (lv_sub hl [4, 5, 6, 7, 8, 9, 10, 11, 12, 13, 14, 15, 16, 17, 18, 3, 2, 1, 0] rfl) hf
  exact hL_21 fu 0 0 M_3 _ _ _ hw (lv_sub hl [3, 4, 5, 6, 7, 8, 9, 10, 11, 12, 13, 14, 2, 1, 0] rfl) hf
abbrev rm_L_scan : Room := { frames := 4, cells := 0, slots := 0, locals := 108 }
set_option maxRecDepth 100000 in
set_option maxHeartbeats 8000000 in
theorem c_L_scan (l : Launch) (ex : List (Nat × Nat)) (X : XT) (fu : Nat) (p11 : Int32) (M : Mem)  (rs : (Int32 × Mem)) (hf : f_L_scan fu p11 M = some rs) (sz : Nat) : Met l yL_scan (wbig yL_scan cL_scan 16 (some .boolean)) rm_L_scan (va_Pc [.ref (X.2.2 142), .ref (X.2.2 143), .ref (X.2.2 144), .ref (X.2.2 145), .ref (X.2.2 146), .ref (X.2.2 147), .ref (X.2.2 148), .ref (X.2.2 153), .ref (X.2.2 149), .ref (X.2.2 150), .ref (X.2.2 152), .int p11] (PW (LW ex) X M sz)) (QI (LW ex) X rs.2 rs.1 sz) 0 0 (AX (LW ex) X sz) := by
  refine met_go (L := (LW ex)) (M := M) (by decide +kernel) (Nat.le_of_ble_eq_true rfl) ?_
  intro p e s m args below meth c hsz B hr hlk hw ls hl
  subst hsz
  have hx := B.hx
  have hb := B.hb
  have hl : lv_has ls 16 [(0, .ref (X.2.2 142)), (1, .ref (X.2.2 143)), (2, .ref (X.2.2 144)), (3, .ref (X.2.2 145)), (4, .ref (X.2.2 146)), (5, .ref (X.2.2 147)), (6, .ref (X.2.2 148)), (7, .ref (X.2.2 153)), (8, .ref (X.2.2 149)), (9, .ref (X.2.2 150)), (10, .ref (X.2.2 152)), (11, .int p11)] := hl
  generalize hQ : MQ below _ args s 0 0 (AX (LW ex) X s.heap.size) = Q
  unfold f_L_scan at hf
  refine lv_aload hx hb dL_scan_0 (lv_at hl 4 rfl) ?_
  refine lv_bipush (v := 6) hx hb dL_scan_2 (by decide) ?_
  refine lv_iload hx hb dL_scan_4 (lv_at hl 11 rfl) ?_
  refine lv_iadd hx hb dL_scan_6 ?_
  obtain ⟨g_1, hf⟩ := grd_e hf
  refine w_iald B hw (i := 146) (kw146 _) g_1 dL_scan_7 ?_
  refine r_topn hf (fun x12_2 hf => ?_)
  refine lv_istore (lv' := [(12, .int x12_2), (0, .ref (X.2.2 142)), (1, .ref (X.2.2 143)), (2, .ref (X.2.2 144)), (3, .ref (X.2.2 145)), (4, .ref (X.2.2 146)), (5, .ref (X.2.2 147)), (6, .ref (X.2.2 148)), (7, .ref (X.2.2 153)), (8, .ref (X.2.2 149)), (9, .ref (X.2.2 150)), (10, .ref (X.2.2 152)), (11, .int p11)]) hx hb dL_scan_8 hl (by decide) rfl (fun ls hl => ?_)
  refine lv_aload hx hb dL_scan_10 (lv_at hl 10 rfl) ?_
  refine lv_iload hx hb dL_scan_12 (lv_at hl 12 rfl) ?_
  refine lv_iconst (v := 0) hx hb dL_scan_14 (by decide) ?_
  obtain ⟨g_3, hf⟩ := grd_e hf
  refine w_iast B hw (i := 150) (kw150 _) g_3 dL_scan_15 hf (fun M_4 H locs hw hf => ?_)
  refine lv_aload_n hx hb dL_scan_16 rfl (lv_at hl 3 rfl) ?_
  refine lv_aload_n hx hb dL_scan_17 rfl (lv_at hl 4 rfl) ?_
  refine lv_aload hx hb dL_scan_18 (lv_at hl 6 rfl) ?_
  refine lv_aload hx hb dL_scan_20 (lv_at hl 7 rfl) ?_
  refine lv_aload hx hb dL_scan_22 (lv_at hl 11 rfl) ?_
  refine lv_iload hx hb dL_scan_24 (lv_at hl 0 rfl) ?_
  refine lv_iconst (v := 2) hx hb dL_scan_26 (by decide) ?_
  refine lv_idiv hx hb dL_scan_27 (by decide) ?_
  obtain ⟨r_6, M_7, h_5, hf⟩ := bm_e hf
  refine q_callSi (M' := M_7) (As := [.ref (X.2.2 144), .ref (X.2.2 145), .ref (X.2.2 147), .ref (X.2.2 148), .ref (X.2.2 152), .int (x12_2 / 2)]) (rest := []) B hw (c_L_request l _ X fu (x12_2 / 2) M_4 (r_6, M_7) h_5 _) cs_L_236 rfl hl.1 rfl rfl ⟨(Nat.le_of_ble_eq_true rfl), (Nat.le_of_ble_eq_true rfl)⟩ (Nat.le_of_ble_eq_true rfl) ⟨(Nat.le_of_ble_eq_true rfl), (Nat.le_of_ble_eq_true rfl)⟩ dL_scan_28 rfl (fun H locs hw => ?_)
  refine lv_if_ne (tgt := 36) hx hb dL_scan_31 (by decide) (fun c_8 => ?_) (fun c_8 => ?_)
  · have hf := ie_e hf c_8
    refine lv_aload_n hx hb dL_scan_36 rfl (lv_at hl 1 rfl) ?_
    refine lv_aload_n hx hb dL_scan_37 rfl (lv_at hl 2 rfl) ?_
    refine lv_aload_n hx hb dL_scan_38 rfl (lv_at hl 4 rfl) ?_
    refine lv_aload hx hb dL_scan_39 (lv_at hl 5 rfl) ?_
    refine lv_aload hx hb dL_scan_41 (lv_at hl 9 rfl) ?_
    refine lv_aload hx hb dL_scan_43 (lv_at hl 10 rfl) ?_
    refine lv_aload hx hb dL_scan_45 (lv_at hl 11 rfl) ?_
    refine lv_iload hx hb dL_scan_47 (lv_at hl 12 rfl) ?_
    refine lv_iconst (v := (-1)) hx hb dL_scan_49 (by decide) ?_
    refine lv_aload hx hb dL_scan_50 (lv_at hl 6 rfl) ?_
    refine lv_iconst (v := 0) hx hb dL_scan_52 (by decide) ?_
    refine lv_iconst (v := 0) hx hb dL_scan_53 (by decide) ?_
    obtain ⟨M_10, h_9, hf⟩ := bd_e hf
    refine q_callSv (M' := M_10) (As := [.ref (X.2.2 142), .ref (X.2.2 143), .ref (X.2.2 145), .ref (X.2.2 146), .ref (X.2.2 149), .ref (X.2.2 150), .ref (X.2.2 152), .int p11, .int (-1), .ref (X.2.2 147), .int 0, .int 0]) (rest := []) B hw (c_L_come l _ X fu p11 (-1) 147 48 0 0 M_7 (kw147 _) M_10 h_9 _) cs_L_240 rfl hl.1 rfl rfl ⟨(Nat.le_of_ble_eq_true rfl), (Nat.le_of_ble_eq_true rfl)⟩ (Nat.le_of_ble_eq_true rfl) ⟨(Nat.le_of_ble_eq_true rfl), (Nat.le_of_ble_eq_true rfl)⟩ dL_scan_54 rfl (fun H locs hw => ?_)
    refine lv_aload hx hb dL_scan_57 (lv_at hl 11 rfl) ?_
    refine lv_bipush (v := 14) hx hb dL_scan_59 (by decide) ?_
    refine w_iald B hw (i := 152) (kw152 _) (by decide) dL_scan_61 ?_
    refine lv_iconst (v := 1) hx hb dL_scan_62 (by decide) ?_
    refine lv_icmp_ne (tgt := 68) hx hb dL_scan_63 (by decide) (fun c_11 => ?_) (fun c_11 => ?_)
    · have hf := ie_e hf c_11
      refine lv_aload hx hb dL_scan_68 (lv_at hl 11 rfl) ?_
      refine lv_iconst (v := 3) hx hb dL_scan_70 (by decide) ?_
      refine w_iald B hw (i := 152) (kw152 _) (by decide) dL_scan_71 ?_
      refine lv_bipush (v := 6) hx hb dL_scan_72 (by decide) ?_
      refine jn_e hf (fun kk => ∀ (M_13 : Mem) (H : Heap) (locs : List Loc) (ls : Array Slot), HW (LW ex) X M_13 s H locs → lv_has ls 16 [(4, .ref (X.2.2 146)), (5, .ref (X.2.2 147)), (6, .ref (X.2.2 148)), (7, .ref (X.2.2 153)), (8, .ref (X.2.2 149)), (9, .ref (X.2.2 150)), (10, .ref (X.2.2 152)), (11, .int p11), (12, .int x12_2)] → kk M_13 = some rs → W p l e rm_L_scan s m args below meth c H locs 0 0 Q (F0 m 143 ls [])) ?_ (fun k143_12 J143_12 hf => ?_)
      · intro M_13 H locs ls hw hl hf
        refine lv_bipush (v := 8) hx hb dL_scan_143 (by decide) ?_
        refine lv_aload hx hb dL_scan_145 (lv_at hl 6 rfl) ?_
        refine lv_iconst (v := 3) hx hb dL_scan_147 (by decide) ?_
        refine w_iald B hw (i := 152) (kw152 _) (by decide) dL_scan_148 ?_
        refine lv_imul hx hb dL_scan_149 ?_
        refine r_topn hf (fun x13_14 hf => ?_)
        refine lv_istore (lv' := [(13, .int x13_14), (4, .ref (X.2.2 146)), (5, .ref (X.2.2 147)), (6, .ref (X.2.2 148)), (7, .ref (X.2.2 153)), (8, .ref (X.2.2 149)), (9, .ref (X.2.2 150)), (10, .ref (X.2.2 152)), (11, .int p11), (12, .int x12_2)]) hx hb dL_scan_150 hl (by decide) rfl (fun ls hl => ?_)
        refine lv_aload hx hb dL_scan_152 (lv_at hl 2 rfl) ?_
        refine lv_iload hx hb dL_scan_154 (lv_at hl 0 rfl) ?_
        refine lv_iload hx hb dL_scan_156 (lv_at hl 9 rfl) ?_
        obtain ⟨g_15, hf⟩ := grd_e hf
        refine w_iast B hw (i := 147) (kw147 _) g_15 dL_scan_158 hf (fun M_16 H locs hw hf => ?_)
        refine lv_aload hx hb dL_scan_159 (lv_at hl 2 rfl) ?_
        refine lv_iload hx hb dL_scan_161 (lv_at hl 0 rfl) ?_
        refine lv_iconst (v := 1) hx hb dL_scan_163 (by decide) ?_
        refine lv_iadd hx hb dL_scan_164 ?_
        refine lv_aload hx hb dL_scan_165 (lv_at hl 7 rfl) ?_
        refine lv_iconst (v := 1) hx hb dL_scan_167 (by decide) ?_
        refine w_iald B hw (i := 152) (kw152 _) (by decide) dL_scan_168 ?_
        obtain ⟨g_17, hf⟩ := grd_e hf
        refine w_iast B hw (i := 147) (kw147 _) g_17 dL_scan_169 hf (fun M_18 H locs hw hf => ?_)
        refine lv_aload hx hb dL_scan_170 (lv_at hl 2 rfl) ?_
        refine lv_iload hx hb dL_scan_172 (lv_at hl 0 rfl) ?_
        refine lv_iconst (v := 2) hx hb dL_scan_174 (by decide) ?_
        refine lv_iadd hx hb dL_scan_175 ?_
        refine lv_aload hx hb dL_scan_176 (lv_at hl 7 rfl) ?_
        refine lv_iconst (v := 0) hx hb dL_scan_178 (by decide) ?_
        refine w_iald B hw (i := 152) (kw152 _) (by decide) dL_scan_179 ?_
        obtain ⟨g_19, hf⟩ := grd_e hf
        refine w_iast B hw (i := 147) (kw147 _) g_19 dL_scan_180 hf (fun M_20 H locs hw hf => ?_)
        refine lv_aload hx hb dL_scan_181 (lv_at hl 2 rfl) ?_
        refine lv_iload hx hb dL_scan_183 (lv_at hl 0 rfl) ?_
        refine lv_iconst (v := 3) hx hb dL_scan_185 (by decide) ?_
        refine lv_iadd hx hb dL_scan_186 ?_
        refine lv_aload hx hb dL_scan_187 (lv_at hl 6 rfl) ?_
        refine lv_iload hx hb dL_scan_189 (lv_at hl 8 rfl) ?_
        refine w_iald B hw (i := 150) (kw150 _) g_3 dL_scan_191 ?_
        obtain ⟨g_21, hf⟩ := grd_e hf
        refine w_iast B hw (i := 147) (kw147 _) g_21 dL_scan_192 hf (fun M_22 H locs hw hf => ?_)
        refine lv_iconst (v := 0) hx hb dL_scan_193 (by decide) ?_
        refine lv_istore (lv' := [(14, .int 0), (13, .int x13_14), (4, .ref (X.2.2 146)), (5, .ref (X.2.2 147)), (6, .ref (X.2.2 148)), (7, .ref (X.2.2 153)), (8, .ref (X.2.2 149)), (9, .ref (X.2.2 150)), (10, .ref (X.2.2 152)), (11, .int p11), (12, .int x12_2)]) hx hb dL_scan_194 hl (by decide) rfl (fun ls hl => ?_)
        refine lv_iconst (v := 0) hx hb dL_scan_196 (by decide) ?_
        refine lv_istore (lv' := [(15, .int 0), (14, .int 0), (13, .int x13_14), (4, .ref (X.2.2 146)), (5, .ref (X.2.2 147)), (6, .ref (X.2.2 148)), (7, .ref (X.2.2 153)), (8, .ref (X.2.2 149)), (9, .ref (X.2.2 150)), (10, .ref (X.2.2 152)), (11, .int p11), (12, .int x12_2)]) hx hb dL_scan_197 hl (by decide) rfl (fun ls hl => ?_)
        refine jn_e hf (fun kk => ∀ (x14_24 : Int32) (M_25 : Mem) (H : Heap) (locs : List Loc) (ls : Array Slot), HW (LW ex) X M_25 s H locs → lv_has ls 16 [(5, .ref (X.2.2 147)), (6, .ref (X.2.2 148)), (7, .ref (X.2.2 153)), (8, .ref (X.2.2 149)), (9, .ref (X.2.2 150)), (10, .ref (X.2.2 152)), (11, .int p11), (12, .int x12_2), (13, .int x13_14), (14, .int x14_24)] → kk x14_24 M_25 = some rs → W p l e rm_L_scan s m args below meth c H locs 0 0 Q (F0 m 288 ls [])) ?_ (fun k288_23 J288_23 hf => ?_)
        · intro x14_24 M_25 H locs ls hw hl hf
          refine lv_iload hx hb dL_scan_288 (lv_at hl 9 rfl) ?_
          refine lv_istore (lv' := [(15, .int x14_24), (5, .ref (X.2.2 147)), (6, .ref (X.2.2 148)), (7, .ref (X.2.2 153)), (8, .ref (X.2.2 149)), (9, .ref (X.2.2 150)), (10, .ref (X.2.2 152)), (11, .int p11), (12, .int x12_2), (13, .int x13_14), (14, .int x14_24)]) hx hb dL_scan_290 hl (by decide) rfl (fun ls hl => ?_)
          refine jn_e hf (fun kk => ∀ (M_27 : Mem) (H : Heap) (locs : List Loc) (ls : Array Slot), HW (LW ex) X M_27 s H locs → lv_has ls 16 [(6, .ref (X.2.2 148)), (7, .ref (X.2.2 153)), (8, .ref (X.2.2 149)), (9, .ref (X.2.2 150)), (10, .ref (X.2.2 152)), (11, .int p11), (12, .int x12_2), (14, .int x14_24)] → kk M_27 = some rs → W p l e rm_L_scan s m args below meth c H locs 0 0 Q (F0 m 315 ls [])) ?_ (fun k315_26 J315_26 hf => ?_)
          · intro M_27 H locs ls hw hl hf
            refine lv_iconst (v := 0) hx hb dL_scan_315 (by decide) ?_
            refine lv_istore (lv' := [(15, .int 0), (6, .ref (X.2.2 148)), (7, .ref (X.2.2 153)), (8, .ref (X.2.2 149)), (9, .ref (X.2.2 150)), (10, .ref (X.2.2 152)), (11, .int p11), (12, .int x12_2), (14, .int x14_24)]) hx hb dL_scan_316 hl (by decide) rfl (fun ls hl => ?_)
            refine jn_e hf (fun kk => ∀ (M_29 : Mem) (H : Heap) (locs : List Loc) (ls : Array Slot), HW (LW ex) X M_29 s H locs → lv_has ls 16 [(7, .ref (X.2.2 153)), (9, .ref (X.2.2 150)), (10, .ref (X.2.2 152)), (11, .int p11), (12, .int x12_2), (14, .int x14_24)] → kk M_29 = some rs → W p l e rm_L_scan s m args below meth c H locs 0 0 Q (F0 m 358 ls [])) ?_ (fun k358_28 J358_28 hf => ?_)
            · intro M_29 H locs ls hw hl hf
              refine lv_aload hx hb dL_scan_358 (lv_at hl 2 rfl) ?_
              refine lv_iconst (v := 3) hx hb dL_scan_360 (by decide) ?_
              refine lv_dup2_11 hx hb dL_scan_361 rfl rfl ?_
              refine w_iald B hw (i := 152) (kw152 _) (by decide) dL_scan_362 ?_
              refine lv_iconst (v := 1) hx hb dL_scan_363 (by decide) ?_
              refine lv_iadd hx hb dL_scan_364 ?_
              refine w_iast B hw (i := 152) (kw152 _) (by decide) dL_scan_365 hf (fun M_30 H locs hw hf => ?_)
              refine lv_iload hx hb dL_scan_366 (lv_at hl 5 rfl) ?_
              refine lv_if_ne (tgt := 381) hx hb dL_scan_368 (by decide) (fun c_31 => ?_) (fun c_31 => ?_)
              · have hf := ie_e hf c_31
                refine lv_iconst (v := 0) hx hb dL_scan_381 (by decide) ?_
                cases hf
                subst hQ
                exact q_zret B hr hlk rfl hw rfl rfl dL_scan_382
              · have hf := it_e hf c_31
                refine lv_aload hx hb dL_scan_371 (lv_at hl 0 rfl) ?_
                refine lv_iload hx hb dL_scan_373 (lv_at hl 4 rfl) ?_
                refine lv_aload hx hb dL_scan_375 (lv_at hl 1 rfl) ?_
                refine lv_iload hx hb dL_scan_377 (lv_at hl 3 rfl) ?_
                refine w_iald B hw (i := 150) (kw150 _) g_3 dL_scan_379 ?_
                obtain ⟨g_32, hf⟩ := grd_e hf
                refine w_iast B hw (i := 153) (kw153 _) g_32 dL_scan_380 hf (fun M_33 H locs hw hf => ?_)
                refine lv_iconst (v := 0) hx hb dL_scan_381 (by decide) ?_
                cases hf
                subst hQ
                exact q_zret B hr hlk rfl hw rfl rfl dL_scan_382
            have hL_318 : ∀ (n_318 : Nat) (x15_34 : Int32) (M_35 : Mem) (H : Heap) (locs : List Loc) (ls : Array Slot), HW (LW ex) X M_35 s H locs → lv_has ls 16 [(6, .ref (X.2.2 148)), (7, .ref (X.2.2 153)), (8, .ref (X.2.2 149)), (9, .ref (X.2.2 150)), (10, .ref (X.2.2 152)), (11, .int p11), (12, .int x12_2), (14, .int x14_24), (15, .int x15_34)] → f_L_scan_L318 fu p11 k358_28 n_318 x15_34 M_35 = some rs → W p l e rm_L_scan s m args below meth c H locs 0 0 Q (F0 m 318 ls []) := by
              intro n_318
              induction n_318 with
              | zero => intro x15_34 M_35 H locs ls hw hl hf; exact no_none hf
              | succ n_318 ih_318 =>
                intro x15_34 M_35 H locs ls hw hl hf
                rw [f_L_scan_L318] at hf
                refine lv_iload hx hb dL_scan_318 (lv_at hl 8 rfl) ?_
                refine lv_aload hx hb dL_scan_320 (lv_at hl 3 rfl) ?_
                refine lv_iload hx hb dL_scan_322 (lv_at hl 5 rfl) ?_
                obtain ⟨g_36, hf⟩ := grd_e hf
                refine w_iald B hw (i := 150) (kw150 _) g_36 dL_scan_324 ?_
                refine lv_icmp_ge (tgt := 358) hx hb dL_scan_325 (by decide) (fun c_37 => ?_) (fun c_37 => ?_)
                · have hf := it_e hf c_37
                  exact J358_28 M_35 _ _ _ hw (lv_sub hl [1, 3, 4, 5, 6, 7] rfl) hf
                · have hf := ie_e hf c_37
                  refine lv_aload hx hb dL_scan_328 (lv_at hl 0 rfl) ?_
                  refine lv_bipush (v := 10) hx hb dL_scan_330 (by decide) ?_
                  refine lv_aload hx hb dL_scan_332 (lv_at hl 4 rfl) ?_
                  refine lv_iconst (v := 3) hx hb dL_scan_334 (by decide) ?_
                  refine w_iald B hw (i := 152) (kw152 _) (by decide) dL_scan_335 ?_
                  refine lv_imul hx hb dL_scan_336 ?_
                  refine lv_iload hx hb dL_scan_337 (lv_at hl 8 rfl) ?_
                  refine lv_iadd hx hb dL_scan_339 ?_
                  refine lv_aload hx hb dL_scan_340 (lv_at hl 2 rfl) ?_
                  refine lv_bipush (v := 10) hx hb dL_scan_342 (by decide) ?_
                  refine lv_iload hx hb dL_scan_344 (lv_at hl 5 rfl) ?_
                  refine lv_imul hx hb dL_scan_346 ?_
                  refine lv_iload hx hb dL_scan_347 (lv_at hl 8 rfl) ?_
                  refine lv_iadd hx hb dL_scan_349 ?_
                  obtain ⟨g_38, hf⟩ := grd_e hf
                  refine w_lald B hw (i := 149) (kw149 _) g_38 dL_scan_350 ?_
                  obtain ⟨g_39, hf⟩ := grd_e hf
                  refine w_last B hw (i := 148) (kw148 _) g_39 dL_scan_351 hf (fun M_40 H locs hw hf => ?_)
                  refine r_iinc (v := (x15_34 + 1)) hx hb dL_scan_352 hl (k := 8) rfl rfl (by decide) hf (fun x15_41 ls hl hf => ?_)
                  have hl : lv_has ls 16 [(15, .int x15_41), (6, .ref (X.2.2 148)), (7, .ref (X.2.2 153)), (8, .ref (X.2.2 149)), (9, .ref (X.2.2 150)), (10, .ref (X.2.2 152)), (11, .int p11), (12, .int x12_2), (14, .int x14_24)] := hl
                  refine lv_goto (tgt := 318) hx hb dL_scan_355 (by decide) ?_
                  exact ih_318 x15_41 M_40 _ _ _ hw (lv_sub hl [1, 2, 3, 4, 5, 6, 7, 8, 0] rfl) hf
            exact hL_318 fu 0 M_27 _ _ _ hw (lv_sub hl [1, 2, 3, 4, 5, 6, 7, 8, 0] rfl) hf
          have hL_292 : ∀ (n_292 : Nat) (x15_42 : Int32) (M_43 : Mem) (H : Heap) (locs : List Loc) (ls : Array Slot), HW (LW ex) X M_43 s H locs → lv_has ls 16 [(5, .ref (X.2.2 147)), (6, .ref (X.2.2 148)), (7, .ref (X.2.2 153)), (8, .ref (X.2.2 149)), (9, .ref (X.2.2 150)), (10, .ref (X.2.2 152)), (11, .int p11), (12, .int x12_2), (13, .int x13_14), (14, .int x14_24), (15, .int x15_42)] → f_L_scan_L292 fu x13_14 k315_26 n_292 x15_42 M_43 = some rs → W p l e rm_L_scan s m args below meth c H locs 0 0 Q (F0 m 292 ls []) := by
            intro n_292
            induction n_292 with
            | zero => intro x15_42 M_43 H locs ls hw hl hf; exact no_none hf
            | succ n_292 ih_292 =>
              intro x15_42 M_43 H locs ls hw hl hf
              rw [f_L_scan_L292] at hf
              refine lv_iload hx hb dL_scan_292 (lv_at hl 10 rfl) ?_
              refine lv_iconst (v := 4) hx hb dL_scan_294 (by decide) ?_
              refine lv_icmp_ge (tgt := 315) hx hb dL_scan_295 (by decide) (fun c_44 => ?_) (fun c_44 => ?_)
              · have hf := it_e hf c_44
                exact J315_26 M_43 _ _ _ hw (lv_sub hl [1, 2, 3, 4, 5, 6, 7, 9] rfl) hf
              · have hf := ie_e hf c_44
                refine lv_aload hx hb dL_scan_298 (lv_at hl 0 rfl) ?_
                refine lv_iload hx hb dL_scan_300 (lv_at hl 8 rfl) ?_
                refine lv_iconst (v := 4) hx hb dL_scan_302 (by decide) ?_
                refine lv_iadd hx hb dL_scan_303 ?_
                refine lv_iload hx hb dL_scan_304 (lv_at hl 10 rfl) ?_
                refine lv_iadd hx hb dL_scan_306 ?_
                refine lv_iconst (v := 0) hx hb dL_scan_307 (by decide) ?_
                obtain ⟨g_45, hf⟩ := grd_e hf
                refine w_iast B hw (i := 147) (kw147 _) g_45 dL_scan_308 hf (fun M_46 H locs hw hf => ?_)
                refine r_iinc (v := (x15_42 + 1)) hx hb dL_scan_309 hl (k := 10) rfl rfl (by decide) hf (fun x15_47 ls hl hf => ?_)
                have hl : lv_has ls 16 [(15, .int x15_47), (5, .ref (X.2.2 147)), (6, .ref (X.2.2 148)), (7, .ref (X.2.2 153)), (8, .ref (X.2.2 149)), (9, .ref (X.2.2 150)), (10, .ref (X.2.2 152)), (11, .int p11), (12, .int x12_2), (13, .int x13_14), (14, .int x14_24)] := hl
                refine lv_goto (tgt := 292) hx hb dL_scan_312 (by decide) ?_
                exact ih_292 x15_47 M_46 _ _ _ hw (lv_sub hl [1, 2, 3, 4, 5, 6, 7, 8, 9, 10, 0] rfl) hf
          exact hL_292 fu x14_24 M_25 _ _ _ hw (lv_sub hl [1, 2, 3, 4, 5, 6, 7, 8, 9, 10, 0] rfl) hf
        have hL_199 : ∀ (n_199 : Nat) (x14_48 : Int32) (x15_49 : Int32) (M_50 : Mem) (H : Heap) (locs : List Loc) (ls : Array Slot), HW (LW ex) X M_50 s H locs → lv_has ls 16 [(4, .ref (X.2.2 146)), (5, .ref (X.2.2 147)), (6, .ref (X.2.2 148)), (7, .ref (X.2.2 153)), (8, .ref (X.2.2 149)), (9, .ref (X.2.2 150)), (10, .ref (X.2.2 152)), (11, .int p11), (12, .int x12_2), (13, .int x13_14), (14, .int x14_48), (15, .int x15_49)] → f_L_scan_L199 fu p11 x13_14 k288_23 n_199 x14_48 x15_49 M_50 = some rs → W p l e rm_L_scan s m args below meth c H locs 0 0 Q (F0 m 199 ls []) := by
          intro n_199
          induction n_199 with
          | zero => intro x14_48 x15_49 M_50 H locs ls hw hl hf; exact no_none hf
          | succ n_199 ih_199 =>
            intro x14_48 x15_49 M_50 H locs ls hw hl hf
            rw [f_L_scan_L199] at hf
            refine lv_iload hx hb dL_scan_199 (lv_at hl 11 rfl) ?_
            refine lv_aload hx hb dL_scan_201 (lv_at hl 0 rfl) ?_
            refine lv_iconst (v := 2) hx hb dL_scan_203 (by decide) ?_
            refine w_iald B hw (i := 146) (kw146 _) (by decide) dL_scan_204 ?_
            refine lv_icmp_ge (tgt := 288) hx hb dL_scan_205 (by decide) (fun c_51 => ?_) (fun c_51 => ?_)
            · have hf := it_e hf c_51
              exact J288_23 x14_48 M_50 _ _ _ hw (lv_sub hl [1, 2, 3, 4, 5, 6, 7, 8, 9, 10] rfl) hf
            · have hf := ie_e hf c_51
              refine lv_aload hx hb dL_scan_208 (lv_at hl 0 rfl) ?_
              refine lv_iload hx hb dL_scan_210 (lv_at hl 11 rfl) ?_
              refine lv_iload hx hb dL_scan_212 (lv_at hl 7 rfl) ?_
              obtain ⟨r_53, h_52, hf⟩ := bd_e hf
              refine q_callSi (M' := M_50) (As := [.ref (X.2.2 146), .int x15_49, .int p11]) (rest := []) B hw (c_L_sent l _ X fu x15_49 p11 M_50 r_53 h_52 _) cs_L_215 rfl hl.1 rfl rfl ⟨(Nat.le_of_ble_eq_true rfl), (Nat.le_of_ble_eq_true rfl)⟩ (Nat.le_of_ble_eq_true rfl) ⟨(Nat.le_of_ble_eq_true rfl), (Nat.le_of_ble_eq_true rfl)⟩ dL_scan_214 rfl (fun H locs hw => ?_)
              refine lv_if_ne (tgt := 223) hx hb dL_scan_217 (by decide) (fun c_54 => ?_) (fun c_54 => ?_)
              · have hf := ie_e hf c_54
                refine lv_aload hx hb dL_scan_223 (lv_at hl 1 rfl) ?_
                refine lv_iload hx hb dL_scan_225 (lv_at hl 9 rfl) ?_
                refine lv_iconst (v := 4) hx hb dL_scan_227 (by decide) ?_
                refine lv_iadd hx hb dL_scan_228 ?_
                refine lv_iload hx hb dL_scan_229 (lv_at hl 10 rfl) ?_
                refine lv_iadd hx hb dL_scan_231 ?_
                refine lv_iconst (v := 1) hx hb dL_scan_232 (by decide) ?_
                refine lv_aload hx hb dL_scan_233 (lv_at hl 0 rfl) ?_
                refine lv_bipush (v := 23) hx hb dL_scan_235 (by decide) ?_
                refine lv_iconst (v := 4) hx hb dL_scan_237 (by decide) ?_
                refine lv_iload hx hb dL_scan_238 (lv_at hl 11 rfl) ?_
                refine lv_imul hx hb dL_scan_240 ?_
                refine lv_iadd hx hb dL_scan_241 ?_
                obtain ⟨g_55, hf⟩ := grd_e hf
                refine w_iald B hw (i := 146) (kw146 _) g_55 dL_scan_242 ?_
                refine lv_iconst (v := 2) hx hb dL_scan_243 (by decide) ?_
                refine lv_imul hx hb dL_scan_244 ?_
                refine lv_iadd hx hb dL_scan_245 ?_
                refine lv_aload hx hb dL_scan_246 (lv_at hl 0 rfl) ?_
                refine lv_bipush (v := 22) hx hb dL_scan_248 (by decide) ?_
                refine lv_iconst (v := 4) hx hb dL_scan_250 (by decide) ?_
                refine lv_iload hx hb dL_scan_251 (lv_at hl 11 rfl) ?_
                refine lv_imul hx hb dL_scan_253 ?_
                refine lv_iadd hx hb dL_scan_254 ?_
                obtain ⟨g_56, hf⟩ := grd_e hf
                refine w_iald B hw (i := 146) (kw146 _) g_56 dL_scan_255 ?_
                refine lv_bipush (v := 16) hx hb dL_scan_256 (by decide) ?_
                refine lv_imul hx hb dL_scan_258 ?_
                refine lv_iadd hx hb dL_scan_259 ?_
                refine lv_aload hx hb dL_scan_260 (lv_at hl 0 rfl) ?_
                refine lv_bipush (v := 24) hx hb dL_scan_262 (by decide) ?_
                refine lv_iconst (v := 4) hx hb dL_scan_264 (by decide) ?_
                refine lv_iload hx hb dL_scan_265 (lv_at hl 11 rfl) ?_
                refine lv_imul hx hb dL_scan_267 ?_
                refine lv_iadd hx hb dL_scan_268 ?_
                obtain ⟨g_57, hf⟩ := grd_e hf
                refine w_iald B hw (i := 146) (kw146 _) g_57 dL_scan_269 ?_
                refine lv_sipush (v := 1000) hx hb dL_scan_270 (by decide) ?_
                refine lv_iadd hx hb dL_scan_273 ?_
                refine lv_bipush (v := 64) hx hb dL_scan_274 (by decide) ?_
                refine lv_imul hx hb dL_scan_276 ?_
                refine lv_iadd hx hb dL_scan_277 ?_
                obtain ⟨g_58, hf⟩ := grd_e hf
                refine w_iast B hw (i := 147) (kw147 _) g_58 dL_scan_278 hf (fun M_59 H locs hw hf => ?_)
                refine r_iinc (v := (x14_48 + 1)) hx hb dL_scan_279 hl (k := 10) rfl rfl (by decide) hf (fun x14_60 ls hl hf => ?_)
                have hl : lv_has ls 16 [(14, .int x14_60), (4, .ref (X.2.2 146)), (5, .ref (X.2.2 147)), (6, .ref (X.2.2 148)), (7, .ref (X.2.2 153)), (8, .ref (X.2.2 149)), (9, .ref (X.2.2 150)), (10, .ref (X.2.2 152)), (11, .int p11), (12, .int x12_2), (13, .int x13_14), (15, .int x15_49)] := hl
                refine r_iinc (v := (x15_49 + 1)) hx hb dL_scan_282 hl (k := 11) rfl rfl (by decide) hf (fun x15_61 ls hl hf => ?_)
                have hl : lv_has ls 16 [(15, .int x15_61), (14, .int x14_60), (4, .ref (X.2.2 146)), (5, .ref (X.2.2 147)), (6, .ref (X.2.2 148)), (7, .ref (X.2.2 153)), (8, .ref (X.2.2 149)), (9, .ref (X.2.2 150)), (10, .ref (X.2.2 152)), (11, .int p11), (12, .int x12_2), (13, .int x13_14)] := hl
                refine lv_goto (tgt := 199) hx hb dL_scan_285 (by decide) ?_
                exact ih_199 x14_60 x15_61 M_59 _ _ _ hw (lv_sub hl [2, 3, 4, 5, 6, 7, 8, 9, 10, 11, 1, 0] rfl) hf
              · have hf := it_e hf c_54
                refine lv_goto (tgt := 282) hx hb dL_scan_220 (by decide) ?_
                refine r_iinc (v := (x15_49 + 1)) hx hb dL_scan_282 hl (k := 11) rfl rfl (by decide) hf (fun x15_62 ls hl hf => ?_)
                have hl : lv_has ls 16 [(15, .int x15_62), (4, .ref (X.2.2 146)), (5, .ref (X.2.2 147)), (6, .ref (X.2.2 148)), (7, .ref (X.2.2 153)), (8, .ref (X.2.2 149)), (9, .ref (X.2.2 150)), (10, .ref (X.2.2 152)), (11, .int p11), (12, .int x12_2), (13, .int x13_14), (14, .int x14_48)] := hl
                refine lv_goto (tgt := 199) hx hb dL_scan_285 (by decide) ?_
                exact ih_199 x14_48 x15_62 M_50 _ _ _ hw (lv_sub hl [1, 2, 3, 4, 5, 6, 7, 8, 9, 10, 11, 0] rfl) hf
        exact hL_199 fu 0 0 M_22 _ _ _ hw (lv_sub hl [3, 4, 5, 6, 7, 8, 9, 10, 11, 2, 1, 0] rfl) hf
      refine lv_icmp_ne (tgt := 143) hx hb dL_scan_74 (by decide) (fun c_63 => ?_) (fun c_63 => ?_)
      · have hf := ie_e hf c_63
        exact J143_12 M_10 _ _ _ hw (lv_sub hl [5, 6, 7, 8, 9, 10, 11, 12, 0] rfl) hf
      · have hf := it_e hf c_63
        refine lv_iconst (v := 0) hx hb dL_scan_77 (by decide) ?_
        refine lv_istore (lv' := [(13, .int 0), (12, .int x12_2), (0, .ref (X.2.2 142)), (1, .ref (X.2.2 143)), (2, .ref (X.2.2 144)), (3, .ref (X.2.2 145)), (4, .ref (X.2.2 146)), (5, .ref (X.2.2 147)), (6, .ref (X.2.2 148)), (7, .ref (X.2.2 153)), (8, .ref (X.2.2 149)), (9, .ref (X.2.2 150)), (10, .ref (X.2.2 152)), (11, .int p11)]) hx hb dL_scan_78 hl (by decide) rfl (fun ls hl => ?_)
        refine jn_e hf (fun kk => ∀ (M_65 : Mem) (H : Heap) (locs : List Loc) (ls : Array Slot), HW (LW ex) X M_65 s H locs → lv_has ls 16 [(4, .ref (X.2.2 146)), (5, .ref (X.2.2 147)), (6, .ref (X.2.2 148)), (7, .ref (X.2.2 153)), (8, .ref (X.2.2 149)), (9, .ref (X.2.2 150)), (10, .ref (X.2.2 152)), (11, .int p11), (12, .int x12_2)] → kk M_65 = some rs → W p l e rm_L_scan s m args below meth c H locs 0 0 Q (F0 m 106 ls [])) ?_ (fun k106_64 J106_64 hf => ?_)
        · intro M_65 H locs ls hw hl hf
          refine lv_iconst (v := 0) hx hb dL_scan_106 (by decide) ?_
          refine lv_istore (lv' := [(13, .int 0), (4, .ref (X.2.2 146)), (5, .ref (X.2.2 147)), (6, .ref (X.2.2 148)), (7, .ref (X.2.2 153)), (8, .ref (X.2.2 149)), (9, .ref (X.2.2 150)), (10, .ref (X.2.2 152)), (11, .int p11), (12, .int x12_2)]) hx hb dL_scan_107 hl (by decide) rfl (fun ls hl => ?_)
          refine jn_e hf (fun kk => ∀ (M_67 : Mem) (H : Heap) (locs : List Loc) (ls : Array Slot), HW (LW ex) X M_67 s H locs → lv_has ls 16 [(4, .ref (X.2.2 146)), (5, .ref (X.2.2 147)), (6, .ref (X.2.2 148)), (7, .ref (X.2.2 153)), (8, .ref (X.2.2 149)), (9, .ref (X.2.2 150)), (10, .ref (X.2.2 152)), (11, .int p11), (12, .int x12_2)] → kk M_67 = some rs → W p l e rm_L_scan s m args below meth c H locs 0 0 Q (F0 m 135 ls [])) ?_ (fun k135_66 J135_66 hf => ?_)
          · intro M_67 H locs ls hw hl hf
            refine lv_aload hx hb dL_scan_135 (lv_at hl 6 rfl) ?_
            refine lv_iconst (v := 3) hx hb dL_scan_137 (by decide) ?_
            refine lv_dup2_11 hx hb dL_scan_138 rfl rfl ?_
            refine w_iald B hw (i := 152) (kw152 _) (by decide) dL_scan_139 ?_
            refine lv_iconst (v := 1) hx hb dL_scan_140 (by decide) ?_
            refine lv_isub hx hb dL_scan_141 ?_
            refine w_iast B hw (i := 152) (kw152 _) (by decide) dL_scan_142 hf (fun M_68 H locs hw hf => ?_)
            exact J143_12 M_68 _ _ _ hw (lv_sub hl [0, 1, 2, 3, 4, 5, 6, 7, 8] rfl) hf
          have hL_109 : ∀ (n_109 : Nat) (x13_69 : Int32) (M_70 : Mem) (H : Heap) (locs : List Loc) (ls : Array Slot), HW (LW ex) X M_70 s H locs → lv_has ls 16 [(4, .ref (X.2.2 146)), (5, .ref (X.2.2 147)), (6, .ref (X.2.2 148)), (7, .ref (X.2.2 153)), (8, .ref (X.2.2 149)), (9, .ref (X.2.2 150)), (10, .ref (X.2.2 152)), (11, .int p11), (12, .int x12_2), (13, .int x13_69)] → f_L_scan_L109 fu k135_66 n_109 x13_69 M_70 = some rs → W p l e rm_L_scan s m args below meth c H locs 0 0 Q (F0 m 109 ls []) := by
            intro n_109
            induction n_109 with
            | zero => intro x13_69 M_70 H locs ls hw hl hf; exact no_none hf
            | succ n_109 ih_109 =>
              intro x13_69 M_70 H locs ls hw hl hf
              rw [f_L_scan_L109] at hf
              refine lv_iload hx hb dL_scan_109 (lv_at hl 9 rfl) ?_
              refine lv_bipush (v := 50) hx hb dL_scan_111 (by decide) ?_
              refine lv_icmp_ge (tgt := 135) hx hb dL_scan_113 (by decide) (fun c_71 => ?_) (fun c_71 => ?_)
              · have hf := it_e hf c_71
                exact J135_66 M_70 _ _ _ hw (lv_sub hl [0, 1, 2, 3, 4, 5, 6, 7, 8] rfl) hf
              · have hf := ie_e hf c_71
                refine lv_aload hx hb dL_scan_116 (lv_at hl 2 rfl) ?_
                refine lv_iload hx hb dL_scan_118 (lv_at hl 9 rfl) ?_
                refine lv_aload hx hb dL_scan_120 (lv_at hl 2 rfl) ?_
                refine lv_iload hx hb dL_scan_122 (lv_at hl 9 rfl) ?_
                refine lv_bipush (v := 10) hx hb dL_scan_124 (by decide) ?_
                refine lv_iadd hx hb dL_scan_126 ?_
                obtain ⟨g_72, hf⟩ := grd_e hf
                refine w_lald B hw (i := 148) (kw148 _) g_72 dL_scan_127 ?_
                obtain ⟨g_73, hf⟩ := grd_e hf
                refine w_last B hw (i := 148) (kw148 _) g_73 dL_scan_128 hf (fun M_74 H locs hw hf => ?_)
                refine r_iinc (v := (x13_69 + 1)) hx hb dL_scan_129 hl (k := 9) rfl rfl (by decide) hf (fun x13_75 ls hl hf => ?_)
                have hl : lv_has ls 16 [(13, .int x13_75), (4, .ref (X.2.2 146)), (5, .ref (X.2.2 147)), (6, .ref (X.2.2 148)), (7, .ref (X.2.2 153)), (8, .ref (X.2.2 149)), (9, .ref (X.2.2 150)), (10, .ref (X.2.2 152)), (11, .int p11), (12, .int x12_2)] := hl
                refine lv_goto (tgt := 109) hx hb dL_scan_132 (by decide) ?_
                exact ih_109 x13_75 M_74 _ _ _ hw (lv_sub hl [1, 2, 3, 4, 5, 6, 7, 8, 9, 0] rfl) hf
          exact hL_109 fu 0 M_65 _ _ _ hw (lv_sub hl [1, 2, 3, 4, 5, 6, 7, 8, 9, 0] rfl) hf
        have hL_80 : ∀ (n_80 : Nat) (x13_76 : Int32) (M_77 : Mem) (H : Heap) (locs : List Loc) (ls : Array Slot), HW (LW ex) X M_77 s H locs → lv_has ls 16 [(4, .ref (X.2.2 146)), (5, .ref (X.2.2 147)), (6, .ref (X.2.2 148)), (7, .ref (X.2.2 153)), (8, .ref (X.2.2 149)), (9, .ref (X.2.2 150)), (10, .ref (X.2.2 152)), (11, .int p11), (12, .int x12_2), (13, .int x13_76)] → f_L_scan_L80 fu k106_64 n_80 x13_76 M_77 = some rs → W p l e rm_L_scan s m args below meth c H locs 0 0 Q (F0 m 80 ls []) := by
          intro n_80
          induction n_80 with
          | zero => intro x13_76 M_77 H locs ls hw hl hf; exact no_none hf
          | succ n_80 ih_80 =>
            intro x13_76 M_77 H locs ls hw hl hf
            rw [f_L_scan_L80] at hf
            refine lv_iload hx hb dL_scan_80 (lv_at hl 9 rfl) ?_
            refine lv_bipush (v := 40) hx hb dL_scan_82 (by decide) ?_
            refine lv_icmp_ge (tgt := 106) hx hb dL_scan_84 (by decide) (fun c_78 => ?_) (fun c_78 => ?_)
            · have hf := it_e hf c_78
              exact J106_64 M_77 _ _ _ hw (lv_sub hl [0, 1, 2, 3, 4, 5, 6, 7, 8] rfl) hf
            · have hf := ie_e hf c_78
              refine lv_aload hx hb dL_scan_87 (lv_at hl 1 rfl) ?_
              refine lv_iload hx hb dL_scan_89 (lv_at hl 9 rfl) ?_
              refine lv_aload hx hb dL_scan_91 (lv_at hl 1 rfl) ?_
              refine lv_iload hx hb dL_scan_93 (lv_at hl 9 rfl) ?_
              refine lv_bipush (v := 8) hx hb dL_scan_95 (by decide) ?_
              refine lv_iadd hx hb dL_scan_97 ?_
              obtain ⟨g_79, hf⟩ := grd_e hf
              refine w_iald B hw (i := 147) (kw147 _) g_79 dL_scan_98 ?_
              obtain ⟨g_80, hf⟩ := grd_e hf
              refine w_iast B hw (i := 147) (kw147 _) g_80 dL_scan_99 hf (fun M_81 H locs hw hf => ?_)
              refine r_iinc (v := (x13_76 + 1)) hx hb dL_scan_100 hl (k := 9) rfl rfl (by decide) hf (fun x13_82 ls hl hf => ?_)
              have hl : lv_has ls 16 [(13, .int x13_82), (4, .ref (X.2.2 146)), (5, .ref (X.2.2 147)), (6, .ref (X.2.2 148)), (7, .ref (X.2.2 153)), (8, .ref (X.2.2 149)), (9, .ref (X.2.2 150)), (10, .ref (X.2.2 152)), (11, .int p11), (12, .int x12_2)] := hl
              refine lv_goto (tgt := 80) hx hb dL_scan_103 (by decide) ?_
              exact ih_80 x13_82 M_81 _ _ _ hw (lv_sub hl [1, 2, 3, 4, 5, 6, 7, 8, 9, 0] rfl) hf
        exact hL_80 fu 0 M_10 _ _ _ hw (lv_sub hl [6, 7, 8, 9, 10, 11, 12, 13, 1, 0] rfl) hf
    · have hf := it_e hf c_11
      refine lv_iconst (v := 1) hx hb dL_scan_66 (by decide) ?_
      cases hf
      subst hQ
      exact q_zret B hr hlk rfl hw rfl rfl dL_scan_67
  · have hf := it_e hf c_8
    refine lv_iconst (v := 1) hx hb dL_scan_34 (by decide) ?_
    cases hf
    subst hQ
    exact q_zret B hr hlk rfl hw rfl rfl dL_scan_35
abbrev rm_L_follows : Room := { frames := 0, cells := 0, slots := 0, locals := 0 }
set_option maxRecDepth 100000 in
set_option maxHeartbeats 8000000 in
theorem c_L_follows (l : Launch) (ex : List (Nat × Nat)) (X : XT) (p0 : Int32) (p1 : Int32) (p2 : Int32) (p3 : Int32)  (rs : Int32) (hf : f_L_follows p0 p1 p2 p3 = rs) (M : Mem) (sz : Nat) : Met l yL_follows (wbig yL_follows cL_follows 6 (some .boolean)) rm_L_follows (va_Pc [.int p0, .int p1, .int p2, .int p3] (PW (LW ex) X M sz)) (QI (LW ex) X M rs sz) 0 0 (AX (LW ex) X sz) := by
  refine met_go (L := (LW ex)) (M := M) (by decide +kernel) (Nat.le_of_ble_eq_true rfl) ?_
  intro p e s m args below meth c hsz B hr hlk hw ls hl
  subst hsz
  have hx := B.hx
  have hb := B.hb
  have hl : lv_has ls 6 [(0, .int p0), (1, .int p1), (2, .int p2), (3, .int p3)] := hl
  generalize hQ : MQ below _ args s 0 0 (AX (LW ex) X s.heap.size) = Q
  unfold f_L_follows at hf
  refine lv_iload_n hx hb dL_follows_0 rfl (lv_at hl 0 rfl) ?_
  refine lv_iconst (v := 1) hx hb dL_follows_1 (by decide) ?_
  refine lv_ishr hx hb dL_follows_2 ?_
  refine lv_bipush (v := 7) hx hb dL_follows_3 (by decide) ?_
  refine lv_iand hx hb dL_follows_5 ?_
  refine r_topn hf (fun x4_1 hf => ?_)
  refine lv_istore (lv' := [(4, .int x4_1), (0, .int p0), (1, .int p1), (2, .int p2), (3, .int p3)]) hx hb dL_follows_6 hl (by decide) rfl (fun ls hl => ?_)
  refine lv_iload_n hx hb dL_follows_8 rfl (lv_at hl 1 rfl) ?_
  refine lv_bipush (v := 6) hx hb dL_follows_9 (by decide) ?_
  refine lv_ishr hx hb dL_follows_11 ?_
  refine lv_sipush (v := 1000) hx hb dL_follows_12 (by decide) ?_
  refine lv_isub hx hb dL_follows_15 ?_
  refine r_topn hf (fun x5_2 hf => ?_)
  refine lv_istore (lv' := [(5, .int x5_2), (4, .int x4_1), (0, .int p0), (1, .int p1), (2, .int p2), (3, .int p3)]) hx hb dL_follows_16 hl (by decide) rfl (fun ls hl => ?_)
  refine lv_iload_n hx hb dL_follows_18 rfl (lv_at hl 2 rfl) ?_
  refine lv_iconst (v := 4) hx hb dL_follows_19 (by decide) ?_
  refine lv_ishr hx hb dL_follows_20 ?_
  refine lv_iconst (v := 3) hx hb dL_follows_21 (by decide) ?_
  refine lv_iand hx hb dL_follows_22 ?_
  refine lv_iload_n hx hb dL_follows_23 rfl (lv_at hl 4 rfl) ?_
  refine lv_icmp_eq (tgt := 29) hx hb dL_follows_24 (by decide) (fun c_3 => ?_) (fun c_3 => ?_)
  · have hf := it_e hf c_3
    refine lv_iload hx hb dL_follows_29 (lv_at hl 1 rfl) ?_
    refine lv_iload_n hx hb dL_follows_31 rfl (lv_at hl 3 rfl) ?_
    refine jn_e hf (fun kk => ∀ (_ : Unit) (H : Heap) (locs : List Loc) (ls : Array Slot), HW (LW ex) X M s H locs → lv_has ls 6 [(1, .int p1), (3, .int p3), (4, .int x4_1), (5, .int x5_2)] → kk () = rs → W p l e rm_L_follows s m args below meth c H locs 0 0 Q (F0 m 43 ls [])) ?_ (fun k43_4 J43_4 hf => ?_)
    · intro _ H locs ls hw hl hf
      refine lv_iload hx hb dL_follows_43 (lv_at hl 2 rfl) ?_
      refine lv_iconst (v := 1) hx hb dL_follows_45 (by decide) ?_
      refine jn_e hf (fun kk => ∀ (_ : Unit) (H : Heap) (locs : List Loc) (ls : Array Slot), HW (LW ex) X M s H locs → lv_has ls 6 [(1, .int p1), (3, .int p3), (4, .int x4_1), (5, .int x5_2)] → kk () = rs → W p l e rm_L_follows s m args below meth c H locs 0 0 Q (F0 m 70 ls [])) ?_ (fun k70_5 J70_5 hf => ?_)
      · intro _ H locs ls hw hl hf
        refine lv_iload hx hb dL_follows_70 (lv_at hl 2 rfl) ?_
        refine lv_iconst (v := 2) hx hb dL_follows_72 (by decide) ?_
        refine lv_icmp_ne (tgt := 101) hx hb dL_follows_73 (by decide) (fun c_6 => ?_) (fun c_6 => ?_)
        · have hf := ie_e hf c_6
          refine lv_iconst (v := 0) hx hb dL_follows_101 (by decide) ?_
          subst hf
          subst hQ
          exact q_zret B hr hlk rfl hw rfl rfl dL_follows_102
        · have hf := it_e hf c_6
          refine lv_iload_n hx hb dL_follows_76 rfl (lv_at hl 0 rfl) ?_
          refine lv_iconst (v := 2) hx hb dL_follows_77 (by decide) ?_
          refine jn_e hf (fun kk => ∀ (_ : Unit) (H : Heap) (locs : List Loc) (ls : Array Slot), HW (LW ex) X M s H locs → lv_has ls 6 [(1, .int p1), (3, .int p3), (5, .int x5_2)] → kk () = rs → W p l e rm_L_follows s m args below meth c H locs 0 0 Q (F0 m 87 ls [])) ?_ (fun k87_7 J87_7 hf => ?_)
          · intro _ H locs ls hw hl hf
            refine lv_iload_n hx hb dL_follows_87 rfl (lv_at hl 0 rfl) ?_
            refine lv_if_ne (tgt := 101) hx hb dL_follows_88 (by decide) (fun c_8 => ?_) (fun c_8 => ?_)
            · have hf := ie_e hf c_8
              refine lv_iconst (v := 0) hx hb dL_follows_101 (by decide) ?_
              subst hf
              subst hQ
              exact q_zret B hr hlk rfl hw rfl rfl dL_follows_102
            · have hf := it_e hf c_8
              refine lv_iload_n hx hb dL_follows_91 rfl (lv_at hl 1 rfl) ?_
              refine lv_iload hx hb dL_follows_92 (lv_at hl 2 rfl) ?_
              refine lv_icmp_le (tgt := 101) hx hb dL_follows_94 (by decide) (fun c_9 => ?_) (fun c_9 => ?_)
              · have hf := it_e hf c_9
                refine lv_iconst (v := 0) hx hb dL_follows_101 (by decide) ?_
                subst hf
                subst hQ
                exact q_zret B hr hlk rfl hw rfl rfl dL_follows_102
              · have hf := ie_e hf c_9
                refine lv_iconst (v := 1) hx hb dL_follows_97 (by decide) ?_
                refine lv_goto (tgt := 102) hx hb dL_follows_98 (by decide) ?_
                subst hf
                subst hQ
                exact q_zret B hr hlk rfl hw rfl rfl dL_follows_102
          refine lv_icmp_ne (tgt := 87) hx hb dL_follows_78 (by decide) (fun c_10 => ?_) (fun c_10 => ?_)
          · have hf := ie_e hf c_10
            exact J87_7 () _ _ _ hw (lv_sub hl [0, 1, 3] rfl) hf
          · have hf := it_e hf c_10
            refine lv_iload_n hx hb dL_follows_81 rfl (lv_at hl 1 rfl) ?_
            refine lv_iload hx hb dL_follows_82 (lv_at hl 3 rfl) ?_
            refine lv_icmp_gt (tgt := 97) hx hb dL_follows_84 (by decide) (fun c_11 => ?_) (fun c_11 => ?_)
            · have hf := it_e hf c_11
              refine lv_iconst (v := 1) hx hb dL_follows_97 (by decide) ?_
              refine lv_goto (tgt := 102) hx hb dL_follows_98 (by decide) ?_
              subst hf
              subst hQ
              exact q_zret B hr hlk rfl hw rfl rfl dL_follows_102
            · have hf := ie_e hf c_11
              exact J87_7 () _ _ _ hw (lv_sub hl [0, 1, 3] rfl) hf
      refine lv_icmp_ne (tgt := 70) hx hb dL_follows_46 (by decide) (fun c_12 => ?_) (fun c_12 => ?_)
      · have hf := ie_e hf c_12
        exact J70_5 () _ _ _ hw (lv_sub hl [0, 1, 2, 3] rfl) hf
      · have hf := it_e hf c_12
        refine lv_iload_n hx hb dL_follows_49 rfl (lv_at hl 0 rfl) ?_
        refine lv_iconst (v := 1) hx hb dL_follows_50 (by decide) ?_
        refine jn_e hf (fun kk => ∀ (_ : Unit) (H : Heap) (locs : List Loc) (ls : Array Slot), HW (LW ex) X M s H locs → lv_has ls 6 [(1, .int p1), (3, .int p3), (4, .int x4_1), (5, .int x5_2)] → kk () = rs → W p l e rm_L_follows s m args below meth c H locs 0 0 Q (F0 m 60 ls [])) ?_ (fun k60_13 J60_13 hf => ?_)
        · intro _ H locs ls hw hl hf
          refine lv_iload_n hx hb dL_follows_60 rfl (lv_at hl 0 rfl) ?_
          refine lv_if_ne (tgt := 70) hx hb dL_follows_61 (by decide) (fun c_14 => ?_) (fun c_14 => ?_)
          · have hf := ie_e hf c_14
            exact J70_5 () _ _ _ hw (lv_sub hl [0, 1, 2, 3] rfl) hf
          · have hf := it_e hf c_14
            refine lv_iload_n hx hb dL_follows_64 rfl (lv_at hl 1 rfl) ?_
            refine lv_iload hx hb dL_follows_65 (lv_at hl 3 rfl) ?_
            refine lv_icmp_lt (tgt := 97) hx hb dL_follows_67 (by decide) (fun c_15 => ?_) (fun c_15 => ?_)
            · have hf := it_e hf c_15
              refine lv_iconst (v := 1) hx hb dL_follows_97 (by decide) ?_
              refine lv_goto (tgt := 102) hx hb dL_follows_98 (by decide) ?_
              subst hf
              subst hQ
              exact q_zret B hr hlk rfl hw rfl rfl dL_follows_102
            · have hf := ie_e hf c_15
              exact J70_5 () _ _ _ hw (lv_sub hl [0, 1, 2, 3] rfl) hf
        refine lv_icmp_ne (tgt := 60) hx hb dL_follows_51 (by decide) (fun c_16 => ?_) (fun c_16 => ?_)
        · have hf := ie_e hf c_16
          exact J60_13 () _ _ _ hw (lv_sub hl [0, 1, 2, 3] rfl) hf
        · have hf := it_e hf c_16
          refine lv_iload_n hx hb dL_follows_54 rfl (lv_at hl 1 rfl) ?_
          refine lv_iload hx hb dL_follows_55 (lv_at hl 3 rfl) ?_
          refine lv_icmp_lt (tgt := 97) hx hb dL_follows_57 (by decide) (fun c_17 => ?_) (fun c_17 => ?_)
          · have hf := it_e hf c_17
            refine lv_iconst (v := 1) hx hb dL_follows_97 (by decide) ?_
            refine lv_goto (tgt := 102) hx hb dL_follows_98 (by decide) ?_
            subst hf
            subst hQ
            exact q_zret B hr hlk rfl hw rfl rfl dL_follows_102
          · have hf := ie_e hf c_17
            exact J60_13 () _ _ _ hw (lv_sub hl [0, 1, 2, 3] rfl) hf
    refine lv_icmp_ne (tgt := 43) hx hb dL_follows_32 (by decide) (fun c_18 => ?_) (fun c_18 => ?_)
    · have hf := ie_e hf c_18
      exact J43_4 () _ _ _ hw (lv_sub hl [3, 5, 1, 0] rfl) hf
    · have hf := it_e hf c_18
      refine lv_iload hx hb dL_follows_35 (lv_at hl 0 rfl) ?_
      refine lv_iload_n hx hb dL_follows_37 rfl (lv_at hl 5 rfl) ?_
      refine lv_icmp_ne (tgt := 43) hx hb dL_follows_38 (by decide) (fun c_19 => ?_) (fun c_19 => ?_)
      · have hf := ie_e hf c_19
        exact J43_4 () _ _ _ hw (lv_sub hl [3, 5, 1, 0] rfl) hf
      · have hf := it_e hf c_19
        refine lv_iconst (v := 1) hx hb dL_follows_41 (by decide) ?_
        subst hf
        subst hQ
        exact q_zret B hr hlk rfl hw rfl rfl dL_follows_42
  · have hf := ie_e hf c_3
    refine lv_iconst (v := 0) hx hb dL_follows_27 (by decide) ?_
    subst hf
    subst hQ
    exact q_zret B hr hlk rfl hw rfl rfl dL_follows_28
theorem isb_f_L_follows (p0 : Int32) (p1 : Int32) (p2 : Int32) (p3 : Int32) : isb (f_L_follows p0 p1 p2 p3) = true := by
  unfold f_L_follows
  try simp only [jn, nm]
  repeat' first | apply isb_ite | exact isb_0 | exact isb_1
