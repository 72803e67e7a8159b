abbrev rm_L_does : Room := { frames := 3, cells := 0, slots := 0, locals := 72 }
set_option maxRecDepth 100000 in
set_option maxHeartbeats 8000000 in
theorem c_L_does (l : Launch) (X : XT) (fu : Nat) (p1 : Int32) (M : Mem)  (rs : (Int32 × Mem)) (hf : f_L_does fu p1 M = some rs) (sz : Nat) : Met l yL_does (wbig yL_does cL_does 12 (some .boolean)) rm_L_does (va_Pc [.ref (X.2.2 155), .int p1, .ref (X.2.2 157), .ref (X.2.2 142), .ref (X.2.2 143), .ref (X.2.2 153), .ref (X.2.2 152)] (PW (LW [(24, 4)]) X M sz)) (QI (LW [(24, 4)]) X rs.2 rs.1 sz) 0 0 (AX (LW [(24, 4)]) X sz) := by
  refine met_go (L := (LW [(24, 4)])) (M := M) (by decide +kernel) (Nat.le_of_ble_eq_true rfl) ?_
  intro p e s m args below meth c hsz B hr hlk hw ls hl
  subst hsz
  have hx := B.hx
  have hb := B.hb
  have hl : lv_has ls 12 [(0, .ref (X.2.2 155)), (1, .int p1), (2, .ref (X.2.2 157)), (3, .ref (X.2.2 142)), (4, .ref (X.2.2 143)), (5, .ref (X.2.2 153)), (6, .ref (X.2.2 152))] := hl
  generalize hQ : MQ below _ args s 0 0 (AX (LW [(24, 4)]) X s.heap.size) = Q
  unfold f_L_does at hf
  refine lv_aload_n hx hb dL_does_0 rfl (lv_at hl 0 rfl) ?_
  refine lv_bipush (v := 6) hx hb dL_does_1 (by decide) ?_
  refine lv_iload_n hx hb dL_does_3 rfl (lv_at hl 1 rfl) ?_
  refine lv_imul hx hb dL_does_4 ?_
  refine lv_iconst (v := 1) hx hb dL_does_5 (by decide) ?_
  refine lv_iadd hx hb dL_does_6 ?_
  obtain ⟨g_1, hf⟩ := grd_e hf
  refine w_iald B hw (i := 155) (kw155 _) g_1 dL_does_7 ?_
  refine r_topn hf (fun x7_2 hf => ?_)
  refine lv_istore (lv' := [(7, .int x7_2), (0, .ref (X.2.2 155)), (1, .int p1), (2, .ref (X.2.2 157)), (3, .ref (X.2.2 142)), (4, .ref (X.2.2 143)), (5, .ref (X.2.2 153)), (6, .ref (X.2.2 152))]) hx hb dL_does_8 hl (by decide) rfl (fun ls hl => ?_)
  refine lv_aload_n hx hb dL_does_10 rfl (lv_at hl 1 rfl) ?_
  refine lv_bipush (v := 6) hx hb dL_does_11 (by decide) ?_
  refine lv_iload_n hx hb dL_does_13 rfl (lv_at hl 2 rfl) ?_
  refine lv_imul hx hb dL_does_14 ?_
  refine lv_iconst (v := 2) hx hb dL_does_15 (by decide) ?_
  refine lv_iadd hx hb dL_does_16 ?_
  obtain ⟨g_3, hf⟩ := grd_e hf
  refine w_iald B hw (i := 155) (kw155 _) g_3 dL_does_17 ?_
  refine r_topn hf (fun x8_4 hf => ?_)
  refine lv_istore (lv' := [(8, .int x8_4), (7, .int x7_2), (0, .ref (X.2.2 155)), (1, .int p1), (2, .ref (X.2.2 157)), (3, .ref (X.2.2 142)), (4, .ref (X.2.2 143)), (5, .ref (X.2.2 153)), (6, .ref (X.2.2 152))]) hx hb dL_does_18 hl (by decide) rfl (fun ls hl => ?_)
  refine lv_aload_n hx hb dL_does_20 rfl (lv_at hl 2 rfl) ?_
  refine lv_bipush (v := 6) hx hb dL_does_21 (by decide) ?_
  refine lv_iload_n hx hb dL_does_23 rfl (lv_at hl 3 rfl) ?_
  refine lv_imul hx hb dL_does_24 ?_
  refine lv_iconst (v := 3) hx hb dL_does_25 (by decide) ?_
  refine lv_iadd hx hb dL_does_26 ?_
  obtain ⟨g_5, hf⟩ := grd_e hf
  refine w_iald B hw (i := 155) (kw155 _) g_5 dL_does_27 ?_
  refine r_topn hf (fun x9_6 hf => ?_)
  refine lv_istore (lv' := [(9, .int x9_6), (8, .int x8_4), (7, .int x7_2), (0, .ref (X.2.2 155)), (1, .int p1), (2, .ref (X.2.2 157)), (3, .ref (X.2.2 142)), (4, .ref (X.2.2 143)), (5, .ref (X.2.2 153)), (6, .ref (X.2.2 152))]) hx hb dL_does_28 hl (by decide) rfl (fun ls hl => ?_)
  refine lv_aload_n hx hb dL_does_30 rfl (lv_at hl 3 rfl) ?_
  refine lv_bipush (v := 6) hx hb dL_does_31 (by decide) ?_
  refine lv_iload_n hx hb dL_does_33 rfl (lv_at hl 4 rfl) ?_
  refine lv_imul hx hb dL_does_34 ?_
  refine lv_iconst (v := 4) hx hb dL_does_35 (by decide) ?_
  refine lv_iadd hx hb dL_does_36 ?_
  obtain ⟨g_7, hf⟩ := grd_e hf
  refine w_iald B hw (i := 155) (kw155 _) g_7 dL_does_37 ?_
  refine r_topn hf (fun x10_8 hf => ?_)
  refine lv_istore (lv' := [(10, .int x10_8), (9, .int x9_6), (8, .int x8_4), (7, .int x7_2), (0, .ref (X.2.2 155)), (1, .int p1), (2, .ref (X.2.2 157)), (3, .ref (X.2.2 142)), (4, .ref (X.2.2 143)), (5, .ref (X.2.2 153)), (6, .ref (X.2.2 152))]) hx hb dL_does_38 hl (by decide) rfl (fun ls hl => ?_)
  refine lv_aload_n hx hb dL_does_40 rfl (lv_at hl 4 rfl) ?_
  refine lv_bipush (v := 6) hx hb dL_does_41 (by decide) ?_
  refine lv_iload_n hx hb dL_does_43 rfl (lv_at hl 5 rfl) ?_
  refine lv_imul hx hb dL_does_44 ?_
  obtain ⟨g_9, hf⟩ := grd_e hf
  refine w_iald B hw (i := 155) (kw155 _) g_9 dL_does_45 ?_
  refine lv_if_ne (tgt := 160) hx hb dL_does_46 (by decide) (fun c_10 => ?_) (fun c_10 => ?_)
  · have hf := ie_e hf c_10
    refine lv_aload_n hx hb dL_does_160 rfl (lv_at hl 7 rfl) ?_
    refine lv_aload hx hb dL_does_161 (lv_at hl 8 rfl) ?_
    refine lv_iload hx hb dL_does_163 (lv_at hl 3 rfl) ?_
    refine lv_iload hx hb dL_does_165 (lv_at hl 2 rfl) ?_
    obtain ⟨r_12, h_11, hf⟩ := bd_e hf
    refine q_callSi (M' := M) (As := [.ref (X.2.2 142), .ref (X.2.2 143), .int x7_2, .int x8_4]) (rest := []) B hw (c_L_place l _ X fu x7_2 x8_4 M r_12 h_11 _) cs_L_121 rfl hl.1 rfl rfl ⟨(Nat.le_of_ble_eq_true rfl), (Nat.le_of_ble_eq_true rfl)⟩ (Nat.le_of_ble_eq_true rfl) ⟨(Nat.le_of_ble_eq_true rfl), (Nat.le_of_ble_eq_true rfl)⟩ dL_does_167 rfl (fun H locs hw => ?_)
    refine lv_istore (lv' := [(11, .int r_12), (10, .int x10_8), (9, .int x9_6), (8, .int x8_4), (7, .int x7_2), (0, .ref (X.2.2 155)), (1, .int p1), (2, .ref (X.2.2 157)), (3, .ref (X.2.2 142)), (4, .ref (X.2.2 143)), (5, .ref (X.2.2 153)), (6, .ref (X.2.2 152))]) hx hb dL_does_170 hl (by decide) rfl (fun ls hl => ?_)
    refine lv_aload_n hx hb dL_does_172 rfl (lv_at hl 5 rfl) ?_
    refine lv_bipush (v := 6) hx hb dL_does_173 (by decide) ?_
    refine lv_iload_n hx hb dL_does_175 rfl (lv_at hl 6 rfl) ?_
    refine lv_imul hx hb dL_does_176 ?_
    refine w_iald B hw (i := 155) (kw155 _) g_9 dL_does_177 ?_
    refine lv_iconst (v := 1) hx hb dL_does_178 (by decide) ?_
    refine jn_e hf (fun kk => ∀ (_ : Unit) (H : Heap) (locs : List Loc) (ls : Array Slot), HW (LW [(24, 4)]) X M s H locs → lv_has ls 12 [(0, .ref (X.2.2 155)), (1, .int p1), (2, .ref (X.2.2 157)), (3, .ref (X.2.2 142)), (4, .ref (X.2.2 143)), (6, .ref (X.2.2 152)), (7, .int x7_2), (9, .int x9_6), (10, .int x10_8), (11, .int r_12)] → kk () = some rs → W p l e rm_L_does s m args below meth c H locs 0 0 Q (F0 m 199 ls [])) ?_ (fun k199_13 J199_13 hf => ?_)
    · intro _ H locs ls hw hl hf
      refine lv_iload hx hb dL_does_199 (lv_at hl 9 rfl) ?_
      refine lv_if_ge (tgt := 206) hx hb dL_does_201 (by decide) (fun c_14 => ?_) (fun c_14 => ?_)
      · have hf := it_e hf c_14
        refine lv_aload_n hx hb dL_does_206 rfl (lv_at hl 2 rfl) ?_
        refine lv_iload_n hx hb dL_does_207 rfl (lv_at hl 1 rfl) ?_
        refine lv_aload_n hx hb dL_does_208 rfl (lv_at hl 3 rfl) ?_
        refine lv_bipush (v := 10) hx hb dL_does_209 (by decide) ?_
        refine lv_iload hx hb dL_does_211 (lv_at hl 6 rfl) ?_
        refine lv_imul hx hb dL_does_213 ?_
        refine lv_iload hx hb dL_does_214 (lv_at hl 9 rfl) ?_
        refine lv_iadd hx hb dL_does_216 ?_
        obtain ⟨g_15, hf⟩ := grd_e hf
        refine w_lald B hw (i := 142) (kw142 _) g_15 dL_does_217 ?_
        obtain ⟨g_16, hf⟩ := grd_e hf
        refine w_last B hw (i := 157) rfl g_16 dL_does_218 hf (fun M_17 H locs hw hf => ?_)
        refine lv_aload_n hx hb dL_does_219 rfl (lv_at hl 0 rfl) ?_
        refine lv_bipush (v := 6) hx hb dL_does_220 (by decide) ?_
        refine lv_iload_n hx hb dL_does_222 rfl (lv_at hl 1 rfl) ?_
        refine lv_imul hx hb dL_does_223 ?_
        refine w_iald B hw (i := 155) (kw155 _) g_9 dL_does_224 ?_
        refine lv_iconst (v := 1) hx hb dL_does_225 (by decide) ?_
        refine lv_icmp_ne (tgt := 261) hx hb dL_does_226 (by decide) (fun c_18 => ?_) (fun c_18 => ?_)
        · have hf := ie_e hf c_18
          refine lv_aload_n hx hb dL_does_261 rfl (lv_at hl 3 rfl) ?_
          refine lv_aload hx hb dL_does_262 (lv_at hl 4 rfl) ?_
          refine lv_iload hx hb dL_does_264 (lv_at hl 6 rfl) ?_
          refine lv_iload hx hb dL_does_266 (lv_at hl 9 rfl) ?_
          obtain ⟨M_20, h_19, hf⟩ := bd_e hf
          refine q_callSv (M' := M_20) (As := [.ref (X.2.2 142), .ref (X.2.2 143), .int x7_2, .int r_12]) (rest := []) B hw (c_L_lift l _ X fu x7_2 r_12 M_17 M_20 h_19 _) cs_L_180 rfl hl.1 rfl rfl ⟨(Nat.le_of_ble_eq_true rfl), (Nat.le_of_ble_eq_true rfl)⟩ (Nat.le_of_ble_eq_true rfl) ⟨(Nat.le_of_ble_eq_true rfl), (Nat.le_of_ble_eq_true rfl)⟩ dL_does_268 rfl (fun H locs hw => ?_)
          refine lv_iconst (v := 1) hx hb dL_does_271 (by decide) ?_
          cases hf
          subst hQ
          exact q_zret B hr hlk rfl hw rfl rfl dL_does_272
        · have hf := it_e hf c_18
          refine lv_aload_n hx hb dL_does_229 rfl (lv_at hl 3 rfl) ?_
          refine lv_bipush (v := 10) hx hb dL_does_230 (by decide) ?_
          refine lv_iload hx hb dL_does_232 (lv_at hl 6 rfl) ?_
          refine lv_imul hx hb dL_does_234 ?_
          refine lv_iload hx hb dL_does_235 (lv_at hl 9 rfl) ?_
          refine lv_iadd hx hb dL_does_237 ?_
          refine lv_aload_n hx hb dL_does_238 rfl (lv_at hl 2 rfl) ?_
          refine lv_iload_n hx hb dL_does_239 rfl (lv_at hl 1 rfl) ?_
          refine w_lald B hw (i := 157) rfl g_16 dL_does_240 ?_
          refine lv_iload hx hb dL_does_241 (lv_at hl 7 rfl) ?_
          refine lv_aload hx hb dL_does_243 (lv_at hl 5 rfl) ?_
          refine lv_iload hx hb dL_does_245 (lv_at hl 6 rfl) ?_
          refine lv_iload hx hb dL_does_247 (lv_at hl 7 rfl) ?_
          refine lv_iload hx hb dL_does_249 (lv_at hl 8 rfl) ?_
          obtain ⟨r_22, M_23, h_21, hf⟩ := bm_e hf
          refine q_callSi (M' := M_23) (As := [.ref (X.2.2 152), .int x7_2, .int x9_6, .int x10_8]) (rest := [.int x9_6, .long (lg (M_17 157) p1.toNatClampNeg), .int ((10 * x7_2) + r_12), .ref (X.2.2 142)]) B hw (c_L_kept l _ X fu x7_2 x9_6 x10_8 M_17 (r_22, M_23) h_21 _) cs_L_146 rfl hl.1 rfl rfl ⟨(Nat.le_of_ble_eq_true rfl), (Nat.le_of_ble_eq_true rfl)⟩ (Nat.le_of_ble_eq_true rfl) ⟨(Nat.le_of_ble_eq_true rfl), (Nat.le_of_ble_eq_true rfl)⟩ dL_does_251 rfl (fun H locs hw => ?_)
          refine q_callSl (M' := M_23) (As := [.long (lg (M_17 157) p1.toNatClampNeg), .int x9_6, .int r_22]) (rest := [.int ((10 * x7_2) + r_12), .ref (X.2.2 142)]) B hw (c_L_with l _ X (lg (M_17 157) p1.toNatClampNeg) x9_6 r_22 _ rfl M_23 _) cs_L_173 rfl hl.1 rfl rfl ⟨(Nat.le_of_ble_eq_true rfl), (Nat.le_of_ble_eq_true rfl)⟩ (Nat.le_of_ble_eq_true rfl) ⟨(Nat.le_of_ble_eq_true rfl), (Nat.le_of_ble_eq_true rfl)⟩ dL_does_254 rfl (fun H locs hw => ?_)
          refine w_last B hw (i := 142) (kw142 _) g_15 dL_does_257 hf (fun M_25 H locs hw hf => ?_)
          refine lv_goto (tgt := 271) hx hb dL_does_258 (by decide) ?_
          refine lv_iconst (v := 1) hx hb dL_does_271 (by decide) ?_
          cases hf
          subst hQ
          exact q_zret B hr hlk rfl hw rfl rfl dL_does_272
      · have hf := ie_e hf c_14
        refine lv_iconst (v := 0) hx hb dL_does_204 (by decide) ?_
        cases hf
        subst hQ
        exact q_zret B hr hlk rfl hw rfl rfl dL_does_205
    refine lv_icmp_ne (tgt := 199) hx hb dL_does_179 (by decide) (fun c_26 => ?_) (fun c_26 => ?_)
    · have hf := ie_e hf c_26
      exact J199_13 () _ _ _ hw (lv_sub hl [5, 6, 7, 8, 9, 11, 4, 2, 1, 0] rfl) hf
    · have hf := it_e hf c_26
      refine lv_aload_n hx hb dL_does_182 rfl (lv_at hl 8 rfl) ?_
      refine lv_aload hx hb dL_does_183 (lv_at hl 9 rfl) ?_
      refine lv_iload hx hb dL_does_185 (lv_at hl 4 rfl) ?_
      refine lv_iload hx hb dL_does_187 (lv_at hl 3 rfl) ?_
      refine lv_iload hx hb dL_does_189 (lv_at hl 2 rfl) ?_
      refine lv_iload hx hb dL_does_191 (lv_at hl 1 rfl) ?_
      obtain ⟨r_28, h_27, hf⟩ := bd_e hf
      refine q_callSi (M' := M) (As := [.ref (X.2.2 142), .ref (X.2.2 143), .int x7_2, .int x8_4, .int x9_6, .int x10_8]) (rest := []) B hw (c_L_changeable l _ X fu x7_2 x8_4 x9_6 x10_8 M r_28 h_27 _) cs_L_165 rfl hl.1 rfl rfl ⟨(Nat.le_of_ble_eq_true rfl), (Nat.le_of_ble_eq_true rfl)⟩ (Nat.le_of_ble_eq_true rfl) ⟨(Nat.le_of_ble_eq_true rfl), (Nat.le_of_ble_eq_true rfl)⟩ dL_does_193 rfl (fun H locs hw => ?_)
      refine lv_if_ne (tgt := 204) hx hb dL_does_196 (by decide) (fun c_29 => ?_) (fun c_29 => ?_)
      · have hf := ie_e hf c_29
        refine lv_iconst (v := 0) hx hb dL_does_204 (by decide) ?_
        cases hf
        subst hQ
        exact q_zret B hr hlk rfl hw rfl rfl dL_does_205
      · have hf := it_e hf c_29
        exact J199_13 () _ _ _ hw (lv_sub hl [5, 6, 7, 8, 9, 11, 4, 2, 1, 0] rfl) hf
  · have hf := it_e hf c_10
    refine lv_aload_n hx hb dL_does_49 rfl (lv_at hl 7 rfl) ?_
    refine lv_aload hx hb dL_does_50 (lv_at hl 8 rfl) ?_
    refine lv_aload hx hb dL_does_52 (lv_at hl 9 rfl) ?_
    refine lv_iload hx hb dL_does_54 (lv_at hl 3 rfl) ?_
    refine lv_iload hx hb dL_does_56 (lv_at hl 2 rfl) ?_
    refine lv_iload hx hb dL_does_58 (lv_at hl 1 rfl) ?_
    refine lv_iload hx hb dL_does_60 (lv_at hl 0 rfl) ?_
    refine lv_aload_n hx hb dL_does_62 rfl (lv_at hl 4 rfl) ?_
    refine lv_bipush (v := 6) hx hb dL_does_63 (by decide) ?_
    refine lv_iload_n hx hb dL_does_65 rfl (lv_at hl 5 rfl) ?_
    refine lv_imul hx hb dL_does_66 ?_
    refine lv_iconst (v := 5) hx hb dL_does_67 (by decide) ?_
    refine lv_iadd hx hb dL_does_68 ?_
    obtain ⟨g_30, hf⟩ := grd_e hf
    refine w_iald B hw (i := 155) (kw155 _) g_30 dL_does_69 ?_
    obtain ⟨r_32, h_31, hf⟩ := bd_e hf
    refine q_callSi (M' := M) (As := [.ref (X.2.2 142), .ref (X.2.2 143), .ref (X.2.2 153), .int x7_2, .int x8_4, .int x9_6, .int x10_8, .int (M 155 ((6 * p1) + 5).toNatClampNeg)]) (rest := []) B hw (c_L_addable l _ X fu x7_2 x8_4 x9_6 x10_8 (M 155 ((6 * p1) + 5).toNatClampNeg) M r_32 h_31 _) cs_L_142 rfl hl.1 rfl rfl ⟨(Nat.le_of_ble_eq_true rfl), (Nat.le_of_ble_eq_true rfl)⟩ (Nat.le_of_ble_eq_true rfl) ⟨(Nat.le_of_ble_eq_true rfl), (Nat.le_of_ble_eq_true rfl)⟩ dL_does_70 rfl (fun H locs hw => ?_)
    refine lv_if_eq (tgt := 78) hx hb dL_does_73 (by decide) (fun c_33 => ?_) (fun c_33 => ?_)
    · have hf := it_e hf c_33
      refine lv_iload hx hb dL_does_78 (lv_at hl 3 rfl) ?_
      refine lv_iconst (v := 1) hx hb dL_does_80 (by decide) ?_
      refine jn_e hf (fun kk => ∀ (v_35 : Int32) (H : Heap) (locs : List Loc) (ls : Array Slot), HW (LW [(24, 4)]) X M s H locs → lv_has ls 12 [(0, .ref (X.2.2 155)), (1, .int p1), (2, .ref (X.2.2 157)), (3, .ref (X.2.2 142)), (4, .ref (X.2.2 143)), (5, .ref (X.2.2 153)), (6, .ref (X.2.2 152)), (7, .int x7_2), (8, .int x8_4), (9, .int x9_6), (10, .int x10_8)] → kk v_35 = some rs → W p l e rm_L_does s m args below meth c H locs 0 0 Q (F0 m 97 ls [.int v_35])) ?_ (fun k97_34 J97_34 hf => ?_)
      · intro v_35 H locs ls hw hl hf
        refine lv_istore (lv' := [(11, .int v_35), (0, .ref (X.2.2 155)), (1, .int p1), (2, .ref (X.2.2 157)), (3, .ref (X.2.2 142)), (4, .ref (X.2.2 143)), (5, .ref (X.2.2 153)), (6, .ref (X.2.2 152)), (7, .int x7_2), (8, .int x8_4), (9, .int x9_6), (10, .int x10_8)]) hx hb dL_does_97 hl (by decide) rfl (fun ls hl => ?_)
        refine lv_iload hx hb dL_does_99 (lv_at hl 8 rfl) ?_
        refine lv_iconst (v := 2) hx hb dL_does_101 (by decide) ?_
        refine jn_e hf (fun kk => ∀ (M_37 : Mem) (H : Heap) (locs : List Loc) (ls : Array Slot), HW (LW [(24, 4)]) X M_37 s H locs → lv_has ls 12 [(0, .ref (X.2.2 155)), (1, .int p1), (2, .ref (X.2.2 157)), (3, .ref (X.2.2 142)), (4, .ref (X.2.2 143)), (6, .ref (X.2.2 152)), (7, .int x7_2), (8, .int x8_4), (9, .int x9_6), (10, .int x10_8), (11, .int v_35)] → kk M_37 = some rs → W p l e rm_L_does s m args below meth c H locs 0 0 Q (F0 m 117 ls [])) ?_ (fun k117_36 J117_36 hf => ?_)
        · intro M_37 H locs ls hw hl hf
          refine lv_aload_n hx hb dL_does_117 rfl (lv_at hl 2 rfl) ?_
          refine lv_iload_n hx hb dL_does_118 rfl (lv_at hl 1 rfl) ?_
          refine lv_iload hx hb dL_does_119 (lv_at hl 10 rfl) ?_
          refine lv_iload hx hb dL_does_121 (lv_at hl 7 rfl) ?_
          refine lv_aload hx hb dL_does_123 (lv_at hl 5 rfl) ?_
          refine lv_iload hx hb dL_does_125 (lv_at hl 6 rfl) ?_
          refine lv_iconst (v := 1) hx hb dL_does_127 (by decide) ?_
          refine lv_iload hx hb dL_does_128 (lv_at hl 8 rfl) ?_
          obtain ⟨r_39, M_40, h_38, hf⟩ := bm_e hf
          refine q_callSi (M' := M_40) (As := [.ref (X.2.2 152), .int x7_2, .int 1, .int x9_6]) (rest := [.int x8_4, .int v_35, .int p1, .ref (X.2.2 157)]) B hw (c_L_kept l _ X fu x7_2 1 x9_6 M_37 (r_39, M_40) h_38 _) cs_L_146 rfl hl.1 rfl rfl ⟨(Nat.le_of_ble_eq_true rfl), (Nat.le_of_ble_eq_true rfl)⟩ (Nat.le_of_ble_eq_true rfl) ⟨(Nat.le_of_ble_eq_true rfl), (Nat.le_of_ble_eq_true rfl)⟩ dL_does_130 rfl (fun H locs hw => ?_)
          refine lv_iload hx hb dL_does_133 (lv_at hl 9 rfl) ?_
          refine lv_aload_n hx hb dL_does_135 rfl (lv_at hl 0 rfl) ?_
          refine lv_bipush (v := 6) hx hb dL_does_136 (by decide) ?_
          refine lv_iload_n hx hb dL_does_138 rfl (lv_at hl 1 rfl) ?_
          refine lv_imul hx hb dL_does_139 ?_
          refine lv_iconst (v := 5) hx hb dL_does_140 (by decide) ?_
          refine lv_iadd hx hb dL_does_141 ?_
          refine w_iald B hw (i := 155) (kw155 _) g_30 dL_does_142 ?_
          refine q_callSl (M' := M_40) (As := [.int v_35, .int x8_4, .int r_39, .int x10_8, .int (M_40 155 ((6 * p1) + 5).toNatClampNeg)]) (rest := [.int p1, .ref (X.2.2 157)]) B hw (c_L_packed l _ X v_35 x8_4 r_39 x10_8 (M_40 155 ((6 * p1) + 5).toNatClampNeg) _ rfl M_40 _) cs_L_150 rfl hl.1 rfl rfl ⟨(Nat.le_of_ble_eq_true rfl), (Nat.le_of_ble_eq_true rfl)⟩ (Nat.le_of_ble_eq_true rfl) ⟨(Nat.le_of_ble_eq_true rfl), (Nat.le_of_ble_eq_true rfl)⟩ dL_does_143 rfl (fun H locs hw => ?_)
          obtain ⟨g_42, hf⟩ := grd_e hf
          refine w_last B hw (i := 157) rfl g_42 dL_does_146 hf (fun M_43 H locs hw hf => ?_)
          refine lv_aload_n hx hb dL_does_147 rfl (lv_at hl 3 rfl) ?_
          refine lv_aload hx hb dL_does_148 (lv_at hl 4 rfl) ?_
          refine lv_iload hx hb dL_does_150 (lv_at hl 6 rfl) ?_
          refine lv_aload_n hx hb dL_does_152 rfl (lv_at hl 2 rfl) ?_
          refine lv_iload_n hx hb dL_does_153 rfl (lv_at hl 1 rfl) ?_
          refine w_lald B hw (i := 157) rfl g_42 dL_does_154 ?_
          obtain ⟨M_45, h_44, hf⟩ := bd_e hf
          refine q_callSv (M' := M_45) (As := [.ref (X.2.2 142), .ref (X.2.2 143), .int x7_2, .long (lg (M_43 157) p1.toNatClampNeg)]) (rest := []) B hw (c_L_lay l _ X fu 142 60 143 6 x7_2 (lg (M_43 157) p1.toNatClampNeg) M_43 (kw142 _) (kw143 _) M_45 h_44 _) cs_L_154 rfl hl.1 rfl rfl ⟨(Nat.le_of_ble_eq_true rfl), (Nat.le_of_ble_eq_true rfl)⟩ (Nat.le_of_ble_eq_true rfl) ⟨(Nat.le_of_ble_eq_true rfl), (Nat.le_of_ble_eq_true rfl)⟩ dL_does_155 rfl (fun H locs hw => ?_)
          refine lv_iconst (v := 1) hx hb dL_does_158 (by decide) ?_
          cases hf
          subst hQ
          exact q_zret B hr hlk rfl hw rfl rfl dL_does_159
        refine lv_icmp_ge (tgt := 117) hx hb dL_does_102 (by decide) (fun c_46 => ?_) (fun c_46 => ?_)
        · have hf := it_e hf c_46
          exact J117_36 M _ _ _ hw (lv_sub hl [1, 2, 3, 4, 5, 7, 8, 9, 10, 11, 0] rfl) hf
        · have hf := ie_e hf c_46
          refine lv_aload hx hb dL_does_105 (lv_at hl 6 rfl) ?_
          refine lv_bipush (v := 6) hx hb dL_does_107 (by decide) ?_
          refine lv_iload hx hb dL_does_109 (lv_at hl 8 rfl) ?_
          refine lv_iadd hx hb dL_does_111 ?_
          refine lv_dup2_11 hx hb dL_does_112 rfl rfl ?_
          obtain ⟨g_47, hf⟩ := grd_e hf
          refine w_iald B hw (i := 153) (kw153 _) g_47 dL_does_113 ?_
          refine lv_iconst (v := 1) hx hb dL_does_114 (by decide) ?_
          refine lv_iadd hx hb dL_does_115 ?_
          refine w_iast B hw (i := 153) (kw153 _) g_47 dL_does_116 hf (fun M_48 H locs hw hf => ?_)
          exact J117_36 M_48 _ _ _ hw (lv_sub hl [1, 2, 3, 4, 5, 7, 8, 9, 10, 11, 0] rfl) hf
      refine lv_icmp_le (tgt := 89) hx hb dL_does_81 (by decide) (fun c_49 => ?_) (fun c_49 => ?_)
      · have hf := it_e hf c_49
        refine lv_aload hx hb dL_does_89 (lv_at hl 9 rfl) ?_
        refine lv_bipush (v := 6) hx hb dL_does_91 (by decide) ?_
        refine lv_iload hx hb dL_does_93 (lv_at hl 3 rfl) ?_
        refine lv_iadd hx hb dL_does_95 ?_
        obtain ⟨g_50, hf⟩ := grd_e hf
        refine w_iald B hw (i := 153) (kw153 _) g_50 dL_does_96 ?_
        exact J97_34 (M 153 (6 + x7_2).toNatClampNeg) _ _ _ hw (lv_sub hl [4, 5, 6, 7, 8, 9, 10, 3, 2, 1, 0] rfl) hf
      · have hf := ie_e hf c_49
        refine lv_iload hx hb dL_does_84 (lv_at hl 2 rfl) ?_
        refine lv_goto (tgt := 97) hx hb dL_does_86 (by decide) ?_
        exact J97_34 x8_4 _ _ _ hw (lv_sub hl [4, 5, 6, 7, 8, 9, 10, 3, 2, 1, 0] rfl) hf
    · have hf := ie_e hf c_33
      refine lv_iconst (v := 0) hx hb dL_does_76 (by decide) ?_
      cases hf
      subst hQ
      exact q_zret B hr hlk rfl hw rfl rfl dL_does_77
abbrev rm_L_runs : Room := { frames := 9, cells := 3, slots := 18, locals := 212 }
set_option maxRecDepth 100000 in
set_option maxHeartbeats 8000000 in
theorem c_L_runs (l : Launch) (hfl : l.stackTraces = false) (X : XT) (fu : Nat) (M : Mem)  (rs : (Int32 × Mem)) (hf : f_L_runs fu M = some rs) (sz : Nat) : Met l yL_runs (wbig yL_runs cL_runs 21 (some .boolean)) rm_L_runs (va_Pc [.ref (X.2.2 0), .ref (X.2.2 155), .ref (X.2.2 156), .ref (X.2.2 142), .ref (X.2.2 143), .ref (X.2.2 144), .ref (X.2.2 145), .ref (X.2.2 147), .ref (X.2.2 148), .ref (X.2.2 153), .ref (X.2.2 152)] (PXN (LW []) X M sz)) (QI (LW []) X rs.2 rs.1 sz) 3 18 (AX (LW []) X sz) := by
  refine wn_go (L := (LW [])) (M := M) (by decide +kernel) (Nat.le_of_ble_eq_true rfl) ?_
  intro p e s m args below meth c hsz B T N9 hr hlk hw ls hl
  subst hsz
  have hx := B.hx
  have hb := B.hb
  have B0 := B
  have T0 := T
  have hl : lv_has ls 21 [(0, .ref (X.2.2 0)), (1, .ref (X.2.2 155)), (2, .ref (X.2.2 156)), (3, .ref (X.2.2 142)), (4, .ref (X.2.2 143)), (5, .ref (X.2.2 144)), (6, .ref (X.2.2 145)), (7, .ref (X.2.2 147)), (8, .ref (X.2.2 148)), (9, .ref (X.2.2 153)), (10, .ref (X.2.2 152))] := hl
  generalize hQ : MQ below _ args s 3 18 (AX (LW []) X s.heap.size) = Q
  unfold f_L_runs at hf
  refine lv_aload_n hx hb dL_runs_0 rfl (lv_at hl 2 rfl) ?_
  refine lv_iconst (v := 0) hx hb dL_runs_1 (by decide) ?_
  refine w_iald B hw (i := 156) (kw156 _) (by decide) dL_runs_2 ?_
  refine lv_if_ne (tgt := 22) hx hb dL_runs_3 (by decide) (fun c_1 => ?_) (fun c_1 => ?_)
  · have hf := ie_e hf c_1
    refine lv_iconst (v := 4) hx hb dL_runs_22 (by decide) ?_
    obtain ⟨g_4, hf⟩ := grd_e hf
    refine w_newl (ex := []) (ex' := [(24, 4)]) (N := 4) (num := 157) B T hw g_4 (by decide +kernel) (by decide +kernel) (Nat.le_of_ble_eq_true rfl) (Nat.le_of_ble_eq_true rfl) (Nat.le_of_ble_eq_true rfl) rfl rfl dL_runs_23 hf (fun q_2 M_3 H locs hq_2 B T hw hf => ?_)
    refine W.widen (k := 1) (n := 6) (by omega) (by omega) ?_
    have hl : lv_has ls 21 [(0, .ref ((xn X 157 q_2).2.2 0)), (1, .ref ((xn X 157 q_2).2.2 155)), (2, .ref ((xn X 157 q_2).2.2 156)), (3, .ref ((xn X 157 q_2).2.2 142)), (4, .ref ((xn X 157 q_2).2.2 143)), (5, .ref ((xn X 157 q_2).2.2 144)), (6, .ref ((xn X 157 q_2).2.2 145)), (7, .ref ((xn X 157 q_2).2.2 147)), (8, .ref ((xn X 157 q_2).2.2 148)), (9, .ref ((xn X 157 q_2).2.2 153)), (10, .ref ((xn X 157 q_2).2.2 152))] := hl
    refine lv_astore (lv' := [(11, .ref ((xn X 157 q_2).2.2 157)), (0, .ref ((xn X 157 q_2).2.2 0)), (1, .ref ((xn X 157 q_2).2.2 155)), (2, .ref ((xn X 157 q_2).2.2 156)), (3, .ref ((xn X 157 q_2).2.2 142)), (4, .ref ((xn X 157 q_2).2.2 143)), (5, .ref ((xn X 157 q_2).2.2 144)), (6, .ref ((xn X 157 q_2).2.2 145)), (7, .ref ((xn X 157 q_2).2.2 147)), (8, .ref ((xn X 157 q_2).2.2 148)), (9, .ref ((xn X 157 q_2).2.2 153)), (10, .ref ((xn X 157 q_2).2.2 152))]) hx hb dL_runs_25 hl (by decide) rfl (fun ls hl => ?_)
    refine lv_aload_n hx hb dL_runs_27 rfl (lv_at hl 3 rfl) ?_
    refine lv_iconst (v := 0) hx hb dL_runs_28 (by decide) ?_
    refine w_iald B hw (i := 156) (kw156 _) (by decide) dL_runs_29 ?_
    refine r_topn hf (fun x12_5 hf => ?_)
    refine lv_istore (lv' := [(12, .int x12_5), (11, .ref ((xn X 157 q_2).2.2 157)), (0, .ref ((xn X 157 q_2).2.2 0)), (1, .ref ((xn X 157 q_2).2.2 155)), (2, .ref ((xn X 157 q_2).2.2 156)), (3, .ref ((xn X 157 q_2).2.2 142)), (4, .ref ((xn X 157 q_2).2.2 143)), (5, .ref ((xn X 157 q_2).2.2 144)), (6, .ref ((xn X 157 q_2).2.2 145)), (7, .ref ((xn X 157 q_2).2.2 147)), (8, .ref ((xn X 157 q_2).2.2 148)), (9, .ref ((xn X 157 q_2).2.2 153)), (10, .ref ((xn X 157 q_2).2.2 152))]) hx hb dL_runs_30 hl (by decide) rfl (fun ls hl => ?_)
    refine lv_iconst (v := (-1)) hx hb dL_runs_32 (by decide) ?_
    refine lv_istore (lv' := [(13, .int (-1)), (12, .int x12_5), (11, .ref ((xn X 157 q_2).2.2 157)), (0, .ref ((xn X 157 q_2).2.2 0)), (1, .ref ((xn X 157 q_2).2.2 155)), (2, .ref ((xn X 157 q_2).2.2 156)), (3, .ref ((xn X 157 q_2).2.2 142)), (4, .ref ((xn X 157 q_2).2.2 143)), (5, .ref ((xn X 157 q_2).2.2 144)), (6, .ref ((xn X 157 q_2).2.2 145)), (7, .ref ((xn X 157 q_2).2.2 147)), (8, .ref ((xn X 157 q_2).2.2 148)), (9, .ref ((xn X 157 q_2).2.2 153)), (10, .ref ((xn X 157 q_2).2.2 152))]) hx hb dL_runs_33 hl (by decide) rfl (fun ls hl => ?_)
    refine lv_iconst (v := (-1)) hx hb dL_runs_35 (by decide) ?_
    refine lv_istore (lv' := [(14, .int (-1)), (13, .int (-1)), (12, .int x12_5), (11, .ref ((xn X 157 q_2).2.2 157)), (0, .ref ((xn X 157 q_2).2.2 0)), (1, .ref ((xn X 157 q_2).2.2 155)), (2, .ref ((xn X 157 q_2).2.2 156)), (3, .ref ((xn X 157 q_2).2.2 142)), (4, .ref ((xn X 157 q_2).2.2 143)), (5, .ref ((xn X 157 q_2).2.2 144)), (6, .ref ((xn X 157 q_2).2.2 145)), (7, .ref ((xn X 157 q_2).2.2 147)), (8, .ref ((xn X 157 q_2).2.2 148)), (9, .ref ((xn X 157 q_2).2.2 153)), (10, .ref ((xn X 157 q_2).2.2 152))]) hx hb dL_runs_36 hl (by decide) rfl (fun ls hl => ?_)
    refine lv_aload_n hx hb dL_runs_38 rfl (lv_at hl 6 rfl) ?_
    refine lv_iconst (v := 0) hx hb dL_runs_39 (by decide) ?_
    refine lv_iconst (v := 0) hx hb dL_runs_40 (by decide) ?_
    refine w_iast B hw (i := 156) (kw156 _) (by decide) dL_runs_41 hf (fun M_6 H locs hw hf => ?_)
    refine lv_iconst (v := 0) hx hb dL_runs_42 (by decide) ?_
    refine lv_istore (lv' := [(15, .int 0), (14, .int (-1)), (13, .int (-1)), (12, .int x12_5), (11, .ref ((xn X 157 q_2).2.2 157)), (0, .ref ((xn X 157 q_2).2.2 0)), (1, .ref ((xn X 157 q_2).2.2 155)), (2, .ref ((xn X 157 q_2).2.2 156)), (3, .ref ((xn X 157 q_2).2.2 142)), (4, .ref ((xn X 157 q_2).2.2 143)), (5, .ref ((xn X 157 q_2).2.2 144)), (6, .ref ((xn X 157 q_2).2.2 145)), (7, .ref ((xn X 157 q_2).2.2 147)), (8, .ref ((xn X 157 q_2).2.2 148)), (9, .ref ((xn X 157 q_2).2.2 153)), (10, .ref ((xn X 157 q_2).2.2 152))]) hx hb dL_runs_43 hl (by decide) rfl (fun ls hl => ?_)
    refine jn_e hf (fun kk => ∀ (x13_8 : Int32) (x14_9 : Int32) (M_10 : Mem) (H : Heap) (locs : List Loc) (ls : Array Slot), HW (LW [(24, 4)]) (xn X 157 q_2) M_10 s H locs → lv_has ls 21 [(0, .ref ((xn X 157 q_2).2.2 0)), (1, .ref ((xn X 157 q_2).2.2 155)), (3, .ref ((xn X 157 q_2).2.2 142)), (4, .ref ((xn X 157 q_2).2.2 143)), (5, .ref ((xn X 157 q_2).2.2 144)), (6, .ref ((xn X 157 q_2).2.2 145)), (7, .ref ((xn X 157 q_2).2.2 147)), (8, .ref ((xn X 157 q_2).2.2 148)), (10, .ref ((xn X 157 q_2).2.2 152)), (11, .ref ((xn X 157 q_2).2.2 157)), (13, .int x13_8), (14, .int x14_9)] → kk x13_8 x14_9 M_10 = some rs → W p l e rm_L_runs s m args below meth c H locs 1 6 Q (F0 m 207 ls [])) ?_ (fun k207_7 J207_7 hf => ?_)
    · intro x13_8 x14_9 M_10 H locs ls hw hl hf
      refine lv_iload hx hb dL_runs_207 (lv_at hl 11 rfl) ?_
      refine lv_istore (lv' := [(15, .int x14_9), (0, .ref ((xn X 157 q_2).2.2 0)), (1, .ref ((xn X 157 q_2).2.2 155)), (3, .ref ((xn X 157 q_2).2.2 142)), (4, .ref ((xn X 157 q_2).2.2 143)), (5, .ref ((xn X 157 q_2).2.2 144)), (6, .ref ((xn X 157 q_2).2.2 145)), (7, .ref ((xn X 157 q_2).2.2 147)), (8, .ref ((xn X 157 q_2).2.2 148)), (10, .ref ((xn X 157 q_2).2.2 152)), (11, .ref ((xn X 157 q_2).2.2 157)), (13, .int x13_8), (14, .int x14_9)]) hx hb dL_runs_209 hl (by decide) rfl (fun ls hl => ?_)
      refine jn_e hf (fun kk => ∀ (M_12 : Mem) (H : Heap) (locs : List Loc) (ls : Array Slot), HW (LW [(24, 4)]) (xn X 157 q_2) M_12 s H locs → lv_has ls 21 [(0, .ref ((xn X 157 q_2).2.2 0)), (13, .int x13_8)] → kk M_12 = some rs → W p l e rm_L_runs s m args below meth c H locs 1 6 Q (F0 m 386 ls [])) ?_ (fun k386_11 J386_11 hf => ?_)
      · intro M_12 H locs ls hw hl hf
        refine lv_aload_n hx hb dL_runs_386 rfl (lv_at hl 0 rfl) ?_
        obtain ⟨r_14, M_15, h_13, hf⟩ := bm_e hf
        refine w_wrap (n := 1) (M' := M_15) (v := r_14) (As := [.ref ((xn X 157 q_2).2.2 0)]) (rest := []) B T N9 hw (c_L_run l hfl _ (xn X 157 q_2) fu M_12 (r_14, M_15) h_13 _) km_L_312 kt_L_run ki_L kc_L_run ⟨by decide +kernel, by decide +kernel, by decide +kernel⟩ rfl hl.1 rfl rfl ⟨(Nat.le_of_ble_eq_true rfl), (Nat.le_of_ble_eq_true rfl)⟩ (Nat.le_of_ble_eq_true rfl) ⟨(Nat.le_of_ble_eq_true rfl), (Nat.le_of_ble_eq_true rfl)⟩ dL_runs_387 rfl (fun H locs hw => ?_)
        refine W.widen (k := 2) (n := 12) (by omega) (by omega) ?_
        refine lv_iload hx hb dL_runs_390 (lv_at hl 1 rfl) ?_
        refine lv_icmp_ne (tgt := 399) hx hb dL_runs_392 (by decide) (fun c_16 => ?_) (fun c_16 => ?_)
        · have hf := ie_e hf c_16
          refine lv_iconst (v := 0) hx hb dL_runs_399 (by decide) ?_
          refine W.widen (k := 3) (n := 18) (by omega) (by omega) ?_
          obtain ⟨g_17, hf⟩ := grd_e hf
          have hw := w_drop (ex := []) (k := (24, 4)) hq_2 rfl rfl g_17 hw
          cases hf
          subst hQ
          exact q_zret B0 hr hlk rfl hw rfl rfl dL_runs_400
        · have hf := it_e hf c_16
          refine lv_iconst (v := 1) hx hb dL_runs_395 (by decide) ?_
          refine lv_goto (tgt := 400) hx hb dL_runs_396 (by decide) ?_
          refine W.widen (k := 3) (n := 18) (by omega) (by omega) ?_
          obtain ⟨g_18, hf⟩ := grd_e hf
          have hw := w_drop (ex := []) (k := (24, 4)) hq_2 rfl rfl g_18 hw
          cases hf
          subst hQ
          exact q_zret B0 hr hlk rfl hw rfl rfl dL_runs_400
      have hL_211 : ∀ (n_211 : Nat) (x15_19 : Int32) (M_20 : Mem) (H : Heap) (locs : List Loc) (ls : Array Slot), HW (LW [(24, 4)]) (xn X 157 q_2) M_20 s H locs → lv_has ls 21 [(0, .ref ((xn X 157 q_2).2.2 0)), (1, .ref ((xn X 157 q_2).2.2 155)), (3, .ref ((xn X 157 q_2).2.2 142)), (4, .ref ((xn X 157 q_2).2.2 143)), (5, .ref ((xn X 157 q_2).2.2 144)), (6, .ref ((xn X 157 q_2).2.2 145)), (7, .ref ((xn X 157 q_2).2.2 147)), (8, .ref ((xn X 157 q_2).2.2 148)), (10, .ref ((xn X 157 q_2).2.2 152)), (11, .ref ((xn X 157 q_2).2.2 157)), (13, .int x13_8), (15, .int x15_19)] → f_L_runs_L211 fu x13_8 k386_11 n_211 x15_19 M_20 = some rs → W p l e rm_L_runs s m args below meth c H locs 1 6 Q (F0 m 211 ls []) := by
        intro n_211
        induction n_211 with
        | zero => intro x15_19 M_20 H locs ls hw hl hf; exact no_none hf
        | succ n_211 ih_211 =>
          intro x15_19 M_20 H locs ls hw hl hf
          rw [f_L_runs_L211] at hf
          refine lv_iload hx hb dL_runs_211 (lv_at hl 11 rfl) ?_
          refine lv_if_lt (tgt := 386) hx hb dL_runs_213 (by decide) (fun c_21 => ?_) (fun c_21 => ?_)
          · have hf := it_e hf c_21
            exact J386_11 M_20 _ _ _ hw (lv_sub hl [0, 10] rfl) hf
          · have hf := ie_e hf c_21
            refine lv_iload hx hb dL_runs_216 (lv_at hl 10 rfl) ?_
            refine lv_if_lt (tgt := 386) hx hb dL_runs_218 (by decide) (fun c_22 => ?_) (fun c_22 => ?_)
            · have hf := it_e hf c_22
              exact J386_11 M_20 _ _ _ hw (lv_sub hl [0, 10] rfl) hf
            · have hf := ie_e hf c_22
              refine lv_aload_n hx hb dL_runs_221 rfl (lv_at hl 1 rfl) ?_
              refine lv_bipush (v := 6) hx hb dL_runs_222 (by decide) ?_
              refine lv_iload hx hb dL_runs_224 (lv_at hl 11 rfl) ?_
              refine lv_imul hx hb dL_runs_226 ?_
              refine lv_iconst (v := 1) hx hb dL_runs_227 (by decide) ?_
              refine lv_iadd hx hb dL_runs_228 ?_
              obtain ⟨g_23, hf⟩ := grd_e hf
              refine w_iald B hw (i := 155) (kw155 _) g_23 dL_runs_229 ?_
              refine r_topn hf (fun x16_24 hf => ?_)
              refine lv_istore (lv' := [(16, .int x16_24), (0, .ref ((xn X 157 q_2).2.2 0)), (1, .ref ((xn X 157 q_2).2.2 155)), (3, .ref ((xn X 157 q_2).2.2 142)), (4, .ref ((xn X 157 q_2).2.2 143)), (5, .ref ((xn X 157 q_2).2.2 144)), (6, .ref ((xn X 157 q_2).2.2 145)), (7, .ref ((xn X 157 q_2).2.2 147)), (8, .ref ((xn X 157 q_2).2.2 148)), (10, .ref ((xn X 157 q_2).2.2 152)), (11, .ref ((xn X 157 q_2).2.2 157)), (13, .int x13_8), (15, .int x15_19)]) hx hb dL_runs_230 hl (by decide) rfl (fun ls hl => ?_)
              refine lv_aload hx hb dL_runs_232 (lv_at hl 10 rfl) ?_
              refine lv_iload hx hb dL_runs_234 (lv_at hl 12 rfl) ?_
              obtain ⟨g_25, hf⟩ := grd_e hf
              refine w_lald B hw (i := 157) rfl g_25 dL_runs_236 ?_
              refine q_callSi (M' := M_20) (As := [.long (lg (M_20 157) x15_19.toNatClampNeg)]) (rest := []) B hw (c_L_markOf l _ (xn X 157 q_2) (lg (M_20 157) x15_19.toNatClampNeg) _ rfl M_20 _) cs_L_105 rfl hl.1 rfl rfl ⟨(Nat.le_of_ble_eq_true rfl), (Nat.le_of_ble_eq_true rfl)⟩ (Nat.le_of_ble_eq_true rfl) ⟨(Nat.le_of_ble_eq_true rfl), (Nat.le_of_ble_eq_true rfl)⟩ dL_runs_237 rfl (fun H locs hw => ?_)
              refine r_topn hf (fun x17_27 hf => ?_)
              refine lv_istore (lv' := [(17, .int x17_27), (16, .int x16_24), (0, .ref ((xn X 157 q_2).2.2 0)), (1, .ref ((xn X 157 q_2).2.2 155)), (3, .ref ((xn X 157 q_2).2.2 142)), (4, .ref ((xn X 157 q_2).2.2 143)), (5, .ref ((xn X 157 q_2).2.2 144)), (6, .ref ((xn X 157 q_2).2.2 145)), (7, .ref ((xn X 157 q_2).2.2 147)), (8, .ref ((xn X 157 q_2).2.2 148)), (10, .ref ((xn X 157 q_2).2.2 152)), (11, .ref ((xn X 157 q_2).2.2 157)), (13, .int x13_8), (15, .int x15_19)]) hx hb dL_runs_240 hl (by decide) rfl (fun ls hl => ?_)
              refine lv_aload_n hx hb dL_runs_242 rfl (lv_at hl 3 rfl) ?_
              refine lv_bipush (v := 6) hx hb dL_runs_243 (by decide) ?_
              refine lv_iload hx hb dL_runs_245 (lv_at hl 13 rfl) ?_
              refine lv_imul hx hb dL_runs_247 ?_
              obtain ⟨g_28, hf⟩ := grd_e hf
              refine w_iald B hw (i := 155) (kw155 _) g_28 dL_runs_248 ?_
              refine jn_e hf (fun kk => ∀ (M_30 : Mem) (H : Heap) (locs : List Loc) (ls : Array Slot), HW (LW [(24, 4)]) (xn X 157 q_2) M_30 s H locs → lv_has ls 21 [(0, .ref ((xn X 157 q_2).2.2 0)), (1, .ref ((xn X 157 q_2).2.2 155)), (3, .ref ((xn X 157 q_2).2.2 142)), (4, .ref ((xn X 157 q_2).2.2 143)), (5, .ref ((xn X 157 q_2).2.2 144)), (6, .ref ((xn X 157 q_2).2.2 145)), (7, .ref ((xn X 157 q_2).2.2 147)), (8, .ref ((xn X 157 q_2).2.2 148)), (10, .ref ((xn X 157 q_2).2.2 152)), (11, .ref ((xn X 157 q_2).2.2 157)), (13, .int x13_8), (15, .int x15_19), (16, .int x16_24)] → kk M_30 = some rs → W p l e rm_L_runs s m args below meth c H locs 1 6 Q (F0 m 365 ls [])) ?_ (fun k365_29 J365_29 hf => ?_)
              · intro M_30 H locs ls hw hl hf
                refine lv_aload hx hb dL_runs_365 (lv_at hl 6 rfl) ?_
                refine lv_aload hx hb dL_runs_367 (lv_at hl 7 rfl) ?_
                refine lv_aload hx hb dL_runs_369 (lv_at hl 4 rfl) ?_
                refine lv_aload hx hb dL_runs_371 (lv_at hl 5 rfl) ?_
                refine lv_aload hx hb dL_runs_373 (lv_at hl 8 rfl) ?_
                refine lv_iload hx hb dL_runs_375 (lv_at hl 12 rfl) ?_
                obtain ⟨M_32, h_31, hf⟩ := bd_e hf
                refine q_callSv (M' := M_32) (As := [.ref ((xn X 157 q_2).2.2 147), .ref ((xn X 157 q_2).2.2 148), .ref ((xn X 157 q_2).2.2 144), .ref ((xn X 157 q_2).2.2 145), .ref ((xn X 157 q_2).2.2 152), .int x16_24]) (rest := []) B hw (c_L_written l _ (xn X 157 q_2) fu x16_24 M_30 M_32 h_31 _) cs_L_158 rfl hl.1 rfl rfl ⟨(Nat.le_of_ble_eq_true rfl), (Nat.le_of_ble_eq_true rfl)⟩ (Nat.le_of_ble_eq_true rfl) ⟨(Nat.le_of_ble_eq_true rfl), (Nat.le_of_ble_eq_true rfl)⟩ dL_runs_377 rfl (fun H locs hw => ?_)
                refine r_iinc (v := (x15_19 + (-1))) hx hb dL_runs_380 hl (k := 11) rfl rfl (by decide) hf (fun x15_33 ls hl hf => ?_)
                have hl : lv_has ls 21 [(15, .int x15_33), (0, .ref ((xn X 157 q_2).2.2 0)), (1, .ref ((xn X 157 q_2).2.2 155)), (3, .ref ((xn X 157 q_2).2.2 142)), (4, .ref ((xn X 157 q_2).2.2 143)), (5, .ref ((xn X 157 q_2).2.2 144)), (6, .ref ((xn X 157 q_2).2.2 145)), (7, .ref ((xn X 157 q_2).2.2 147)), (8, .ref ((xn X 157 q_2).2.2 148)), (10, .ref ((xn X 157 q_2).2.2 152)), (11, .ref ((xn X 157 q_2).2.2 157)), (13, .int x13_8), (16, .int x16_24)] := hl
                refine lv_goto (tgt := 211) hx hb dL_runs_383 (by decide) ?_
                exact ih_211 x15_33 M_32 _ _ _ hw (lv_sub hl [1, 2, 3, 4, 5, 6, 7, 8, 9, 10, 11, 0] rfl) hf
              refine lv_if_ne (tgt := 273) hx hb dL_runs_249 (by decide) (fun c_34 => ?_) (fun c_34 => ?_)
              · have hf := ie_e hf c_34
                refine lv_aload_n hx hb dL_runs_273 rfl (lv_at hl 3 rfl) ?_
                refine lv_bipush (v := 6) hx hb dL_runs_274 (by decide) ?_
                refine lv_iload hx hb dL_runs_276 (lv_at hl 13 rfl) ?_
                refine lv_imul hx hb dL_runs_278 ?_
                refine w_iald B hw (i := 155) (kw155 _) g_28 dL_runs_279 ?_
                refine lv_iconst (v := 2) hx hb dL_runs_280 (by decide) ?_
                refine lv_icmp_ne (tgt := 300) hx hb dL_runs_281 (by decide) (fun c_35 => ?_) (fun c_35 => ?_)
                · have hf := ie_e hf c_35
                  refine lv_aload_n hx hb dL_runs_300 rfl (lv_at hl 4 rfl) ?_
                  refine lv_bipush (v := 10) hx hb dL_runs_301 (by decide) ?_
                  refine lv_iload hx hb dL_runs_303 (lv_at hl 1 rfl) ?_
                  refine lv_imul hx hb dL_runs_305 ?_
                  refine lv_aload_n hx hb dL_runs_306 rfl (lv_at hl 4 rfl) ?_
                  refine lv_aload hx hb dL_runs_307 (lv_at hl 5 rfl) ?_
                  refine lv_iload hx hb dL_runs_309 (lv_at hl 1 rfl) ?_
                  refine lv_iload hx hb dL_runs_311 (lv_at hl 0 rfl) ?_
                  obtain ⟨r_37, h_36, hf⟩ := bd_e hf
                  refine q_callSi (M' := M_20) (As := [.ref ((xn X 157 q_2).2.2 142), .ref ((xn X 157 q_2).2.2 143), .int x16_24, .int x17_27]) (rest := [.int (10 * x16_24), .ref ((xn X 157 q_2).2.2 142)]) B hw (c_L_place l _ (xn X 157 q_2) fu x16_24 x17_27 M_20 r_37 h_36 _) cs_L_121 rfl hl.1 rfl rfl ⟨(Nat.le_of_ble_eq_true rfl), (Nat.le_of_ble_eq_true rfl)⟩ (Nat.le_of_ble_eq_true rfl) ⟨(Nat.le_of_ble_eq_true rfl), (Nat.le_of_ble_eq_true rfl)⟩ dL_runs_313 rfl (fun H locs hw => ?_)
                  refine lv_iadd hx hb dL_runs_316 ?_
                  refine lv_aload_n hx hb dL_runs_317 rfl (lv_at hl 4 rfl) ?_
                  refine lv_bipush (v := 10) hx hb dL_runs_318 (by decide) ?_
                  refine lv_iload hx hb dL_runs_320 (lv_at hl 1 rfl) ?_
                  refine lv_imul hx hb dL_runs_322 ?_
                  refine lv_aload_n hx hb dL_runs_323 rfl (lv_at hl 4 rfl) ?_
                  refine lv_aload hx hb dL_runs_324 (lv_at hl 5 rfl) ?_
                  refine lv_iload hx hb dL_runs_326 (lv_at hl 1 rfl) ?_
                  refine lv_iload hx hb dL_runs_328 (lv_at hl 0 rfl) ?_
                  obtain ⟨r_39, h_38, hf⟩ := bd_e hf
                  refine q_callSi (M' := M_20) (As := [.ref ((xn X 157 q_2).2.2 142), .ref ((xn X 157 q_2).2.2 143), .int x16_24, .int x17_27]) (rest := [.int (10 * x16_24), .ref ((xn X 157 q_2).2.2 142), .int ((10 * x16_24) + r_37), .ref ((xn X 157 q_2).2.2 142)]) B hw (c_L_place l _ (xn X 157 q_2) fu x16_24 x17_27 M_20 r_39 h_38 _) cs_L_121 rfl hl.1 rfl rfl ⟨(Nat.le_of_ble_eq_true rfl), (Nat.le_of_ble_eq_true rfl)⟩ (Nat.le_of_ble_eq_true rfl) ⟨(Nat.le_of_ble_eq_true rfl), (Nat.le_of_ble_eq_true rfl)⟩ dL_runs_330 rfl (fun H locs hw => ?_)
                  refine lv_iadd hx hb dL_runs_333 ?_
                  obtain ⟨g_40, hf⟩ := grd_e hf
                  refine w_lald B hw (i := 142) (kw142 _) g_40 dL_runs_334 ?_
                  refine lv_aload_n hx hb dL_runs_335 rfl (lv_at hl 3 rfl) ?_
                  refine lv_bipush (v := 6) hx hb dL_runs_336 (by decide) ?_
                  refine lv_iload hx hb dL_runs_338 (lv_at hl 13 rfl) ?_
                  refine lv_imul hx hb dL_runs_340 ?_
                  refine lv_iconst (v := 3) hx hb dL_runs_341 (by decide) ?_
                  refine lv_iadd hx hb dL_runs_342 ?_
                  obtain ⟨g_41, hf⟩ := grd_e hf
                  refine w_iald B hw (i := 155) (kw155 _) g_41 dL_runs_343 ?_
                  refine lv_aload hx hb dL_runs_344 (lv_at hl 11 rfl) ?_
                  refine lv_iload hx hb dL_runs_346 (lv_at hl 13 rfl) ?_
                  refine w_lald B hw (i := 157) rfl g_25 dL_runs_348 ?_
                  refine lv_aload_n hx hb dL_runs_349 rfl (lv_at hl 3 rfl) ?_
                  refine lv_bipush (v := 6) hx hb dL_runs_350 (by decide) ?_
                  refine lv_iload hx hb dL_runs_352 (lv_at hl 13 rfl) ?_
                  refine lv_imul hx hb dL_runs_354 ?_
                  refine lv_iconst (v := 3) hx hb dL_runs_355 (by decide) ?_
                  refine lv_iadd hx hb dL_runs_356 ?_
                  refine w_iald B hw (i := 155) (kw155 _) g_41 dL_runs_357 ?_
                  refine q_callSi (M' := M_20) (As := [.long (lg (M_20 157) x15_19.toNatClampNeg), .int (M_20 155 ((6 * x15_19) + 3).toNatClampNeg)]) (rest := [.int (M_20 155 ((6 * x15_19) + 3).toNatClampNeg), .long (lg (M_20 142) ((10 * x16_24) + r_39).toNatClampNeg), .int ((10 * x16_24) + r_37), .ref ((xn X 157 q_2).2.2 142)]) B hw (c_L_at l _ (xn X 157 q_2) (lg (M_20 157) x15_19.toNatClampNeg) (M_20 155 ((6 * x15_19) + 3).toNatClampNeg) _ rfl M_20 _) cs_L_169 rfl hl.1 rfl rfl ⟨(Nat.le_of_ble_eq_true rfl), (Nat.le_of_ble_eq_true rfl)⟩ (Nat.le_of_ble_eq_true rfl) ⟨(Nat.le_of_ble_eq_true rfl), (Nat.le_of_ble_eq_true rfl)⟩ dL_runs_358 rfl (fun H locs hw => ?_)
                  refine q_callSl (M' := M_20) (As := [.long (lg (M_20 142) ((10 * x16_24) + r_39).toNatClampNeg), .int (M_20 155 ((6 * x15_19) + 3).toNatClampNeg), .int (f_L_at (lg (M_20 157) x15_19.toNatClampNeg) (M_20 155 ((6 * x15_19) + 3).toNatClampNeg))]) (rest := [.int ((10 * x16_24) + r_37), .ref ((xn X 157 q_2).2.2 142)]) B hw (c_L_with l _ (xn X 157 q_2) (lg (M_20 142) ((10 * x16_24) + r_39).toNatClampNeg) (M_20 155 ((6 * x15_19) + 3).toNatClampNeg) (f_L_at (lg (M_20 157) x15_19.toNatClampNeg) (M_20 155 ((6 * x15_19) + 3).toNatClampNeg)) _ rfl M_20 _) cs_L_173 rfl hl.1 rfl rfl ⟨(Nat.le_of_ble_eq_true rfl), (Nat.le_of_ble_eq_true rfl)⟩ (Nat.le_of_ble_eq_true rfl) ⟨(Nat.le_of_ble_eq_true rfl), (Nat.le_of_ble_eq_true rfl)⟩ dL_runs_361 rfl (fun H locs hw => ?_)
                  obtain ⟨g_44, hf⟩ := grd_e hf
                  refine w_last B hw (i := 142) (kw142 _) g_44 dL_runs_364 hf (fun M_45 H locs hw hf => ?_)
                  exact J365_29 M_45 _ _ _ hw (lv_sub hl [2, 3, 4, 5, 6, 7, 8, 9, 10, 11, 12, 13, 1] rfl) hf
                · have hf := it_e hf c_35
                  refine lv_aload_n hx hb dL_runs_284 rfl (lv_at hl 4 rfl) ?_
                  refine lv_aload hx hb dL_runs_285 (lv_at hl 5 rfl) ?_
                  refine lv_iload hx hb dL_runs_287 (lv_at hl 1 rfl) ?_
                  refine lv_aload hx hb dL_runs_289 (lv_at hl 11 rfl) ?_
                  refine lv_iload hx hb dL_runs_291 (lv_at hl 13 rfl) ?_
                  refine w_lald B hw (i := 157) rfl g_25 dL_runs_293 ?_
                  obtain ⟨M_47, h_46, hf⟩ := bd_e hf
                  refine q_callSv (M' := M_47) (As := [.ref ((xn X 157 q_2).2.2 142), .ref ((xn X 157 q_2).2.2 143), .int x16_24, .long (lg (M_20 157) x15_19.toNatClampNeg)]) (rest := []) B hw (c_L_lay l _ (xn X 157 q_2) fu 142 60 143 6 x16_24 (lg (M_20 157) x15_19.toNatClampNeg) M_20 (kw142 _) (kw143 _) M_47 h_46 _) cs_L_154 rfl hl.1 rfl rfl ⟨(Nat.le_of_ble_eq_true rfl), (Nat.le_of_ble_eq_true rfl)⟩ (Nat.le_of_ble_eq_true rfl) ⟨(Nat.le_of_ble_eq_true rfl), (Nat.le_of_ble_eq_true rfl)⟩ dL_runs_294 rfl (fun H locs hw => ?_)
                  refine lv_goto (tgt := 365) hx hb dL_runs_297 (by decide) ?_
                  exact J365_29 M_47 _ _ _ hw (lv_sub hl [2, 3, 4, 5, 6, 7, 8, 9, 10, 11, 12, 13, 1] rfl) hf
              · have hf := it_e hf c_34
                refine lv_aload_n hx hb dL_runs_252 rfl (lv_at hl 4 rfl) ?_
                refine lv_aload hx hb dL_runs_253 (lv_at hl 5 rfl) ?_
                refine lv_iload hx hb dL_runs_255 (lv_at hl 1 rfl) ?_
                refine lv_aload_n hx hb dL_runs_257 rfl (lv_at hl 4 rfl) ?_
                refine lv_aload hx hb dL_runs_258 (lv_at hl 5 rfl) ?_
                refine lv_iload hx hb dL_runs_260 (lv_at hl 1 rfl) ?_
                refine lv_iload hx hb dL_runs_262 (lv_at hl 0 rfl) ?_
                obtain ⟨r_49, h_48, hf⟩ := bd_e hf
                refine q_callSi (M' := M_20) (As := [.ref ((xn X 157 q_2).2.2 142), .ref ((xn X 157 q_2).2.2 143), .int x16_24, .int x17_27]) (rest := [.int x16_24, .ref ((xn X 157 q_2).2.2 143), .ref ((xn X 157 q_2).2.2 142)]) B hw (c_L_place l _ (xn X 157 q_2) fu x16_24 x17_27 M_20 r_49 h_48 _) cs_L_121 rfl hl.1 rfl rfl ⟨(Nat.le_of_ble_eq_true rfl), (Nat.le_of_ble_eq_true rfl)⟩ (Nat.le_of_ble_eq_true rfl) ⟨(Nat.le_of_ble_eq_true rfl), (Nat.le_of_ble_eq_true rfl)⟩ dL_runs_264 rfl (fun H locs hw => ?_)
                obtain ⟨M_51, h_50, hf⟩ := bd_e hf
                refine q_callSv (M' := M_51) (As := [.ref ((xn X 157 q_2).2.2 142), .ref ((xn X 157 q_2).2.2 143), .int x16_24, .int r_49]) (rest := []) B hw (c_L_lift l _ (xn X 157 q_2) fu x16_24 r_49 M_20 M_51 h_50 _) cs_L_180 rfl hl.1 rfl rfl ⟨(Nat.le_of_ble_eq_true rfl), (Nat.le_of_ble_eq_true rfl)⟩ (Nat.le_of_ble_eq_true rfl) ⟨(Nat.le_of_ble_eq_true rfl), (Nat.le_of_ble_eq_true rfl)⟩ dL_runs_267 rfl (fun H locs hw => ?_)
                refine lv_goto (tgt := 365) hx hb dL_runs_270 (by decide) ?_
                exact J365_29 M_51 _ _ _ hw (lv_sub hl [2, 3, 4, 5, 6, 7, 8, 9, 10, 11, 12, 13, 1] rfl) hf
      exact hL_211 fu x14_9 M_10 _ _ _ hw (lv_sub hl [1, 2, 3, 4, 5, 6, 7, 8, 9, 10, 11, 0] rfl) hf
    have hL_45 : ∀ (n_45 : Nat) (x13_52 : Int32) (x14_53 : Int32) (x15_54 : Int32) (M_55 : Mem) (H : Heap) (locs : List Loc) (ls : Array Slot), HW (LW [(24, 4)]) (xn X 157 q_2) M_55 s H locs → lv_has ls 21 [(0, .ref ((xn X 157 q_2).2.2 0)), (1, .ref ((xn X 157 q_2).2.2 155)), (3, .ref ((xn X 157 q_2).2.2 142)), (4, .ref ((xn X 157 q_2).2.2 143)), (5, .ref ((xn X 157 q_2).2.2 144)), (6, .ref ((xn X 157 q_2).2.2 145)), (7, .ref ((xn X 157 q_2).2.2 147)), (8, .ref ((xn X 157 q_2).2.2 148)), (9, .ref ((xn X 157 q_2).2.2 153)), (10, .ref ((xn X 157 q_2).2.2 152)), (11, .ref ((xn X 157 q_2).2.2 157)), (12, .int x12_5), (13, .int x13_52), (14, .int x14_53), (15, .int x15_54)] → f_L_runs_L45 fu x12_5 k207_7 n_45 x13_52 x14_53 x15_54 M_55 = some rs → W p l e rm_L_runs s m args below meth c H locs 1 6 Q (F0 m 45 ls []) := by
      intro n_45
      induction n_45 with
      | zero => intro x13_52 x14_53 x15_54 M_55 H locs ls hw hl hf; exact no_none hf
      | succ n_45 ih_45 =>
        intro x13_52 x14_53 x15_54 M_55 H locs ls hw hl hf
        rw [f_L_runs_L45] at hf
        refine lv_iload hx hb dL_runs_45 (lv_at hl 14 rfl) ?_
        refine lv_iload hx hb dL_runs_47 (lv_at hl 11 rfl) ?_
        refine lv_icmp_ge (tgt := 207) hx hb dL_runs_49 (by decide) (fun c_56 => ?_) (fun c_56 => ?_)
        · have hf := it_e hf c_56
          exact J207_7 x13_52 x14_53 M_55 _ _ _ hw (lv_sub hl [0, 1, 2, 3, 4, 5, 6, 7, 9, 10, 12, 13] rfl) hf
        · have hf := ie_e hf c_56
          refine lv_iload hx hb dL_runs_52 (lv_at hl 12 rfl) ?_
          refine lv_if_ge (tgt := 207) hx hb dL_runs_54 (by decide) (fun c_57 => ?_) (fun c_57 => ?_)
          · have hf := it_e hf c_57
            exact J207_7 x13_52 x14_53 M_55 _ _ _ hw (lv_sub hl [0, 1, 2, 3, 4, 5, 6, 7, 9, 10, 12, 13] rfl) hf
          · have hf := ie_e hf c_57
            refine lv_aload_n hx hb dL_runs_57 rfl (lv_at hl 1 rfl) ?_
            refine lv_bipush (v := 6) hx hb dL_runs_58 (by decide) ?_
            refine lv_iload hx hb dL_runs_60 (lv_at hl 14 rfl) ?_
            refine lv_imul hx hb dL_runs_62 ?_
            refine lv_iconst (v := 1) hx hb dL_runs_63 (by decide) ?_
            refine lv_iadd hx hb dL_runs_64 ?_
            obtain ⟨g_58, hf⟩ := grd_e hf
            refine w_iald B hw (i := 155) (kw155 _) g_58 dL_runs_65 ?_
            refine r_topn hf (fun x16_59 hf => ?_)
            refine lv_istore (lv' := [(16, .int x16_59), (0, .ref ((xn X 157 q_2).2.2 0)), (1, .ref ((xn X 157 q_2).2.2 155)), (3, .ref ((xn X 157 q_2).2.2 142)), (4, .ref ((xn X 157 q_2).2.2 143)), (5, .ref ((xn X 157 q_2).2.2 144)), (6, .ref ((xn X 157 q_2).2.2 145)), (7, .ref ((xn X 157 q_2).2.2 147)), (8, .ref ((xn X 157 q_2).2.2 148)), (9, .ref ((xn X 157 q_2).2.2 153)), (10, .ref ((xn X 157 q_2).2.2 152)), (11, .ref ((xn X 157 q_2).2.2 157)), (12, .int x12_5), (13, .int x13_52), (14, .int x14_53), (15, .int x15_54)]) hx hb dL_runs_66 hl (by decide) rfl (fun ls hl => ?_)
            refine lv_iload hx hb dL_runs_68 (lv_at hl 0 rfl) ?_
            refine lv_iconst (v := 2) hx hb dL_runs_70 (by decide) ?_
            refine lv_idiv hx hb dL_runs_71 (by decide) ?_
            refine r_topn hf (fun x17_60 hf => ?_)
            refine lv_istore (lv' := [(17, .int x17_60), (16, .int x16_59), (0, .ref ((xn X 157 q_2).2.2 0)), (1, .ref ((xn X 157 q_2).2.2 155)), (3, .ref ((xn X 157 q_2).2.2 142)), (4, .ref ((xn X 157 q_2).2.2 143)), (5, .ref ((xn X 157 q_2).2.2 144)), (6, .ref ((xn X 157 q_2).2.2 145)), (7, .ref ((xn X 157 q_2).2.2 147)), (8, .ref ((xn X 157 q_2).2.2 148)), (9, .ref ((xn X 157 q_2).2.2 153)), (10, .ref ((xn X 157 q_2).2.2 152)), (11, .ref ((xn X 157 q_2).2.2 157)), (12, .int x12_5), (13, .int x13_52), (14, .int x14_53), (15, .int x15_54)]) hx hb dL_runs_72 hl (by decide) rfl (fun ls hl => ?_)
            refine lv_iconst (v := 0) hx hb dL_runs_74 (by decide) ?_
            refine lv_istore (lv' := [(18, .int 0), (17, .int x17_60), (16, .int x16_59), (0, .ref ((xn X 157 q_2).2.2 0)), (1, .ref ((xn X 157 q_2).2.2 155)), (3, .ref ((xn X 157 q_2).2.2 142)), (4, .ref ((xn X 157 q_2).2.2 143)), (5, .ref ((xn X 157 q_2).2.2 144)), (6, .ref ((xn X 157 q_2).2.2 145)), (7, .ref ((xn X 157 q_2).2.2 147)), (8, .ref ((xn X 157 q_2).2.2 148)), (9, .ref ((xn X 157 q_2).2.2 153)), (10, .ref ((xn X 157 q_2).2.2 152)), (11, .ref ((xn X 157 q_2).2.2 157)), (12, .int x12_5), (13, .int x13_52), (14, .int x14_53), (15, .int x15_54)]) hx hb dL_runs_75 hl (by decide) rfl (fun ls hl => ?_)
            refine lv_iconst (v := 1) hx hb dL_runs_77 (by decide) ?_
            refine lv_istore (lv' := [(19, .int 1), (18, .int 0), (17, .int x17_60), (16, .int x16_59), (0, .ref ((xn X 157 q_2).2.2 0)), (1, .ref ((xn X 157 q_2).2.2 155)), (3, .ref ((xn X 157 q_2).2.2 142)), (4, .ref ((xn X 157 q_2).2.2 143)), (5, .ref ((xn X 157 q_2).2.2 144)), (6, .ref ((xn X 157 q_2).2.2 145)), (7, .ref ((xn X 157 q_2).2.2 147)), (8, .ref ((xn X 157 q_2).2.2 148)), (9, .ref ((xn X 157 q_2).2.2 153)), (10, .ref ((xn X 157 q_2).2.2 152)), (11, .ref ((xn X 157 q_2).2.2 157)), (12, .int x12_5), (13, .int x13_52), (14, .int x14_53), (15, .int x15_54)]) hx hb dL_runs_78 hl (by decide) rfl (fun ls hl => ?_)
            refine lv_iconst (v := 0) hx hb dL_runs_80 (by decide) ?_
            refine lv_istore (lv' := [(20, .int 0), (19, .int 1), (18, .int 0), (17, .int x17_60), (16, .int x16_59), (0, .ref ((xn X 157 q_2).2.2 0)), (1, .ref ((xn X 157 q_2).2.2 155)), (3, .ref ((xn X 157 q_2).2.2 142)), (4, .ref ((xn X 157 q_2).2.2 143)), (5, .ref ((xn X 157 q_2).2.2 144)), (6, .ref ((xn X 157 q_2).2.2 145)), (7, .ref ((xn X 157 q_2).2.2 147)), (8, .ref ((xn X 157 q_2).2.2 148)), (9, .ref ((xn X 157 q_2).2.2 153)), (10, .ref ((xn X 157 q_2).2.2 152)), (11, .ref ((xn X 157 q_2).2.2 157)), (12, .int x12_5), (13, .int x13_52), (14, .int x14_53), (15, .int x15_54)]) hx hb dL_runs_81 hl (by decide) rfl (fun ls hl => ?_)
            refine jn_e hf (fun kk => ∀ (x14_62 : Int32) (x19_63 : Int32) (M_64 : Mem) (H : Heap) (locs : List Loc) (ls : Array Slot), HW (LW [(24, 4)]) (xn X 157 q_2) M_64 s H locs → lv_has ls 21 [(0, .ref ((xn X 157 q_2).2.2 0)), (1, .ref ((xn X 157 q_2).2.2 155)), (3, .ref ((xn X 157 q_2).2.2 142)), (4, .ref ((xn X 157 q_2).2.2 143)), (5, .ref ((xn X 157 q_2).2.2 144)), (6, .ref ((xn X 157 q_2).2.2 145)), (7, .ref ((xn X 157 q_2).2.2 147)), (8, .ref ((xn X 157 q_2).2.2 148)), (9, .ref ((xn X 157 q_2).2.2 153)), (10, .ref ((xn X 157 q_2).2.2 152)), (11, .ref ((xn X 157 q_2).2.2 157)), (12, .int x12_5), (13, .int x13_52), (14, .int x14_62), (15, .int x15_54), (19, .int x19_63)] → kk x14_62 x19_63 M_64 = some rs → W p l e rm_L_runs s m args below meth c H locs 1 6 Q (F0 m 184 ls [])) ?_ (fun k184_61 J184_61 hf => ?_)
            · intro x14_62 x19_63 M_64 H locs ls hw hl hf
              refine lv_iload hx hb dL_runs_184 (lv_at hl 15 rfl) ?_
              refine lv_iconst (v := 2) hx hb dL_runs_186 (by decide) ?_
              refine jn_e hf (fun kk => ∀ (_ : Unit) (H : Heap) (locs : List Loc) (ls : Array Slot), HW (LW [(24, 4)]) (xn X 157 q_2) M_64 s H locs → lv_has ls 21 [(0, .ref ((xn X 157 q_2).2.2 0)), (1, .ref ((xn X 157 q_2).2.2 155)), (3, .ref ((xn X 157 q_2).2.2 142)), (4, .ref ((xn X 157 q_2).2.2 143)), (5, .ref ((xn X 157 q_2).2.2 144)), (6, .ref ((xn X 157 q_2).2.2 145)), (7, .ref ((xn X 157 q_2).2.2 147)), (8, .ref ((xn X 157 q_2).2.2 148)), (9, .ref ((xn X 157 q_2).2.2 153)), (10, .ref ((xn X 157 q_2).2.2 152)), (11, .ref ((xn X 157 q_2).2.2 157)), (12, .int x12_5), (14, .int x14_62), (15, .int x15_54)] → kk () = some rs → W p l e rm_L_runs s m args below meth c H locs 1 6 Q (F0 m 197 ls [])) ?_ (fun k197_65 J197_65 hf => ?_)
              · intro _ H locs ls hw hl hf
                refine lv_iload hx hb dL_runs_197 (lv_at hl 13 rfl) ?_
                refine lv_istore (lv' := [(13, .int x15_54), (0, .ref ((xn X 157 q_2).2.2 0)), (1, .ref ((xn X 157 q_2).2.2 155)), (3, .ref ((xn X 157 q_2).2.2 142)), (4, .ref ((xn X 157 q_2).2.2 143)), (5, .ref ((xn X 157 q_2).2.2 144)), (6, .ref ((xn X 157 q_2).2.2 145)), (7, .ref ((xn X 157 q_2).2.2 147)), (8, .ref ((xn X 157 q_2).2.2 148)), (9, .ref ((xn X 157 q_2).2.2 153)), (10, .ref ((xn X 157 q_2).2.2 152)), (11, .ref ((xn X 157 q_2).2.2 157)), (12, .int x12_5), (14, .int x14_62), (15, .int x15_54)]) hx hb dL_runs_199 hl (by decide) rfl (fun ls hl => ?_)
                refine r_iinc (v := (x15_54 + 1)) hx hb dL_runs_201 hl (k := 14) rfl rfl (by decide) hf (fun x15_66 ls hl hf => ?_)
                have hl : lv_has ls 21 [(15, .int x15_66), (13, .int x15_54), (0, .ref ((xn X 157 q_2).2.2 0)), (1, .ref ((xn X 157 q_2).2.2 155)), (3, .ref ((xn X 157 q_2).2.2 142)), (4, .ref ((xn X 157 q_2).2.2 143)), (5, .ref ((xn X 157 q_2).2.2 144)), (6, .ref ((xn X 157 q_2).2.2 145)), (7, .ref ((xn X 157 q_2).2.2 147)), (8, .ref ((xn X 157 q_2).2.2 148)), (9, .ref ((xn X 157 q_2).2.2 153)), (10, .ref ((xn X 157 q_2).2.2 152)), (11, .ref ((xn X 157 q_2).2.2 157)), (12, .int x12_5), (14, .int x14_62)] := hl
                refine lv_goto (tgt := 45) hx hb dL_runs_204 (by decide) ?_
                exact ih_45 x15_54 x14_62 x15_66 M_64 _ _ _ hw (lv_sub hl [2, 3, 4, 5, 6, 7, 8, 9, 10, 11, 12, 13, 1, 14, 0] rfl) hf
              refine lv_icmp_ne (tgt := 197) hx hb dL_runs_187 (by decide) (fun c_67 => ?_) (fun c_67 => ?_)
              · have hf := ie_e hf c_67
                exact J197_65 () _ _ _ hw (lv_sub hl [0, 1, 2, 3, 4, 5, 6, 7, 8, 9, 10, 11, 13, 14] rfl) hf
              · have hf := it_e hf c_67
                refine lv_iload hx hb dL_runs_190 (lv_at hl 13 rfl) ?_
                refine lv_iload hx hb dL_runs_192 (lv_at hl 14 rfl) ?_
                refine lv_icmp_eq (tgt := 201) hx hb dL_runs_194 (by decide) (fun c_68 => ?_) (fun c_68 => ?_)
                · have hf := it_e hf c_68
                  refine r_iinc (v := (x15_54 + 1)) hx hb dL_runs_201 hl (k := 14) rfl rfl (by decide) hf (fun x15_69 ls hl hf => ?_)
                  have hl : lv_has ls 21 [(15, .int x15_69), (0, .ref ((xn X 157 q_2).2.2 0)), (1, .ref ((xn X 157 q_2).2.2 155)), (3, .ref ((xn X 157 q_2).2.2 142)), (4, .ref ((xn X 157 q_2).2.2 143)), (5, .ref ((xn X 157 q_2).2.2 144)), (6, .ref ((xn X 157 q_2).2.2 145)), (7, .ref ((xn X 157 q_2).2.2 147)), (8, .ref ((xn X 157 q_2).2.2 148)), (9, .ref ((xn X 157 q_2).2.2 153)), (10, .ref ((xn X 157 q_2).2.2 152)), (11, .ref ((xn X 157 q_2).2.2 157)), (12, .int x12_5), (13, .int x13_52), (14, .int x14_62), (19, .int x19_63)] := hl
                  refine lv_goto (tgt := 45) hx hb dL_runs_204 (by decide) ?_
                  exact ih_45 x13_52 x14_62 x15_69 M_64 _ _ _ hw (lv_sub hl [1, 2, 3, 4, 5, 6, 7, 8, 9, 10, 11, 12, 13, 14, 0] rfl) hf
                · have hf := ie_e hf c_68
                  exact J197_65 () _ _ _ hw (lv_sub hl [0, 1, 2, 3, 4, 5, 6, 7, 8, 9, 10, 11, 13, 14] rfl) hf
            have hL_83 : ∀ (n_83 : Nat) (x14_70 : Int32) (x18_71 : Int32) (x19_72 : Int32) (x20_73 : Int32) (M_74 : Mem) (H : Heap) (locs : List Loc) (ls : Array Slot), HW (LW [(24, 4)]) (xn X 157 q_2) M_74 s H locs → lv_has ls 21 [(0, .ref ((xn X 157 q_2).2.2 0)), (1, .ref ((xn X 157 q_2).2.2 155)), (3, .ref ((xn X 157 q_2).2.2 142)), (4, .ref ((xn X 157 q_2).2.2 143)), (5, .ref ((xn X 157 q_2).2.2 144)), (6, .ref ((xn X 157 q_2).2.2 145)), (7, .ref ((xn X 157 q_2).2.2 147)), (8, .ref ((xn X 157 q_2).2.2 148)), (9, .ref ((xn X 157 q_2).2.2 153)), (10, .ref ((xn X 157 q_2).2.2 152)), (11, .ref ((xn X 157 q_2).2.2 157)), (12, .int x12_5), (13, .int x13_52), (14, .int x14_70), (15, .int x15_54), (16, .int x16_59), (17, .int x17_60), (18, .int x18_71), (19, .int x19_72), (20, .int x20_73)] → f_L_runs_L83 fu x15_54 x16_59 x17_60 k184_61 n_83 x14_70 x18_71 x19_72 x20_73 M_74 = some rs → W p l e rm_L_runs s m args below meth c H locs 1 6 Q (F0 m 83 ls []) := by
              intro n_83
              induction n_83 with
              | zero => intro x14_70 x18_71 x19_72 x20_73 M_74 H locs ls hw hl hf; exact no_none hf
              | succ n_83 ih_83 =>
                intro x14_70 x18_71 x19_72 x20_73 M_74 H locs ls hw hl hf
                rw [f_L_runs_L83] at hf
                refine lv_iload hx hb dL_runs_83 (lv_at hl 19 rfl) ?_
                refine lv_iconst (v := 3) hx hb dL_runs_85 (by decide) ?_
                refine lv_icmp_ge (tgt := 184) hx hb dL_runs_86 (by decide) (fun c_75 => ?_) (fun c_75 => ?_)
                · have hf := it_e hf c_75
                  exact J184_61 x14_70 x19_72 M_74 _ _ _ hw (lv_sub hl [0, 1, 2, 3, 4, 5, 6, 7, 8, 9, 10, 11, 12, 13, 14, 18] rfl) hf
                · have hf := ie_e hf c_75
                  refine lv_iload hx hb dL_runs_89 (lv_at hl 18 rfl) ?_
                  refine lv_iconst (v := 1) hx hb dL_runs_91 (by decide) ?_
                  refine lv_icmp_ne (tgt := 184) hx hb dL_runs_92 (by decide) (fun c_76 => ?_) (fun c_76 => ?_)
                  · have hf := ie_e hf c_76
                    exact J184_61 x14_70 x19_72 M_74 _ _ _ hw (lv_sub hl [0, 1, 2, 3, 4, 5, 6, 7, 8, 9, 10, 11, 12, 13, 14, 18] rfl) hf
                  · have hf := it_e hf c_76
                    refine lv_aload hx hb dL_runs_95 (lv_at hl 4 rfl) ?_
                    refine lv_aload hx hb dL_runs_97 (lv_at hl 5 rfl) ?_
                    refine lv_aload hx hb dL_runs_99 (lv_at hl 6 rfl) ?_
                    refine lv_aload hx hb dL_runs_101 (lv_at hl 7 rfl) ?_
                    refine lv_aload hx hb dL_runs_103 (lv_at hl 9 rfl) ?_
                    refine lv_iload hx hb dL_runs_105 (lv_at hl 16 rfl) ?_
                    refine lv_iconst (v := 0) hx hb dL_runs_107 (by decide) ?_
                    obtain ⟨r_78, M_79, h_77, hf⟩ := bm_e hf
                    refine q_callSi (M' := M_79) (As := [.ref ((xn X 157 q_2).2.2 144), .ref ((xn X 157 q_2).2.2 145), .ref ((xn X 157 q_2).2.2 147), .ref ((xn X 157 q_2).2.2 148), .ref ((xn X 157 q_2).2.2 152), .int x17_60, .int 0]) (rest := []) B hw (c_L_attempt l _ (xn X 157 q_2) fu x17_60 0 M_74 (r_78, M_79) h_77 _) cs_L_225 rfl hl.1 rfl rfl ⟨(Nat.le_of_ble_eq_true rfl), (Nat.le_of_ble_eq_true rfl)⟩ (Nat.le_of_ble_eq_true rfl) ⟨(Nat.le_of_ble_eq_true rfl), (Nat.le_of_ble_eq_true rfl)⟩ dL_runs_108 rfl (fun H locs hw => ?_)
                    refine lv_istore (lv' := [(19, .int r_78), (0, .ref ((xn X 157 q_2).2.2 0)), (1, .ref ((xn X 157 q_2).2.2 155)), (3, .ref ((xn X 157 q_2).2.2 142)), (4, .ref ((xn X 157 q_2).2.2 143)), (5, .ref ((xn X 157 q_2).2.2 144)), (6, .ref ((xn X 157 q_2).2.2 145)), (7, .ref ((xn X 157 q_2).2.2 147)), (8, .ref ((xn X 157 q_2).2.2 148)), (9, .ref ((xn X 157 q_2).2.2 153)), (10, .ref ((xn X 157 q_2).2.2 152)), (11, .ref ((xn X 157 q_2).2.2 157)), (12, .int x12_5), (13, .int x13_52), (14, .int x14_70), (15, .int x15_54), (16, .int x16_59), (17, .int x17_60), (18, .int x18_71), (20, .int x20_73)]) hx hb dL_runs_111 hl (by decide) rfl (fun ls hl => ?_)
                    refine lv_iload hx hb dL_runs_113 (lv_at hl 18 rfl) ?_
                    refine lv_if_ne (tgt := 178) hx hb dL_runs_115 (by decide) (fun c_80 => ?_) (fun c_80 => ?_)
                    · have hf := ie_e hf c_80
                      refine r_iinc (v := (x20_73 + 1)) hx hb dL_runs_178 hl (k := 19) rfl rfl (by decide) hf (fun x20_81 ls hl hf => ?_)
                      have hl : lv_has ls 21 [(20, .int x20_81), (19, .int r_78), (0, .ref ((xn X 157 q_2).2.2 0)), (1, .ref ((xn X 157 q_2).2.2 155)), (3, .ref ((xn X 157 q_2).2.2 142)), (4, .ref ((xn X 157 q_2).2.2 143)), (5, .ref ((xn X 157 q_2).2.2 144)), (6, .ref ((xn X 157 q_2).2.2 145)), (7, .ref ((xn X 157 q_2).2.2 147)), (8, .ref ((xn X 157 q_2).2.2 148)), (9, .ref ((xn X 157 q_2).2.2 153)), (10, .ref ((xn X 157 q_2).2.2 152)), (11, .ref ((xn X 157 q_2).2.2 157)), (12, .int x12_5), (13, .int x13_52), (14, .int x14_70), (15, .int x15_54), (16, .int x16_59), (17, .int x17_60), (18, .int x18_71)] := hl
                      refine lv_goto (tgt := 83) hx hb dL_runs_181 (by decide) ?_
                      exact ih_83 x14_70 x18_71 r_78 x20_81 M_79 _ _ _ hw (lv_sub hl [2, 3, 4, 5, 6, 7, 8, 9, 10, 11, 12, 13, 14, 15, 16, 17, 18, 19, 1, 0] rfl) hf
                    · have hf := it_e hf c_80
                      refine lv_iload hx hb dL_runs_118 (lv_at hl 0 rfl) ?_
                      refine lv_iconst (v := 1) hx hb dL_runs_120 (by decide) ?_
                      refine jn_e hf (fun kk => ∀ (_ : Unit) (H : Heap) (locs : List Loc) (ls : Array Slot), HW (LW [(24, 4)]) (xn X 157 q_2) M_79 s H locs → lv_has ls 21 [(0, .ref ((xn X 157 q_2).2.2 0)), (1, .ref ((xn X 157 q_2).2.2 155)), (3, .ref ((xn X 157 q_2).2.2 142)), (4, .ref ((xn X 157 q_2).2.2 143)), (5, .ref ((xn X 157 q_2).2.2 144)), (6, .ref ((xn X 157 q_2).2.2 145)), (7, .ref ((xn X 157 q_2).2.2 147)), (8, .ref ((xn X 157 q_2).2.2 148)), (9, .ref ((xn X 157 q_2).2.2 153)), (10, .ref ((xn X 157 q_2).2.2 152)), (11, .ref ((xn X 157 q_2).2.2 157)), (12, .int x12_5), (13, .int x13_52), (14, .int x14_70), (15, .int x15_54), (16, .int x16_59), (17, .int x17_60), (19, .int r_78), (20, .int x20_73)] → kk () = some rs → W p l e rm_L_runs s m args below meth c H locs 1 6 Q (F0 m 138 ls [])) ?_ (fun k138_82 J138_82 hf => ?_)
                      · intro _ H locs ls hw hl hf
                        refine lv_iconst (v := 1) hx hb dL_runs_138 (by decide) ?_
                        refine lv_istore (lv' := [(18, .int 1), (0, .ref ((xn X 157 q_2).2.2 0)), (1, .ref ((xn X 157 q_2).2.2 155)), (3, .ref ((xn X 157 q_2).2.2 142)), (4, .ref ((xn X 157 q_2).2.2 143)), (5, .ref ((xn X 157 q_2).2.2 144)), (6, .ref ((xn X 157 q_2).2.2 145)), (7, .ref ((xn X 157 q_2).2.2 147)), (8, .ref ((xn X 157 q_2).2.2 148)), (9, .ref ((xn X 157 q_2).2.2 153)), (10, .ref ((xn X 157 q_2).2.2 152)), (11, .ref ((xn X 157 q_2).2.2 157)), (12, .int x12_5), (13, .int x13_52), (14, .int x14_70), (15, .int x15_54), (16, .int x16_59), (17, .int x17_60), (19, .int r_78), (20, .int x20_73)]) hx hb dL_runs_139 hl (by decide) rfl (fun ls hl => ?_)
                        refine lv_aload_n hx hb dL_runs_141 rfl (lv_at hl 2 rfl) ?_
                        refine lv_iload hx hb dL_runs_142 (lv_at hl 15 rfl) ?_
                        refine lv_aload hx hb dL_runs_144 (lv_at hl 11 rfl) ?_
                        refine lv_aload_n hx hb dL_runs_146 rfl (lv_at hl 3 rfl) ?_
                        refine lv_aload hx hb dL_runs_147 (lv_at hl 4 rfl) ?_
                        refine lv_aload hx hb dL_runs_149 (lv_at hl 9 rfl) ?_
                        refine lv_aload hx hb dL_runs_151 (lv_at hl 10 rfl) ?_
                        obtain ⟨r_84, M_85, h_83, hf⟩ := bm_e hf
                        refine q_callSi (M' := M_85) (As := [.ref ((xn X 157 q_2).2.2 155), .int x15_54, .ref ((xn X 157 q_2).2.2 157), .ref ((xn X 157 q_2).2.2 142), .ref ((xn X 157 q_2).2.2 143), .ref ((xn X 157 q_2).2.2 153), .ref ((xn X 157 q_2).2.2 152)]) (rest := []) B hw (c_L_does l (xn X 157 q_2) fu x15_54 M_79 (r_84, M_85) h_83 _) cs_L_314 rfl hl.1 rfl rfl ⟨(Nat.le_of_ble_eq_true rfl), (Nat.le_of_ble_eq_true rfl)⟩ (Nat.le_of_ble_eq_true rfl) ⟨(Nat.le_of_ble_eq_true rfl), (Nat.le_of_ble_eq_true rfl)⟩ dL_runs_153 rfl (fun H locs hw => ?_)
                        refine lv_if_eq (tgt := 178) hx hb dL_runs_156 (by decide) (fun c_86 => ?_) (fun c_86 => ?_)
                        · have hf := it_e hf c_86
                          refine r_iinc (v := (x20_73 + 1)) hx hb dL_runs_178 hl (k := 19) rfl rfl (by decide) hf (fun x20_87 ls hl hf => ?_)
                          have hl : lv_has ls 21 [(20, .int x20_87), (18, .int 1), (0, .ref ((xn X 157 q_2).2.2 0)), (1, .ref ((xn X 157 q_2).2.2 155)), (3, .ref ((xn X 157 q_2).2.2 142)), (4, .ref ((xn X 157 q_2).2.2 143)), (5, .ref ((xn X 157 q_2).2.2 144)), (6, .ref ((xn X 157 q_2).2.2 145)), (7, .ref ((xn X 157 q_2).2.2 147)), (8, .ref ((xn X 157 q_2).2.2 148)), (9, .ref ((xn X 157 q_2).2.2 153)), (10, .ref ((xn X 157 q_2).2.2 152)), (11, .ref ((xn X 157 q_2).2.2 157)), (12, .int x12_5), (13, .int x13_52), (14, .int x14_70), (15, .int x15_54), (16, .int x16_59), (17, .int x17_60), (19, .int r_78)] := hl
                          refine lv_goto (tgt := 83) hx hb dL_runs_181 (by decide) ?_
                          exact ih_83 x14_70 1 r_78 x20_87 M_85 _ _ _ hw (lv_sub hl [2, 3, 4, 5, 6, 7, 8, 9, 10, 11, 12, 13, 14, 15, 16, 17, 18, 1, 19, 0] rfl) hf
                        · have hf := ie_e hf c_86
                          refine lv_iload hx hb dL_runs_159 (lv_at hl 15 rfl) ?_
                          refine lv_istore (lv' := [(14, .int x15_54), (18, .int 1), (0, .ref ((xn X 157 q_2).2.2 0)), (1, .ref ((xn X 157 q_2).2.2 155)), (3, .ref ((xn X 157 q_2).2.2 142)), (4, .ref ((xn X 157 q_2).2.2 143)), (5, .ref ((xn X 157 q_2).2.2 144)), (6, .ref ((xn X 157 q_2).2.2 145)), (7, .ref ((xn X 157 q_2).2.2 147)), (8, .ref ((xn X 157 q_2).2.2 148)), (9, .ref ((xn X 157 q_2).2.2 153)), (10, .ref ((xn X 157 q_2).2.2 152)), (11, .ref ((xn X 157 q_2).2.2 157)), (12, .int x12_5), (13, .int x13_52), (15, .int x15_54), (16, .int x16_59), (17, .int x17_60), (19, .int r_78), (20, .int x20_73)]) hx hb dL_runs_161 hl (by decide) rfl (fun ls hl => ?_)
                          refine lv_aload hx hb dL_runs_163 (lv_at hl 8 rfl) ?_
                          refine lv_aload hx hb dL_runs_165 (lv_at hl 9 rfl) ?_
                          refine lv_aload hx hb dL_runs_167 (lv_at hl 6 rfl) ?_
                          refine lv_aload hx hb dL_runs_169 (lv_at hl 7 rfl) ?_
                          refine lv_aload hx hb dL_runs_171 (lv_at hl 11 rfl) ?_
                          refine lv_iload hx hb dL_runs_173 (lv_at hl 16 rfl) ?_
                          obtain ⟨M_89, h_88, hf⟩ := bd_e hf
                          refine q_callSv (M' := M_89) (As := [.ref ((xn X 157 q_2).2.2 147), .ref ((xn X 157 q_2).2.2 148), .ref ((xn X 157 q_2).2.2 144), .ref ((xn X 157 q_2).2.2 145), .ref ((xn X 157 q_2).2.2 152), .int x16_59]) (rest := []) B hw (c_L_written l _ (xn X 157 q_2) fu x16_59 M_85 M_89 h_88 _) cs_L_158 rfl hl.1 rfl rfl ⟨(Nat.le_of_ble_eq_true rfl), (Nat.le_of_ble_eq_true rfl)⟩ (Nat.le_of_ble_eq_true rfl) ⟨(Nat.le_of_ble_eq_true rfl), (Nat.le_of_ble_eq_true rfl)⟩ dL_runs_175 rfl (fun H locs hw => ?_)
                          refine r_iinc (v := (x20_73 + 1)) hx hb dL_runs_178 hl (k := 19) rfl rfl (by decide) hf (fun x20_90 ls hl hf => ?_)
                          have hl : lv_has ls 21 [(20, .int x20_90), (14, .int x15_54), (18, .int 1), (0, .ref ((xn X 157 q_2).2.2 0)), (1, .ref ((xn X 157 q_2).2.2 155)), (3, .ref ((xn X 157 q_2).2.2 142)), (4, .ref ((xn X 157 q_2).2.2 143)), (5, .ref ((xn X 157 q_2).2.2 144)), (6, .ref ((xn X 157 q_2).2.2 145)), (7, .ref ((xn X 157 q_2).2.2 147)), (8, .ref ((xn X 157 q_2).2.2 148)), (9, .ref ((xn X 157 q_2).2.2 153)), (10, .ref ((xn X 157 q_2).2.2 152)), (11, .ref ((xn X 157 q_2).2.2 157)), (12, .int x12_5), (13, .int x13_52), (15, .int x15_54), (16, .int x16_59), (17, .int x17_60), (19, .int r_78)] := hl
                          refine lv_goto (tgt := 83) hx hb dL_runs_181 (by decide) ?_
                          exact ih_83 x15_54 1 r_78 x20_90 M_89 _ _ _ hw (lv_sub hl [3, 4, 5, 6, 7, 8, 9, 10, 11, 12, 13, 14, 15, 1, 16, 17, 18, 2, 19, 0] rfl) hf
                      refine lv_icmp_ne (tgt := 138) hx hb dL_runs_121 (by decide) (fun c_91 => ?_) (fun c_91 => ?_)
                      · have hf := ie_e hf c_91
                        exact J138_82 () _ _ _ hw (lv_sub hl [1, 2, 3, 4, 5, 6, 7, 8, 9, 10, 11, 12, 13, 14, 15, 16, 17, 0, 19] rfl) hf
                      · have hf := it_e hf c_91
                        refine lv_aload hx hb dL_runs_124 (lv_at hl 6 rfl) ?_
                        refine lv_bipush (v := 18) hx hb dL_runs_126 (by decide) ?_
                        refine lv_iload hx hb dL_runs_128 (lv_at hl 17 rfl) ?_
                        refine lv_iadd hx hb dL_runs_130 ?_
                        obtain ⟨g_92, hf⟩ := grd_e hf
                        refine w_iald B hw (i := 145) (kw145 _) g_92 dL_runs_131 ?_
                        refine lv_if_ne (tgt := 138) hx hb dL_runs_132 (by decide) (fun c_93 => ?_) (fun c_93 => ?_)
                        · have hf := ie_e hf c_93
                          exact J138_82 () _ _ _ hw (lv_sub hl [1, 2, 3, 4, 5, 6, 7, 8, 9, 10, 11, 12, 13, 14, 15, 16, 17, 0, 19] rfl) hf
                        · have hf := it_e hf c_93
                          refine lv_goto (tgt := 178) hx hb dL_runs_135 (by decide) ?_
                          refine r_iinc (v := (x20_73 + 1)) hx hb dL_runs_178 hl (k := 19) rfl rfl (by decide) hf (fun x20_94 ls hl hf => ?_)
                          have hl : lv_has ls 21 [(20, .int x20_94), (19, .int r_78), (0, .ref ((xn X 157 q_2).2.2 0)), (1, .ref ((xn X 157 q_2).2.2 155)), (3, .ref ((xn X 157 q_2).2.2 142)), (4, .ref ((xn X 157 q_2).2.2 143)), (5, .ref ((xn X 157 q_2).2.2 144)), (6, .ref ((xn X 157 q_2).2.2 145)), (7, .ref ((xn X 157 q_2).2.2 147)), (8, .ref ((xn X 157 q_2).2.2 148)), (9, .ref ((xn X 157 q_2).2.2 153)), (10, .ref ((xn X 157 q_2).2.2 152)), (11, .ref ((xn X 157 q_2).2.2 157)), (12, .int x12_5), (13, .int x13_52), (14, .int x14_70), (15, .int x15_54), (16, .int x16_59), (17, .int x17_60), (18, .int x18_71)] := hl
                          refine lv_goto (tgt := 83) hx hb dL_runs_181 (by decide) ?_
                          exact ih_83 x14_70 x18_71 r_78 x20_94 M_79 _ _ _ hw (lv_sub hl [2, 3, 4, 5, 6, 7, 8, 9, 10, 11, 12, 13, 14, 15, 16, 17, 18, 19, 1, 0] rfl) hf
            exact hL_83 fu x14_53 0 1 0 M_55 _ _ _ hw (lv_sub hl [5, 6, 7, 8, 9, 10, 11, 12, 13, 14, 15, 16, 17, 18, 19, 4, 3, 2, 1, 0] rfl) hf
    exact hL_45 fu (-1) (-1) 0 M_6 _ _ _ hw (lv_sub hl [5, 6, 8, 9, 10, 11, 12, 13, 14, 15, 4, 3, 2, 1, 0] rfl) hf
  · have hf := it_e hf c_1
    refine lv_aload_n hx hb dL_runs_6 rfl (lv_at hl 0 rfl) ?_
    obtain ⟨r_96, M_97, h_95, hf⟩ := bm_e hf
    refine w_wrap (n := 1) (M' := M_97) (v := r_96) (As := [.ref (X.2.2 0)]) (rest := []) B T N9 hw (c_L_run l hfl _ X fu M (r_96, M_97) h_95 _) km_L_312 kt_L_run ki_L kc_L_run ⟨by decide +kernel, by decide +kernel, by decide +kernel⟩ rfl hl.1 rfl rfl ⟨(Nat.le_of_ble_eq_true rfl), (Nat.le_of_ble_eq_true rfl)⟩ (Nat.le_of_ble_eq_true rfl) ⟨(Nat.le_of_ble_eq_true rfl), (Nat.le_of_ble_eq_true rfl)⟩ dL_runs_7 rfl (fun H locs hw => ?_)
    refine W.widen (k := 1) (n := 6) (by omega) (by omega) ?_
    refine lv_sipush (v := (-7300)) hx hb dL_runs_10 (by decide) ?_
    refine lv_icmp_ne (tgt := 20) hx hb dL_runs_13 (by decide) (fun c_98 => ?_) (fun c_98 => ?_)
    · have hf := ie_e hf c_98
      refine lv_iconst (v := 0) hx hb dL_runs_20 (by decide) ?_
      refine W.widen (k := 3) (n := 18) (by omega) (by omega) ?_
      cases hf
      subst hQ
      exact q_zret B0 hr hlk rfl hw rfl rfl dL_runs_21
    · have hf := it_e hf c_98
      refine lv_iconst (v := 1) hx hb dL_runs_16 (by decide) ?_
      refine lv_goto (tgt := 21) hx hb dL_runs_17 (by decide) ?_
      refine W.widen (k := 3) (n := 18) (by omega) (by omega) ?_
      cases hf
      subst hQ
      exact q_zret B0 hr hlk rfl hw rfl rfl dL_runs_21
