abbrev rm_L_isAnew : Room := { frames := 9, cells := 202, slots := 1212, locals := 181 }
set_option maxRecDepth 100000 in
set_option maxHeartbeats 8000000 in
theorem c_L_isAnew (l : Launch) (hfl : l.stackTraces = false) (X : XT) (fu : Nat) (M : Mem)  (rs : (Int32 × Mem)) (hf : f_L_isAnew fu M = some rs) (sz : Nat) : Met l yL_isAnew (wbig yL_isAnew cL_isAnew 11 (some .boolean)) rm_L_isAnew (va_Pc [.ref (X.2.2 0), .ref (X.2.2 142), .ref (X.2.2 143), .ref (X.2.2 146)] (PXN (LW []) X M sz)) (QI (LW []) X rs.2 rs.1 sz) 202 1212 (AX (LW []) X sz) := by
  refine wn_go (L := (LW [])) (M := M) (by decide +kernel) (Nat.le_of_ble_eq_true rfl) ?_
  intro p e s m args below meth c hsz B T N9 hr hlk hw ls hl
  subst hsz
  have hx := B.hx
  have hb := B.hb
  have B0 := B
  have T0 := T
  have hl : lv_has ls 11 [(0, .ref (X.2.2 0)), (1, .ref (X.2.2 142)), (2, .ref (X.2.2 143)), (3, .ref (X.2.2 146))] := hl
  generalize hQ : MQ below _ args s 202 1212 (AX (LW []) X s.heap.size) = Q
  unfold f_L_isAnew at hf
  refine lv_aload_n hx hb dL_isAnew_0 rfl (lv_at hl 3 rfl) ?_
  refine lv_iconst (v := 0) hx hb dL_isAnew_1 (by decide) ?_
  refine w_iald B hw (i := 146) (kw146 _) (by decide) dL_isAnew_2 ?_
  refine jn_e hf (fun kk => ∀ (_ : Unit) (H : Heap) (locs : List Loc) (ls : Array Slot), HW (LW []) X M s H locs → lv_has ls 11 [(0, .ref (X.2.2 0))] → kk () = some rs → W p l e rm_L_isAnew s m args below meth c H locs 0 0 Q (F0 m 12 ls [])) ?_ (fun k12_1 J12_1 hf => ?_)
  · intro _ H locs ls hw hl hf
    refine lv_aload_n hx hb dL_isAnew_12 rfl (lv_at hl 0 rfl) ?_
    obtain ⟨r_3, M_4, h_2, hf⟩ := bm_e hf
    refine w_wrap (n := 1) (M' := M_4) (v := r_3) (As := [.ref (X.2.2 0)]) (rest := []) B T N9 hw (c_L_answersAnew l hfl _ X fu M (r_3, M_4) h_2 _) km_L_293 kt_L_answersAnew ki_L kc_L_answersAnew ⟨by decide +kernel, by decide +kernel, by decide +kernel⟩ rfl hl.1 rfl rfl ⟨(Nat.le_of_ble_eq_true rfl), (Nat.le_of_ble_eq_true rfl)⟩ (Nat.le_of_ble_eq_true rfl) ⟨(Nat.le_of_ble_eq_true rfl), (Nat.le_of_ble_eq_true rfl)⟩ dL_isAnew_13 rfl (fun H locs hw => ?_)
    refine W.widen (k := 1) (n := 6) (by omega) (by omega) ?_
    refine lv_sipush (v := (-7300)) hx hb dL_isAnew_16 (by decide) ?_
    refine lv_icmp_ne (tgt := 38) hx hb dL_isAnew_19 (by decide) (fun c_5 => ?_) (fun c_5 => ?_)
    · have hf := ie_e hf c_5
      refine lv_iconst (v := 0) hx hb dL_isAnew_38 (by decide) ?_
      refine W.widen (k := 202) (n := 1212) (by omega) (by omega) ?_
      cases hf
      subst hQ
      exact q_zret B0 hr hlk rfl hw rfl rfl dL_isAnew_39
    · have hf := it_e hf c_5
      refine lv_aload_n hx hb dL_isAnew_22 rfl (lv_at hl 0 rfl) ?_
      refine lv_iconst (v := (-1)) hx hb dL_isAnew_23 (by decide) ?_
      refine lv_iconst (v := 0) hx hb dL_isAnew_24 (by decide) ?_
      obtain ⟨r_7, M_8, h_6, hf⟩ := bm_e hf
      refine w_wrap (n := 3) (M' := M_8) (v := r_7) (As := [.ref (X.2.2 0), .int (-1), .int 0]) (rest := []) B T N9 hw (c_L_answerAnew l hfl _ X fu (-1) 0 M_4 (r_7, M_8) h_6 _) km_L_296 kt_L_answerAnew ki_L kc_L_answerAnew ⟨by decide +kernel, by decide +kernel, by decide +kernel⟩ rfl hl.1 rfl rfl ⟨(Nat.le_of_ble_eq_true rfl), (Nat.le_of_ble_eq_true rfl)⟩ (Nat.le_of_ble_eq_true rfl) ⟨(Nat.le_of_ble_eq_true rfl), (Nat.le_of_ble_eq_true rfl)⟩ dL_isAnew_25 rfl (fun H locs hw => ?_)
      refine W.widen (k := 3) (n := 18) (by omega) (by omega) ?_
      refine lv_sipush (v := (-7300)) hx hb dL_isAnew_28 (by decide) ?_
      refine lv_icmp_ne (tgt := 38) hx hb dL_isAnew_31 (by decide) (fun c_9 => ?_) (fun c_9 => ?_)
      · have hf := ie_e hf c_9
        refine lv_iconst (v := 0) hx hb dL_isAnew_38 (by decide) ?_
        refine W.widen (k := 202) (n := 1212) (by omega) (by omega) ?_
        cases hf
        subst hQ
        exact q_zret B0 hr hlk rfl hw rfl rfl dL_isAnew_39
      · have hf := it_e hf c_9
        refine lv_iconst (v := 1) hx hb dL_isAnew_34 (by decide) ?_
        refine lv_goto (tgt := 39) hx hb dL_isAnew_35 (by decide) ?_
        refine W.widen (k := 202) (n := 1212) (by omega) (by omega) ?_
        cases hf
        subst hQ
        exact q_zret B0 hr hlk rfl hw rfl rfl dL_isAnew_39
  refine lv_if_eq (tgt := 12) hx hb dL_isAnew_3 (by decide) (fun c_10 => ?_) (fun c_10 => ?_)
  · have hf := it_e hf c_10
    exact J12_1 () _ _ _ hw (lv_sub hl [0] rfl) hf
  · have hf := ie_e hf c_10
    refine lv_aload_n hx hb dL_isAnew_6 rfl (lv_at hl 3 rfl) ?_
    refine lv_iconst (v := 3) hx hb dL_isAnew_7 (by decide) ?_
    refine w_iald B hw (i := 146) (kw146 _) (by decide) dL_isAnew_8 ?_
    refine lv_if_ne (tgt := 40) hx hb dL_isAnew_9 (by decide) (fun c_11 => ?_) (fun c_11 => ?_)
    · have hf := ie_e hf c_11
      refine lv_bipush (v := 30) hx hb dL_isAnew_40 (by decide) ?_
      obtain ⟨g_14, hf⟩ := grd_e hf
      refine w_newl (ex := []) (ex' := [(24, 30)]) (N := 30) (num := 157) B T hw g_14 (by decide +kernel) (by decide +kernel) (Nat.le_of_ble_eq_true rfl) (Nat.le_of_ble_eq_true rfl) (Nat.le_of_ble_eq_true rfl) rfl rfl dL_isAnew_42 hf (fun q_12 M_13 H locs hq_12 B T hw hf => ?_)
      refine W.widen (k := 5) (n := 30) (by omega) (by omega) ?_
      have hl : lv_has ls 11 [(0, .ref ((xn X 157 q_12).2.2 0)), (1, .ref ((xn X 157 q_12).2.2 142)), (2, .ref ((xn X 157 q_12).2.2 143)), (3, .ref ((xn X 157 q_12).2.2 146))] := hl
      refine lv_astore (lv' := [(4, .ref ((xn X 157 q_12).2.2 157)), (0, .ref ((xn X 157 q_12).2.2 0)), (1, .ref ((xn X 157 q_12).2.2 142)), (2, .ref ((xn X 157 q_12).2.2 143)), (3, .ref ((xn X 157 q_12).2.2 146))]) hx hb dL_isAnew_44 hl (by decide) rfl (fun ls hl => ?_)
      refine lv_iconst (v := 3) hx hb dL_isAnew_46 (by decide) ?_
      obtain ⟨g_17, hf⟩ := grd_e hf
      refine w_newi (ex := [(24, 30)]) (ex' := [(24, 30), (20, 3)]) (N := 3) (num := 158) B T hw g_17 (by decide +kernel) (by decide +kernel) (Nat.le_of_ble_eq_true rfl) (Nat.le_of_ble_eq_true rfl) (Nat.le_of_ble_eq_true rfl) rfl rfl dL_isAnew_47 hf (fun q_15 M_16 H locs hq_15 B T hw hf => ?_)
      refine W.widen (k := 6) (n := 36) (by omega) (by omega) ?_
      have hl : lv_has ls 11 [(4, .ref ((xn (xn X 157 q_12) 158 q_15).2.2 157)), (0, .ref ((xn (xn X 157 q_12) 158 q_15).2.2 0)), (1, .ref ((xn (xn X 157 q_12) 158 q_15).2.2 142)), (2, .ref ((xn (xn X 157 q_12) 158 q_15).2.2 143)), (3, .ref ((xn (xn X 157 q_12) 158 q_15).2.2 146))] := hl
      refine lv_astore (lv' := [(5, .ref ((xn (xn X 157 q_12) 158 q_15).2.2 158)), (4, .ref ((xn (xn X 157 q_12) 158 q_15).2.2 157)), (0, .ref ((xn (xn X 157 q_12) 158 q_15).2.2 0)), (1, .ref ((xn (xn X 157 q_12) 158 q_15).2.2 142)), (2, .ref ((xn (xn X 157 q_12) 158 q_15).2.2 143)), (3, .ref ((xn (xn X 157 q_12) 158 q_15).2.2 146))]) hx hb dL_isAnew_49 hl (by decide) rfl (fun ls hl => ?_)
      refine lv_bipush (v := 60) hx hb dL_isAnew_51 (by decide) ?_
      obtain ⟨g_20, hf⟩ := grd_e hf
      refine w_newi (ex := [(24, 30), (20, 3)]) (ex' := [(24, 30), (20, 3), (20, 60)]) (N := 60) (num := 159) B T hw g_20 (by decide +kernel) (by decide +kernel) (Nat.le_of_ble_eq_true rfl) (Nat.le_of_ble_eq_true rfl) (Nat.le_of_ble_eq_true rfl) rfl rfl dL_isAnew_53 hf (fun q_18 M_19 H locs hq_18 B T hw hf => ?_)
      refine W.widen (k := 16) (n := 96) (by omega) (by omega) ?_
      have hl : lv_has ls 11 [(5, .ref ((xn (xn (xn X 157 q_12) 158 q_15) 159 q_18).2.2 158)), (4, .ref ((xn (xn (xn X 157 q_12) 158 q_15) 159 q_18).2.2 157)), (0, .ref ((xn (xn (xn X 157 q_12) 158 q_15) 159 q_18).2.2 0)), (1, .ref ((xn (xn (xn X 157 q_12) 158 q_15) 159 q_18).2.2 142)), (2, .ref ((xn (xn (xn X 157 q_12) 158 q_15) 159 q_18).2.2 143)), (3, .ref ((xn (xn (xn X 157 q_12) 158 q_15) 159 q_18).2.2 146))] := hl
      refine lv_astore (lv' := [(6, .ref ((xn (xn (xn X 157 q_12) 158 q_15) 159 q_18).2.2 159)), (5, .ref ((xn (xn (xn X 157 q_12) 158 q_15) 159 q_18).2.2 158)), (4, .ref ((xn (xn (xn X 157 q_12) 158 q_15) 159 q_18).2.2 157)), (0, .ref ((xn (xn (xn X 157 q_12) 158 q_15) 159 q_18).2.2 0)), (1, .ref ((xn (xn (xn X 157 q_12) 158 q_15) 159 q_18).2.2 142)), (2, .ref ((xn (xn (xn X 157 q_12) 158 q_15) 159 q_18).2.2 143)), (3, .ref ((xn (xn (xn X 157 q_12) 158 q_15) 159 q_18).2.2 146))]) hx hb dL_isAnew_55 hl (by decide) rfl (fun ls hl => ?_)
      refine lv_iconst (v := 0) hx hb dL_isAnew_57 (by decide) ?_
      refine lv_istore (lv' := [(7, .int 0), (6, .ref ((xn (xn (xn X 157 q_12) 158 q_15) 159 q_18).2.2 159)), (5, .ref ((xn (xn (xn X 157 q_12) 158 q_15) 159 q_18).2.2 158)), (4, .ref ((xn (xn (xn X 157 q_12) 158 q_15) 159 q_18).2.2 157)), (0, .ref ((xn (xn (xn X 157 q_12) 158 q_15) 159 q_18).2.2 0)), (1, .ref ((xn (xn (xn X 157 q_12) 158 q_15) 159 q_18).2.2 142)), (2, .ref ((xn (xn (xn X 157 q_12) 158 q_15) 159 q_18).2.2 143)), (3, .ref ((xn (xn (xn X 157 q_12) 158 q_15) 159 q_18).2.2 146))]) hx hb dL_isAnew_58 hl (by decide) rfl (fun ls hl => ?_)
      refine jn_e hf (fun kk => ∀ (M_22 : Mem) (H : Heap) (locs : List Loc) (ls : Array Slot), HW (LW [(24, 30), (20, 3), (20, 60)]) (xn (xn (xn X 157 q_12) 158 q_15) 159 q_18) M_22 s H locs → lv_has ls 11 [(0, .ref ((xn (xn (xn X 157 q_12) 158 q_15) 159 q_18).2.2 0)), (3, .ref ((xn (xn (xn X 157 q_12) 158 q_15) 159 q_18).2.2 146)), (4, .ref ((xn (xn (xn X 157 q_12) 158 q_15) 159 q_18).2.2 157)), (5, .ref ((xn (xn (xn X 157 q_12) 158 q_15) 159 q_18).2.2 158)), (6, .ref ((xn (xn (xn X 157 q_12) 158 q_15) 159 q_18).2.2 159))] → kk M_22 = some rs → W p l e rm_L_isAnew s m args below meth c H locs 16 96 Q (F0 m 133 ls [])) ?_ (fun k133_21 J133_21 hf => ?_)
      · intro M_22 H locs ls hw hl hf
        refine lv_aload_n hx hb dL_isAnew_133 rfl (lv_at hl 1 rfl) ?_
        refine lv_aload hx hb dL_isAnew_134 (lv_at hl 2 rfl) ?_
        refine lv_aload hx hb dL_isAnew_136 (lv_at hl 3 rfl) ?_
        refine lv_aload hx hb dL_isAnew_138 (lv_at hl 4 rfl) ?_
        obtain ⟨r_24, M_25, h_23, hf⟩ := bm_e hf
        refine q_callSi (M' := M_25) (As := [.ref ((xn (xn (xn X 157 q_12) 158 q_15) 159 q_18).2.2 146), .ref ((xn (xn (xn X 157 q_12) 158 q_15) 159 q_18).2.2 157), .ref ((xn (xn (xn X 157 q_12) 158 q_15) 159 q_18).2.2 158), .ref ((xn (xn (xn X 157 q_12) 158 q_15) 159 q_18).2.2 159)]) (rest := []) B hw (c_L_match l _ (xn (xn (xn X 157 q_12) 158 q_15) 159 q_18) fu 157 158 159 M_22 rfl rfl rfl (r_24, M_25) h_23 _) cs_L_303 rfl hl.1 rfl rfl ⟨(Nat.le_of_ble_eq_true rfl), (Nat.le_of_ble_eq_true rfl)⟩ (Nat.le_of_ble_eq_true rfl) ⟨(Nat.le_of_ble_eq_true rfl), (Nat.le_of_ble_eq_true rfl)⟩ dL_isAnew_140 rfl (fun H locs hw => ?_)
        refine lv_istore (lv' := [(7, .int r_24), (0, .ref ((xn (xn (xn X 157 q_12) 158 q_15) 159 q_18).2.2 0)), (3, .ref ((xn (xn (xn X 157 q_12) 158 q_15) 159 q_18).2.2 146)), (4, .ref ((xn (xn (xn X 157 q_12) 158 q_15) 159 q_18).2.2 157)), (5, .ref ((xn (xn (xn X 157 q_12) 158 q_15) 159 q_18).2.2 158)), (6, .ref ((xn (xn (xn X 157 q_12) 158 q_15) 159 q_18).2.2 159))]) hx hb dL_isAnew_143 hl (by decide) rfl (fun ls hl => ?_)
        refine lv_aload_n hx hb dL_isAnew_145 rfl (lv_at hl 2 rfl) ?_
        refine lv_iconst (v := 5) hx hb dL_isAnew_146 (by decide) ?_
        refine w_iald B hw (i := 146) (kw146 _) (by decide) dL_isAnew_147 ?_
        refine lv_iconst (v := 1) hx hb dL_isAnew_148 (by decide) ?_
        refine nmv_e hf (fun kk => ∀ (H : Heap) (locs : List Loc), HW (LW [(24, 30), (20, 3), (20, 60)]) (xn (xn (xn X 157 q_12) 158 q_15) 159 q_18) M_25 s H locs → W p l e rm_L_isAnew s m args below meth c H locs 16 96 Q (F0 m 159 ls [.int kk])) (fun J => ?_) (fun v_27 hf H locs hw => ?_)
        · refine lv_icmp_ne (tgt := 156) hx hb dL_isAnew_149 (by decide) (fun c_26 => ?_) (fun c_26 => ?_)
          · rw [if_neg (show ¬ ((M_25 146 5) = 1) from c_26)] at J
            refine lv_aload_n hx hb dL_isAnew_156 rfl (lv_at hl 2 rfl) ?_
            refine lv_iconst (v := 3) hx hb dL_isAnew_157 (by decide) ?_
            refine w_iald B hw (i := 146) (kw146 _) (by decide) dL_isAnew_158 ?_
            exact J _ _ hw
          · rw [if_pos (show (M_25 146 5) = 1 from c_26)] at J
            refine lv_iconst (v := 3) hx hb dL_isAnew_152 (by decide) ?_
            refine lv_goto (tgt := 159) hx hb dL_isAnew_153 (by decide) ?_
            exact J _ _ hw
        · refine lv_istore (lv' := [(8, .int v_27), (7, .int r_24), (0, .ref ((xn (xn (xn X 157 q_12) 158 q_15) 159 q_18).2.2 0)), (3, .ref ((xn (xn (xn X 157 q_12) 158 q_15) 159 q_18).2.2 146)), (4, .ref ((xn (xn (xn X 157 q_12) 158 q_15) 159 q_18).2.2 157)), (5, .ref ((xn (xn (xn X 157 q_12) 158 q_15) 159 q_18).2.2 158)), (6, .ref ((xn (xn (xn X 157 q_12) 158 q_15) 159 q_18).2.2 159))]) hx hb dL_isAnew_159 hl (by decide) rfl (fun ls hl => ?_)
          refine lv_aload_n hx hb dL_isAnew_161 rfl (lv_at hl 2 rfl) ?_
          obtain ⟨r_29, M_30, h_28, hf⟩ := bm_e hf
          refine w_wrap (n := 1) (M' := M_30) (v := r_29) (As := [.ref ((xn (xn (xn X 157 q_12) 158 q_15) 159 q_18).2.2 0)]) (rest := []) B T N9 hw (c_L_answersAnew l hfl _ (xn (xn (xn X 157 q_12) 158 q_15) 159 q_18) fu M_25 (r_29, M_30) h_28 _) km_L_293 kt_L_answersAnew ki_L kc_L_answersAnew ⟨by decide +kernel, by decide +kernel, by decide +kernel⟩ rfl hl.1 rfl rfl ⟨(Nat.le_of_ble_eq_true rfl), (Nat.le_of_ble_eq_true rfl)⟩ (Nat.le_of_ble_eq_true rfl) ⟨(Nat.le_of_ble_eq_true rfl), (Nat.le_of_ble_eq_true rfl)⟩ dL_isAnew_162 rfl (fun H locs hw => ?_)
          refine W.widen (k := 17) (n := 102) (by omega) (by omega) ?_
          refine lv_iload hx hb dL_isAnew_165 (lv_at hl 1 rfl) ?_
          refine lv_icmp_ne (tgt := 208) hx hb dL_isAnew_167 (by decide) (fun c_31 => ?_) (fun c_31 => ?_)
          · have hf := ie_e hf c_31
            refine lv_iconst (v := 0) hx hb dL_isAnew_208 (by decide) ?_
            refine W.widen (k := 202) (n := 1212) (by omega) (by omega) ?_
            obtain ⟨g_32, hf⟩ := grd_e hf
            have hw := w_drop (ex := [(24, 30), (20, 3)]) (k := (20, 60)) hq_18 rfl rfl g_32 hw
            have hw := w_drop (ex := [(24, 30)]) (k := (20, 3)) hq_15 rfl rfl g_32 hw
            have hw := w_drop (ex := []) (k := (24, 30)) hq_12 rfl rfl g_32 hw
            cases hf
            subst hQ
            exact q_zret B0 hr hlk rfl hw rfl rfl dL_isAnew_209
          · have hf := it_e hf c_31
            refine lv_aload_n hx hb dL_isAnew_170 rfl (lv_at hl 2 rfl) ?_
            refine lv_iload hx hb dL_isAnew_171 (lv_at hl 1 rfl) ?_
            refine lv_iconst (v := 0) hx hb dL_isAnew_173 (by decide) ?_
            obtain ⟨r_34, M_35, h_33, hf⟩ := bm_e hf
            refine w_wrap (n := 3) (M' := M_35) (v := r_34) (As := [.ref ((xn (xn (xn X 157 q_12) 158 q_15) 159 q_18).2.2 0), .int r_24, .int 0]) (rest := []) B T N9 hw (c_L_answerAnew l hfl _ (xn (xn (xn X 157 q_12) 158 q_15) 159 q_18) fu r_24 0 M_30 (r_34, M_35) h_33 _) km_L_296 kt_L_answerAnew ki_L kc_L_answerAnew ⟨by decide +kernel, by decide +kernel, by decide +kernel⟩ rfl hl.1 rfl rfl ⟨(Nat.le_of_ble_eq_true rfl), (Nat.le_of_ble_eq_true rfl)⟩ (Nat.le_of_ble_eq_true rfl) ⟨(Nat.le_of_ble_eq_true rfl), (Nat.le_of_ble_eq_true rfl)⟩ dL_isAnew_174 rfl (fun H locs hw => ?_)
            refine W.widen (k := 19) (n := 114) (by omega) (by omega) ?_
            refine lv_sipush (v := (-7100)) hx hb dL_isAnew_177 (by decide) ?_
            refine lv_icmp_ne (tgt := 208) hx hb dL_isAnew_180 (by decide) (fun c_36 => ?_) (fun c_36 => ?_)
            · have hf := ie_e hf c_36
              refine lv_iconst (v := 0) hx hb dL_isAnew_208 (by decide) ?_
              refine W.widen (k := 202) (n := 1212) (by omega) (by omega) ?_
              obtain ⟨g_37, hf⟩ := grd_e hf
              have hw := w_drop (ex := [(24, 30), (20, 3)]) (k := (20, 60)) hq_18 rfl rfl g_37 hw
              have hw := w_drop (ex := [(24, 30)]) (k := (20, 3)) hq_15 rfl rfl g_37 hw
              have hw := w_drop (ex := []) (k := (24, 30)) hq_12 rfl rfl g_37 hw
              cases hf
              subst hQ
              exact q_zret B0 hr hlk rfl hw rfl rfl dL_isAnew_209
            · have hf := it_e hf c_36
              refine lv_aload_n hx hb dL_isAnew_183 rfl (lv_at hl 2 rfl) ?_
              refine lv_iconst (v := (-1)) hx hb dL_isAnew_184 (by decide) ?_
              refine lv_iconst (v := 0) hx hb dL_isAnew_185 (by decide) ?_
              obtain ⟨r_39, M_40, h_38, hf⟩ := bm_e hf
              refine w_wrap (n := 3) (M' := M_40) (v := r_39) (As := [.ref ((xn (xn (xn X 157 q_12) 158 q_15) 159 q_18).2.2 0), .int (-1), .int 0]) (rest := []) B T N9 hw (c_L_answerAnew l hfl _ (xn (xn (xn X 157 q_12) 158 q_15) 159 q_18) fu (-1) 0 M_35 (r_39, M_40) h_38 _) km_L_296 kt_L_answerAnew ki_L kc_L_answerAnew ⟨by decide +kernel, by decide +kernel, by decide +kernel⟩ rfl hl.1 rfl rfl ⟨(Nat.le_of_ble_eq_true rfl), (Nat.le_of_ble_eq_true rfl)⟩ (Nat.le_of_ble_eq_true rfl) ⟨(Nat.le_of_ble_eq_true rfl), (Nat.le_of_ble_eq_true rfl)⟩ dL_isAnew_186 rfl (fun H locs hw => ?_)
              refine W.widen (k := 21) (n := 126) (by omega) (by omega) ?_
              refine lv_sipush (v := (-7100)) hx hb dL_isAnew_189 (by decide) ?_
              refine lv_icmp_ne (tgt := 208) hx hb dL_isAnew_192 (by decide) (fun c_41 => ?_) (fun c_41 => ?_)
              · have hf := ie_e hf c_41
                refine lv_iconst (v := 0) hx hb dL_isAnew_208 (by decide) ?_
                refine W.widen (k := 202) (n := 1212) (by omega) (by omega) ?_
                obtain ⟨g_42, hf⟩ := grd_e hf
                have hw := w_drop (ex := [(24, 30), (20, 3)]) (k := (20, 60)) hq_18 rfl rfl g_42 hw
                have hw := w_drop (ex := [(24, 30)]) (k := (20, 3)) hq_15 rfl rfl g_42 hw
                have hw := w_drop (ex := []) (k := (24, 30)) hq_12 rfl rfl g_42 hw
                cases hf
                subst hQ
                exact q_zret B0 hr hlk rfl hw rfl rfl dL_isAnew_209
              · have hf := it_e hf c_41
                refine lv_aload_n hx hb dL_isAnew_195 rfl (lv_at hl 2 rfl) ?_
                refine lv_iconst (v := 0) hx hb dL_isAnew_196 (by decide) ?_
                refine lv_iload hx hb dL_isAnew_197 (lv_at hl 0 rfl) ?_
                obtain ⟨r_44, M_45, h_43, hf⟩ := bm_e hf
                refine w_wrap (n := 3) (M' := M_45) (v := r_44) (As := [.ref ((xn (xn (xn X 157 q_12) 158 q_15) 159 q_18).2.2 0), .int 0, .int v_27]) (rest := []) B T N9 hw (c_L_answerAnew l hfl _ (xn (xn (xn X 157 q_12) 158 q_15) 159 q_18) fu 0 v_27 M_40 (r_44, M_45) h_43 _) km_L_296 kt_L_answerAnew ki_L kc_L_answerAnew ⟨by decide +kernel, by decide +kernel, by decide +kernel⟩ rfl hl.1 rfl rfl ⟨(Nat.le_of_ble_eq_true rfl), (Nat.le_of_ble_eq_true rfl)⟩ (Nat.le_of_ble_eq_true rfl) ⟨(Nat.le_of_ble_eq_true rfl), (Nat.le_of_ble_eq_true rfl)⟩ dL_isAnew_199 rfl (fun H locs hw => ?_)
                refine W.widen (k := 23) (n := 138) (by omega) (by omega) ?_
                refine lv_sipush (v := (-7100)) hx hb dL_isAnew_202 (by decide) ?_
                refine lv_icmp_eq (tgt := 210) hx hb dL_isAnew_205 (by decide) (fun c_46 => ?_) (fun c_46 => ?_)
                · have hf := it_e hf c_46
                  refine lv_iconst (v := 0) hx hb dL_isAnew_210 (by decide) ?_
                  refine lv_istore (lv' := [(9, .int 0), (8, .int v_27), (7, .int r_24), (0, .ref ((xn (xn (xn X 157 q_12) 158 q_15) 159 q_18).2.2 0)), (3, .ref ((xn (xn (xn X 157 q_12) 158 q_15) 159 q_18).2.2 146)), (4, .ref ((xn (xn (xn X 157 q_12) 158 q_15) 159 q_18).2.2 157)), (5, .ref ((xn (xn (xn X 157 q_12) 158 q_15) 159 q_18).2.2 158)), (6, .ref ((xn (xn (xn X 157 q_12) 158 q_15) 159 q_18).2.2 159))]) hx hb dL_isAnew_211 hl (by decide) rfl (fun ls hl => ?_)
                  have hL_213 : ∀ (n_213 : Nat) (x9_47 : Int32) (M_48 : Mem) (H : Heap) (locs : List Loc) (ls : Array Slot) (c9_213 : Nat), c9_213 + n_213 * 8 = 199 →  HW (LW [(24, 30), (20, 3), (20, 60)]) (xn (xn (xn X 157 q_12) 158 q_15) 159 q_18) M_48 s H locs → lv_has ls 11 [(0, .ref ((xn (xn (xn X 157 q_12) 158 q_15) 159 q_18).2.2 0)), (6, .ref ((xn (xn (xn X 157 q_12) 158 q_15) 159 q_18).2.2 159)), (7, .int r_24), (8, .int v_27), (9, .int x9_47)] → f_L_isAnew_L213 fu r_24 v_27 n_213 x9_47 M_48 = some rs → W p l e rm_L_isAnew s m args below meth c H locs (c9_213 + 0) (6 * (c9_213 + 0)) Q (F0 m 213 ls []) := by
                    intro n_213
                    induction n_213 with
                    | zero => intro x9_47 M_48 H locs ls c9_213 hc9_213 hw hl hf; exact no_none hf
                    | succ n_213 ih_213 =>
                      intro x9_47 M_48 H locs ls c9_213 hc9_213 hw hl hf
                      rw [f_L_isAnew_L213] at hf
                      refine lv_iload hx hb dL_isAnew_213 (lv_at hl 4 rfl) ?_
                      refine lv_iload hx hb dL_isAnew_215 (lv_at hl 2 rfl) ?_
                      refine lv_icmp_ge (tgt := 265) hx hb dL_isAnew_217 (by decide) (fun c_49 => ?_) (fun c_49 => ?_)
                      · have hf := it_e hf c_49
                        refine lv_iconst (v := 1) hx hb dL_isAnew_265 (by decide) ?_
                        refine W.widen (k := 202) (n := 1212) (by omega) (by omega) ?_
                        obtain ⟨g_50, hf⟩ := grd_e hf
                        have hw := w_drop (ex := [(24, 30), (20, 3)]) (k := (20, 60)) hq_18 rfl rfl g_50 hw
                        have hw := w_drop (ex := [(24, 30)]) (k := (20, 3)) hq_15 rfl rfl g_50 hw
                        have hw := w_drop (ex := []) (k := (24, 30)) hq_12 rfl rfl g_50 hw
                        cases hf
                        subst hQ
                        exact q_zret B0 hr hlk rfl hw rfl rfl dL_isAnew_266
                      · have hf := ie_e hf c_49
                        refine lv_iconst (v := 0) hx hb dL_isAnew_220 (by decide) ?_
                        refine lv_istore (lv' := [(10, .int 0), (0, .ref ((xn (xn (xn X 157 q_12) 158 q_15) 159 q_18).2.2 0)), (6, .ref ((xn (xn (xn X 157 q_12) 158 q_15) 159 q_18).2.2 159)), (7, .int r_24), (8, .int v_27), (9, .int x9_47)]) hx hb dL_isAnew_221 hl (by decide) rfl (fun ls hl => ?_)
                        refine jn_e hf (fun kk => ∀ (M_52 : Mem) (H : Heap) (locs : List Loc) (ls : Array Slot), HW (LW [(24, 30), (20, 3), (20, 60)]) (xn (xn (xn X 157 q_12) 158 q_15) 159 q_18) M_52 s H locs → lv_has ls 11 [(0, .ref ((xn (xn (xn X 157 q_12) 158 q_15) 159 q_18).2.2 0)), (6, .ref ((xn (xn (xn X 157 q_12) 158 q_15) 159 q_18).2.2 159)), (7, .int r_24), (8, .int v_27), (9, .int x9_47)] → kk M_52 = some rs → W p l e rm_L_isAnew s m args below meth c H locs (c9_213 + 8) (6 * (c9_213 + 8)) Q (F0 m 259 ls [])) ?_ (fun k259_51 J259_51 hf => ?_)
                        · intro M_52 H locs ls hw hl hf
                          refine r_iinc (v := (x9_47 + 1)) hx hb dL_isAnew_259 hl (k := 4) rfl rfl (by decide) hf (fun x9_53 ls hl hf => ?_)
                          have hl : lv_has ls 11 [(9, .int x9_53), (0, .ref ((xn (xn (xn X 157 q_12) 158 q_15) 159 q_18).2.2 0)), (6, .ref ((xn (xn (xn X 157 q_12) 158 q_15) 159 q_18).2.2 159)), (7, .int r_24), (8, .int v_27)] := hl
                          refine lv_goto (tgt := 213) hx hb dL_isAnew_262 (by decide) ?_
                          refine W.widen (k := (c9_213 + 8)) (n := (6 * (c9_213 + 8))) (by omega) (by omega) ?_
                          exact ih_213 x9_53 M_52 _ _ _ (c9_213 + 8) (by omega) hw (lv_sub hl [1, 2, 3, 4, 0] rfl) hf
                        have hL_223 : ∀ (n_223 : Nat) (x10_54 : Int32) (M_55 : Mem) (H : Heap) (locs : List Loc) (ls : Array Slot) (c9_223 : Nat), c9_223 + n_223 * 2 = (c9_213 + 8) →  HW (LW [(24, 30), (20, 3), (20, 60)]) (xn (xn (xn X 157 q_12) 158 q_15) 159 q_18) M_55 s H locs → lv_has ls 11 [(0, .ref ((xn (xn (xn X 157 q_12) 158 q_15) 159 q_18).2.2 0)), (6, .ref ((xn (xn (xn X 157 q_12) 158 q_15) 159 q_18).2.2 159)), (7, .int r_24), (8, .int v_27), (9, .int x9_47), (10, .int x10_54)] → f_L_isAnew_L223 fu v_27 x9_47 k259_51 n_223 x10_54 M_55 = some rs → W p l e rm_L_isAnew s m args below meth c H locs (c9_223 + 0) (6 * (c9_223 + 0)) Q (F0 m 223 ls []) := by
                          intro n_223
                          induction n_223 with
                          | zero => intro x10_54 M_55 H locs ls c9_223 hc9_223 hw hl hf; exact no_none hf
                          | succ n_223 ih_223 =>
                            intro x10_54 M_55 H locs ls c9_223 hc9_223 hw hl hf
                            rw [f_L_isAnew_L223] at hf
                            refine lv_iload hx hb dL_isAnew_223 (lv_at hl 5 rfl) ?_
                            refine lv_iload hx hb dL_isAnew_225 (lv_at hl 3 rfl) ?_
                            refine lv_icmp_ge (tgt := 259) hx hb dL_isAnew_227 (by decide) (fun c_56 => ?_) (fun c_56 => ?_)
                            · have hf := it_e hf c_56
                              refine W.widen (k := (c9_213 + 8)) (n := (6 * (c9_213 + 8))) (by omega) (by omega) ?_
                              exact J259_51 M_55 _ _ _ hw (lv_sub hl [0, 1, 2, 3, 4] rfl) hf
                            · have hf := ie_e hf c_56
                              refine lv_aload_n hx hb dL_isAnew_230 rfl (lv_at hl 0 rfl) ?_
                              refine lv_iload hx hb dL_isAnew_231 (lv_at hl 4 rfl) ?_
                              refine lv_iload hx hb dL_isAnew_233 (lv_at hl 5 rfl) ?_
                              obtain ⟨r_58, M_59, h_57, hf⟩ := bm_e hf
                              refine w_wrap (n := 3) (M' := M_59) (v := r_58) (As := [.ref ((xn (xn (xn X 157 q_12) 158 q_15) 159 q_18).2.2 0), .int x9_47, .int x10_54]) (rest := []) B T N9 hw (c_L_answerAnew l hfl _ (xn (xn (xn X 157 q_12) 158 q_15) 159 q_18) fu x9_47 x10_54 M_55 (r_58, M_59) h_57 _) km_L_296 kt_L_answerAnew ki_L kc_L_answerAnew ⟨by decide +kernel, by decide +kernel, by decide +kernel⟩ rfl hl.1 rfl rfl ⟨(Nat.le_of_ble_eq_true rfl), (Nat.le_of_ble_eq_true rfl)⟩ (Nat.le_of_ble_eq_true rfl) ⟨by show _ ≤ (202 : Nat); omega, by show _ ≤ (1212 : Nat); omega⟩ dL_isAnew_235 rfl (fun H locs hw => ?_)
                              refine W.widen (k := (c9_223 + 2)) (n := (6 * (c9_223 + 2))) (by omega) (by omega) ?_
                              refine lv_aload hx hb dL_isAnew_238 (lv_at hl 1 rfl) ?_
                              refine lv_iconst (v := 3) hx hb dL_isAnew_240 (by decide) ?_
                              refine lv_iload hx hb dL_isAnew_241 (lv_at hl 4 rfl) ?_
                              refine lv_imul hx hb dL_isAnew_243 ?_
                              refine lv_iload hx hb dL_isAnew_244 (lv_at hl 5 rfl) ?_
                              refine lv_iadd hx hb dL_isAnew_246 ?_
                              obtain ⟨g_60, hf⟩ := grd_e hf
                              refine w_iald B hw (i := 159) rfl g_60 dL_isAnew_247 ?_
                              refine lv_icmp_eq (tgt := 253) hx hb dL_isAnew_248 (by decide) (fun c_61 => ?_) (fun c_61 => ?_)
                              · have hf := it_e hf c_61
                                refine r_iinc (v := (x10_54 + 1)) hx hb dL_isAnew_253 hl (k := 5) rfl rfl (by decide) hf (fun x10_62 ls hl hf => ?_)
                                have hl : lv_has ls 11 [(10, .int x10_62), (0, .ref ((xn (xn (xn X 157 q_12) 158 q_15) 159 q_18).2.2 0)), (6, .ref ((xn (xn (xn X 157 q_12) 158 q_15) 159 q_18).2.2 159)), (7, .int r_24), (8, .int v_27), (9, .int x9_47)] := hl
                                refine lv_goto (tgt := 223) hx hb dL_isAnew_256 (by decide) ?_
                                refine W.widen (k := (c9_223 + 2)) (n := (6 * (c9_223 + 2))) (by omega) (by omega) ?_
                                exact ih_223 x10_62 M_59 _ _ _ (c9_223 + 2) (by omega) hw (lv_sub hl [1, 2, 3, 4, 5, 0] rfl) hf
                              · have hf := ie_e hf c_61
                                refine lv_iconst (v := 0) hx hb dL_isAnew_251 (by decide) ?_
                                refine W.widen (k := 202) (n := 1212) (by omega) (by omega) ?_
                                obtain ⟨g_63, hf⟩ := grd_e hf
                                have hw := w_drop (ex := [(24, 30), (20, 3)]) (k := (20, 60)) hq_18 rfl rfl g_63 hw
                                have hw := w_drop (ex := [(24, 30)]) (k := (20, 3)) hq_15 rfl rfl g_63 hw
                                have hw := w_drop (ex := []) (k := (24, 30)) hq_12 rfl rfl g_63 hw
                                cases hf
                                subst hQ
                                exact q_zret B0 hr hlk rfl hw rfl rfl dL_isAnew_252
                        exact hL_223 4 0 M_48 _ _ _ (c9_213 + 0) (by omega) hw (lv_sub hl [1, 2, 3, 4, 5, 0] rfl) hf
                  exact hL_213 22 0 M_45 _ _ _ 23 (by omega) hw (lv_sub hl [3, 7, 2, 1, 0] rfl) hf
                · have hf := ie_e hf c_46
                  refine lv_iconst (v := 0) hx hb dL_isAnew_208 (by decide) ?_
                  refine W.widen (k := 202) (n := 1212) (by omega) (by omega) ?_
                  obtain ⟨g_64, hf⟩ := grd_e hf
                  have hw := w_drop (ex := [(24, 30), (20, 3)]) (k := (20, 60)) hq_18 rfl rfl g_64 hw
                  have hw := w_drop (ex := [(24, 30)]) (k := (20, 3)) hq_15 rfl rfl g_64 hw
                  have hw := w_drop (ex := []) (k := (24, 30)) hq_12 rfl rfl g_64 hw
                  cases hf
                  subst hQ
                  exact q_zret B0 hr hlk rfl hw rfl rfl dL_isAnew_209
      have hL_60 : ∀ (n_60 : Nat) (x7_65 : Int32) (M_66 : Mem) (H : Heap) (locs : List Loc) (ls : Array Slot), HW (LW [(24, 30), (20, 3), (20, 60)]) (xn (xn (xn X 157 q_12) 158 q_15) 159 q_18) M_66 s H locs → lv_has ls 11 [(0, .ref ((xn (xn (xn X 157 q_12) 158 q_15) 159 q_18).2.2 0)), (1, .ref ((xn (xn (xn X 157 q_12) 158 q_15) 159 q_18).2.2 142)), (2, .ref ((xn (xn (xn X 157 q_12) 158 q_15) 159 q_18).2.2 143)), (3, .ref ((xn (xn (xn X 157 q_12) 158 q_15) 159 q_18).2.2 146)), (4, .ref ((xn (xn (xn X 157 q_12) 158 q_15) 159 q_18).2.2 157)), (5, .ref ((xn (xn (xn X 157 q_12) 158 q_15) 159 q_18).2.2 158)), (6, .ref ((xn (xn (xn X 157 q_12) 158 q_15) 159 q_18).2.2 159)), (7, .int x7_65)] → f_L_isAnew_L60 fu k133_21 n_60 x7_65 M_66 = some rs → W p l e rm_L_isAnew s m args below meth c H locs 16 96 Q (F0 m 60 ls []) := by
        intro n_60
        induction n_60 with
        | zero => intro x7_65 M_66 H locs ls hw hl hf; exact no_none hf
        | succ n_60 ih_60 =>
          intro x7_65 M_66 H locs ls hw hl hf
          rw [f_L_isAnew_L60] at hf
          refine lv_iload hx hb dL_isAnew_60 (lv_at hl 7 rfl) ?_
          refine lv_aload_n hx hb dL_isAnew_62 rfl (lv_at hl 3 rfl) ?_
          refine lv_iconst (v := 0) hx hb dL_isAnew_63 (by decide) ?_
          refine w_iald B hw (i := 146) (kw146 _) (by decide) dL_isAnew_64 ?_
          refine lv_icmp_ge (tgt := 133) hx hb dL_isAnew_65 (by decide) (fun c_67 => ?_) (fun c_67 => ?_)
          · have hf := it_e hf c_67
            exact J133_21 M_66 _ _ _ hw (lv_sub hl [0, 3, 4, 5, 6] rfl) hf
          · have hf := ie_e hf c_67
            refine lv_aload hx hb dL_isAnew_68 (lv_at hl 5 rfl) ?_
            refine lv_iload hx hb dL_isAnew_70 (lv_at hl 7 rfl) ?_
            refine lv_aload_n hx hb dL_isAnew_72 rfl (lv_at hl 2 rfl) ?_
            refine lv_aload_n hx hb dL_isAnew_73 rfl (lv_at hl 3 rfl) ?_
            refine lv_bipush (v := 6) hx hb dL_isAnew_74 (by decide) ?_
            refine lv_iload hx hb dL_isAnew_76 (lv_at hl 7 rfl) ?_
            refine lv_iadd hx hb dL_isAnew_78 ?_
            obtain ⟨g_68, hf⟩ := grd_e hf
            refine w_iald B hw (i := 146) (kw146 _) g_68 dL_isAnew_79 ?_
            obtain ⟨g_69, hf⟩ := grd_e hf
            refine w_iald B hw (i := 143) (kw143 _) g_69 dL_isAnew_80 ?_
            obtain ⟨g_70, hf⟩ := grd_e hf
            refine w_iast B hw (i := 158) rfl g_70 dL_isAnew_81 hf (fun M_71 H locs hw hf => ?_)
            refine lv_iconst (v := 0) hx hb dL_isAnew_82 (by decide) ?_
            refine lv_istore (lv' := [(8, .int 0), (0, .ref ((xn (xn (xn X 157 q_12) 158 q_15) 159 q_18).2.2 0)), (1, .ref ((xn (xn (xn X 157 q_12) 158 q_15) 159 q_18).2.2 142)), (2, .ref ((xn (xn (xn X 157 q_12) 158 q_15) 159 q_18).2.2 143)), (3, .ref ((xn (xn (xn X 157 q_12) 158 q_15) 159 q_18).2.2 146)), (4, .ref ((xn (xn (xn X 157 q_12) 158 q_15) 159 q_18).2.2 157)), (5, .ref ((xn (xn (xn X 157 q_12) 158 q_15) 159 q_18).2.2 158)), (6, .ref ((xn (xn (xn X 157 q_12) 158 q_15) 159 q_18).2.2 159)), (7, .int x7_65)]) hx hb dL_isAnew_83 hl (by decide) rfl (fun ls hl => ?_)
            refine jn_e hf (fun kk => ∀ (M_73 : Mem) (H : Heap) (locs : List Loc) (ls : Array Slot), HW (LW [(24, 30), (20, 3), (20, 60)]) (xn (xn (xn X 157 q_12) 158 q_15) 159 q_18) M_73 s H locs → lv_has ls 11 [(0, .ref ((xn (xn (xn X 157 q_12) 158 q_15) 159 q_18).2.2 0)), (1, .ref ((xn (xn (xn X 157 q_12) 158 q_15) 159 q_18).2.2 142)), (2, .ref ((xn (xn (xn X 157 q_12) 158 q_15) 159 q_18).2.2 143)), (3, .ref ((xn (xn (xn X 157 q_12) 158 q_15) 159 q_18).2.2 146)), (4, .ref ((xn (xn (xn X 157 q_12) 158 q_15) 159 q_18).2.2 157)), (5, .ref ((xn (xn (xn X 157 q_12) 158 q_15) 159 q_18).2.2 158)), (6, .ref ((xn (xn (xn X 157 q_12) 158 q_15) 159 q_18).2.2 159)), (7, .int x7_65)] → kk M_73 = some rs → W p l e rm_L_isAnew s m args below meth c H locs 16 96 Q (F0 m 127 ls [])) ?_ (fun k127_72 J127_72 hf => ?_)
            · intro M_73 H locs ls hw hl hf
              refine r_iinc (v := (x7_65 + 1)) hx hb dL_isAnew_127 hl (k := 7) rfl rfl (by decide) hf (fun x7_74 ls hl hf => ?_)
              have hl : lv_has ls 11 [(7, .int x7_74), (0, .ref ((xn (xn (xn X 157 q_12) 158 q_15) 159 q_18).2.2 0)), (1, .ref ((xn (xn (xn X 157 q_12) 158 q_15) 159 q_18).2.2 142)), (2, .ref ((xn (xn (xn X 157 q_12) 158 q_15) 159 q_18).2.2 143)), (3, .ref ((xn (xn (xn X 157 q_12) 158 q_15) 159 q_18).2.2 146)), (4, .ref ((xn (xn (xn X 157 q_12) 158 q_15) 159 q_18).2.2 157)), (5, .ref ((xn (xn (xn X 157 q_12) 158 q_15) 159 q_18).2.2 158)), (6, .ref ((xn (xn (xn X 157 q_12) 158 q_15) 159 q_18).2.2 159))] := hl
              refine lv_goto (tgt := 60) hx hb dL_isAnew_130 (by decide) ?_
              exact ih_60 x7_74 M_73 _ _ _ hw (lv_sub hl [1, 2, 3, 4, 5, 6, 7, 0] rfl) hf
            have hL_85 : ∀ (n_85 : Nat) (x8_75 : Int32) (M_76 : Mem) (H : Heap) (locs : List Loc) (ls : Array Slot), HW (LW [(24, 30), (20, 3), (20, 60)]) (xn (xn (xn X 157 q_12) 158 q_15) 159 q_18) M_76 s H locs → lv_has ls 11 [(0, .ref ((xn (xn (xn X 157 q_12) 158 q_15) 159 q_18).2.2 0)), (1, .ref ((xn (xn (xn X 157 q_12) 158 q_15) 159 q_18).2.2 142)), (2, .ref ((xn (xn (xn X 157 q_12) 158 q_15) 159 q_18).2.2 143)), (3, .ref ((xn (xn (xn X 157 q_12) 158 q_15) 159 q_18).2.2 146)), (4, .ref ((xn (xn (xn X 157 q_12) 158 q_15) 159 q_18).2.2 157)), (5, .ref ((xn (xn (xn X 157 q_12) 158 q_15) 159 q_18).2.2 158)), (6, .ref ((xn (xn (xn X 157 q_12) 158 q_15) 159 q_18).2.2 159)), (7, .int x7_65), (8, .int x8_75)] → f_L_isAnew_L85 fu x7_65 k127_72 n_85 x8_75 M_76 = some rs → W p l e rm_L_isAnew s m args below meth c H locs 16 96 Q (F0 m 85 ls []) := by
              intro n_85
              induction n_85 with
              | zero => intro x8_75 M_76 H locs ls hw hl hf; exact no_none hf
              | succ n_85 ih_85 =>
                intro x8_75 M_76 H locs ls hw hl hf
                rw [f_L_isAnew_L85] at hf
                refine lv_iload hx hb dL_isAnew_85 (lv_at hl 8 rfl) ?_
                refine lv_aload hx hb dL_isAnew_87 (lv_at hl 5 rfl) ?_
                refine lv_iload hx hb dL_isAnew_89 (lv_at hl 7 rfl) ?_
                obtain ⟨g_77, hf⟩ := grd_e hf
                refine w_iald B hw (i := 158) rfl g_77 dL_isAnew_91 ?_
                refine lv_icmp_ge (tgt := 127) hx hb dL_isAnew_92 (by decide) (fun c_78 => ?_) (fun c_78 => ?_)
                · have hf := it_e hf c_78
                  exact J127_72 M_76 _ _ _ hw (lv_sub hl [0, 1, 2, 3, 4, 5, 6, 7] rfl) hf
                · have hf := ie_e hf c_78
                  refine lv_aload hx hb dL_isAnew_95 (lv_at hl 4 rfl) ?_
                  refine lv_bipush (v := 10) hx hb dL_isAnew_97 (by decide) ?_
                  refine lv_iload hx hb dL_isAnew_99 (lv_at hl 7 rfl) ?_
                  refine lv_imul hx hb dL_isAnew_101 ?_
                  refine lv_iload hx hb dL_isAnew_102 (lv_at hl 8 rfl) ?_
                  refine lv_iadd hx hb dL_isAnew_104 ?_
                  refine lv_aload_n hx hb dL_isAnew_105 rfl (lv_at hl 1 rfl) ?_
                  refine lv_bipush (v := 10) hx hb dL_isAnew_106 (by decide) ?_
                  refine lv_aload_n hx hb dL_isAnew_108 rfl (lv_at hl 3 rfl) ?_
                  refine lv_bipush (v := 6) hx hb dL_isAnew_109 (by decide) ?_
                  refine lv_iload hx hb dL_isAnew_111 (lv_at hl 7 rfl) ?_
                  refine lv_iadd hx hb dL_isAnew_113 ?_
                  obtain ⟨g_79, hf⟩ := grd_e hf
                  refine w_iald B hw (i := 146) (kw146 _) g_79 dL_isAnew_114 ?_
                  refine lv_imul hx hb dL_isAnew_115 ?_
                  refine lv_iload hx hb dL_isAnew_116 (lv_at hl 8 rfl) ?_
                  refine lv_iadd hx hb dL_isAnew_118 ?_
                  obtain ⟨g_80, hf⟩ := grd_e hf
                  refine w_lald B hw (i := 142) (kw142 _) g_80 dL_isAnew_119 ?_
                  obtain ⟨g_81, hf⟩ := grd_e hf
                  refine w_last B hw (i := 157) rfl g_81 dL_isAnew_120 hf (fun M_82 H locs hw hf => ?_)
                  refine r_iinc (v := (x8_75 + 1)) hx hb dL_isAnew_121 hl (k := 8) rfl rfl (by decide) hf (fun x8_83 ls hl hf => ?_)
                  have hl : lv_has ls 11 [(8, .int x8_83), (0, .ref ((xn (xn (xn X 157 q_12) 158 q_15) 159 q_18).2.2 0)), (1, .ref ((xn (xn (xn X 157 q_12) 158 q_15) 159 q_18).2.2 142)), (2, .ref ((xn (xn (xn X 157 q_12) 158 q_15) 159 q_18).2.2 143)), (3, .ref ((xn (xn (xn X 157 q_12) 158 q_15) 159 q_18).2.2 146)), (4, .ref ((xn (xn (xn X 157 q_12) 158 q_15) 159 q_18).2.2 157)), (5, .ref ((xn (xn (xn X 157 q_12) 158 q_15) 159 q_18).2.2 158)), (6, .ref ((xn (xn (xn X 157 q_12) 158 q_15) 159 q_18).2.2 159)), (7, .int x7_65)] := hl
                  refine lv_goto (tgt := 85) hx hb dL_isAnew_124 (by decide) ?_
                  exact ih_85 x8_83 M_82 _ _ _ hw (lv_sub hl [1, 2, 3, 4, 5, 6, 7, 8, 0] rfl) hf
            exact hL_85 fu 0 M_71 _ _ _ hw (lv_sub hl [1, 2, 3, 4, 5, 6, 7, 8, 0] rfl) hf
      exact hL_60 fu 0 M_19 _ _ _ hw (lv_sub hl [4, 5, 6, 7, 3, 2, 1, 0] rfl) hf
    · have hf := it_e hf c_11
      exact J12_1 () _ _ _ hw (lv_sub hl [0] rfl) hf
abbrev rm_L_steps : Room := { frames := 10, cells := 21, slots := 126, locals := 185 }
set_option maxRecDepth 100000 in
set_option maxHeartbeats 8000000 in
theorem c_L_steps (l : Launch) (hfl : l.stackTraces = false) (ex : List (Nat × Nat)) (X : XT) (fu : Nat) (p1 : Int32) (p2 : Int32) (M : Mem)  (rs : (Int32 × Mem)) (hf : f_L_steps fu p1 p2 M = some rs) (sz : Nat) : Met l yL_steps (wbig yL_steps cL_steps 15 (some .boolean)) rm_L_steps (va_Pc [.ref (X.2.2 0), .int p1, .int p2, .ref (X.2.2 143), .ref (X.2.2 142), .ref (X.2.2 155), .ref (X.2.2 156)] (PXN (LW ex) X M sz)) (QI (LW ex) X rs.2 rs.1 sz) 21 126 (AX (LW ex) X sz) := by
  refine wn_go (L := (LW ex)) (M := M) (by decide +kernel) (Nat.le_of_ble_eq_true rfl) ?_
  intro p e s m args below meth c hsz B T N9 hr hlk hw ls hl
  subst hsz
  have hx := B.hx
  have hb := B.hb
  have hl : lv_has ls 15 [(0, .ref (X.2.2 0)), (1, .int p1), (2, .int p2), (3, .ref (X.2.2 143)), (4, .ref (X.2.2 142)), (5, .ref (X.2.2 155)), (6, .ref (X.2.2 156))] := hl
  generalize hQ : MQ below _ args s 21 126 (AX (LW ex) X s.heap.size) = Q
  unfold f_L_steps at hf
  refine lv_iload_n hx hb dL_steps_0 rfl (lv_at hl 1 rfl) ?_
  refine lv_iconst (v := 3) hx hb dL_steps_1 (by decide) ?_
  obtain ⟨r_2, h_1, hf⟩ := bd_e hf
  refine q_callSi (M' := M) (As := [.int p1, .int 3]) (rest := []) B hw (c_L_low l _ X fu p1 3 M r_2 h_1 _) cs_L_130 rfl hl.1 rfl rfl ⟨(Nat.le_of_ble_eq_true rfl), (Nat.le_of_ble_eq_true rfl)⟩ (Nat.le_of_ble_eq_true rfl) ⟨(Nat.le_of_ble_eq_true rfl), (Nat.le_of_ble_eq_true rfl)⟩ dL_steps_2 rfl (fun H locs hw => ?_)
  refine lv_istore (lv' := [(7, .int r_2), (0, .ref (X.2.2 0)), (1, .int p1), (2, .int p2), (3, .ref (X.2.2 143)), (4, .ref (X.2.2 142)), (5, .ref (X.2.2 155)), (6, .ref (X.2.2 156))]) hx hb dL_steps_5 hl (by decide) rfl (fun ls hl => ?_)
  refine lv_iload_n hx hb dL_steps_7 rfl (lv_at hl 2 rfl) ?_
  refine lv_iconst (v := 3) hx hb dL_steps_8 (by decide) ?_
  refine lv_ishr hx hb dL_steps_9 ?_
  refine lv_bipush (v := 6) hx hb dL_steps_10 (by decide) ?_
  obtain ⟨r_4, h_3, hf⟩ := bd_e hf
  refine q_callSi (M' := M) (As := [.int (p1 >>> (3 &&& 31)), .int 6]) (rest := []) B hw (c_L_low l _ X fu (p1 >>> (3 &&& 31)) 6 M r_4 h_3 _) cs_L_130 rfl hl.1 rfl rfl ⟨(Nat.le_of_ble_eq_true rfl), (Nat.le_of_ble_eq_true rfl)⟩ (Nat.le_of_ble_eq_true rfl) ⟨(Nat.le_of_ble_eq_true rfl), (Nat.le_of_ble_eq_true rfl)⟩ dL_steps_12 rfl (fun H locs hw => ?_)
  refine lv_istore (lv' := [(8, .int r_4), (7, .int r_2), (0, .ref (X.2.2 0)), (1, .int p1), (2, .int p2), (3, .ref (X.2.2 143)), (4, .ref (X.2.2 142)), (5, .ref (X.2.2 155)), (6, .ref (X.2.2 156))]) hx hb dL_steps_15 hl (by decide) rfl (fun ls hl => ?_)
  refine lv_aload_n hx hb dL_steps_17 rfl (lv_at hl 5 rfl) ?_
  refine lv_iload hx hb dL_steps_18 (lv_at hl 0 rfl) ?_
  obtain ⟨g_5, hf⟩ := grd_e hf
  refine w_iald B hw (i := 143) (kw143 _) g_5 dL_steps_20 ?_
  refine jn_e hf (fun kk => ∀ (v_7 : Int32) (H : Heap) (locs : List Loc) (ls : Array Slot), HW (LW ex) X M s H locs → lv_has ls 15 [(0, .ref (X.2.2 0)), (1, .int p1), (2, .int p2), (5, .ref (X.2.2 155)), (6, .ref (X.2.2 156)), (7, .int r_2), (8, .int r_4)] → kk v_7 = some rs → W p l e rm_L_steps s m args below meth c H locs 0 0 Q (F0 m 64 ls [.int v_7])) ?_ (fun k64_6 J64_6 hf => ?_)
  · intro v_7 H locs ls hw hl hf
    refine lv_istore (lv' := [(9, .int v_7), (0, .ref (X.2.2 0)), (1, .int p1), (2, .int p2), (5, .ref (X.2.2 155)), (6, .ref (X.2.2 156)), (7, .int r_2), (8, .int r_4)]) hx hb dL_steps_64 hl (by decide) rfl (fun ls hl => ?_)
    refine lv_iload hx hb dL_steps_66 (lv_at hl 6 rfl) ?_
    refine jn_e hf (fun kk => ∀ (v_9 : Int32) (H : Heap) (locs : List Loc) (ls : Array Slot), HW (LW ex) X M s H locs → lv_has ls 15 [(0, .ref (X.2.2 0)), (1, .int p1), (2, .int p2), (5, .ref (X.2.2 155)), (6, .ref (X.2.2 156)), (7, .int r_2), (8, .int r_4)] → kk v_9 = some rs → W p l e rm_L_steps s m args below meth c H locs 0 0 Q (F0 m 99 ls [.int v_9])) ?_ (fun k99_8 J99_8 hf => ?_)
    · intro v_9 H locs ls hw hl hf
      refine lv_istore (lv' := [(10, .int v_9), (0, .ref (X.2.2 0)), (1, .int p1), (2, .int p2), (5, .ref (X.2.2 155)), (6, .ref (X.2.2 156)), (7, .int r_2), (8, .int r_4)]) hx hb dL_steps_99 hl (by decide) rfl (fun ls hl => ?_)
      refine lv_iload hx hb dL_steps_101 (lv_at hl 6 rfl) ?_
      refine jn_e hf (fun kk => ∀ (v_11 : Int32) (H : Heap) (locs : List Loc) (ls : Array Slot), HW (LW ex) X M s H locs → lv_has ls 15 [(0, .ref (X.2.2 0)), (1, .int p1), (5, .ref (X.2.2 155)), (6, .ref (X.2.2 156)), (7, .int r_2), (8, .int r_4), (10, .int v_9)] → kk v_11 = some rs → W p l e rm_L_steps s m args below meth c H locs 0 0 Q (F0 m 134 ls [.int v_11])) ?_ (fun k134_10 J134_10 hf => ?_)
      · intro v_11 H locs ls hw hl hf
        refine lv_istore (lv' := [(11, .int v_11), (0, .ref (X.2.2 0)), (1, .int p1), (5, .ref (X.2.2 155)), (6, .ref (X.2.2 156)), (7, .int r_2), (8, .int r_4), (10, .int v_9)]) hx hb dL_steps_134 hl (by decide) rfl (fun ls hl => ?_)
        refine lv_iload hx hb dL_steps_136 (lv_at hl 5 rfl) ?_
        refine jn_e hf (fun kk => ∀ (v_13 : Int32) (H : Heap) (locs : List Loc) (ls : Array Slot), HW (LW ex) X M s H locs → lv_has ls 15 [(0, .ref (X.2.2 0)), (1, .int p1), (5, .ref (X.2.2 155)), (6, .ref (X.2.2 156)), (7, .int r_2), (8, .int r_4), (10, .int v_9), (11, .int v_11)] → kk v_13 = some rs → W p l e rm_L_steps s m args below meth c H locs 0 0 Q (F0 m 180 ls [.int v_13])) ?_ (fun k180_12 J180_12 hf => ?_)
        · intro v_13 H locs ls hw hl hf
          refine lv_istore (lv' := [(12, .int v_13), (0, .ref (X.2.2 0)), (1, .int p1), (5, .ref (X.2.2 155)), (6, .ref (X.2.2 156)), (7, .int r_2), (8, .int r_4), (10, .int v_9), (11, .int v_11)]) hx hb dL_steps_180 hl (by decide) rfl (fun ls hl => ?_)
          refine lv_iload hx hb dL_steps_182 (lv_at hl 5 rfl) ?_
          refine jn_e hf (fun kk => ∀ (v_15 : Int32) (H : Heap) (locs : List Loc) (ls : Array Slot), HW (LW ex) X M s H locs → lv_has ls 15 [(0, .ref (X.2.2 0)), (5, .ref (X.2.2 155)), (6, .ref (X.2.2 156)), (7, .int r_2), (8, .int r_4), (10, .int v_9), (11, .int v_11), (12, .int v_13)] → kk v_15 = some rs → W p l e rm_L_steps s m args below meth c H locs 0 0 Q (F0 m 206 ls [.int v_15])) ?_ (fun k206_14 J206_14 hf => ?_)
          · intro v_15 H locs ls hw hl hf
            refine lv_istore (lv' := [(13, .int v_15), (0, .ref (X.2.2 0)), (5, .ref (X.2.2 155)), (6, .ref (X.2.2 156)), (7, .int r_2), (8, .int r_4), (10, .int v_9), (11, .int v_11), (12, .int v_13)]) hx hb dL_steps_206 hl (by decide) rfl (fun ls hl => ?_)
            refine lv_aload_n hx hb dL_steps_208 rfl (lv_at hl 1 rfl) ?_
            refine lv_iconst (v := 0) hx hb dL_steps_209 (by decide) ?_
            refine lv_bipush (v := 6) hx hb dL_steps_210 (by decide) ?_
            refine lv_iconst (v := 0) hx hb dL_steps_212 (by decide) ?_
            refine lv_iconst (v := 0) hx hb dL_steps_213 (by decide) ?_
            refine lv_iconst (v := 0) hx hb dL_steps_214 (by decide) ?_
            refine lv_iconst (v := 0) hx hb dL_steps_215 (by decide) ?_
            obtain ⟨r_17, M_18, h_16, hf⟩ := bm_e hf
            refine w_wrap (n := 7) (M' := M_18) (v := r_17) (As := [.ref (X.2.2 0), .int 0, .int 6, .int 0, .int 0, .int 0, .int 0]) (rest := []) B T N9 hw (c_L_step l hfl _ X fu 0 6 0 0 0 0 M (r_17, M_18) h_16 _) km_L_309 kt_L_step ki_L kc_L_step ⟨by decide +kernel, by decide +kernel, by decide +kernel⟩ rfl hl.1 rfl rfl ⟨(Nat.le_of_ble_eq_true rfl), (Nat.le_of_ble_eq_true rfl)⟩ (Nat.le_of_ble_eq_true rfl) ⟨(Nat.le_of_ble_eq_true rfl), (Nat.le_of_ble_eq_true rfl)⟩ dL_steps_216 rfl (fun H locs hw => ?_)
            refine W.widen (k := 3) (n := 18) (by omega) (by omega) ?_
            refine lv_sipush (v := (-7100)) hx hb dL_steps_219 (by decide) ?_
            refine lv_icmp_ne (tgt := 293) hx hb dL_steps_222 (by decide) (fun c_19 => ?_) (fun c_19 => ?_)
            · have hf := ie_e hf c_19
              refine lv_iconst (v := 0) hx hb dL_steps_293 (by decide) ?_
              refine W.widen (k := 21) (n := 126) (by omega) (by omega) ?_
              cases hf
              subst hQ
              exact q_zret B hr hlk rfl hw rfl rfl dL_steps_294
            · have hf := it_e hf c_19
              refine lv_aload_n hx hb dL_steps_225 rfl (lv_at hl 1 rfl) ?_
              refine lv_iconst (v := 3) hx hb dL_steps_226 (by decide) ?_
              refine lv_iload hx hb dL_steps_227 (lv_at hl 5 rfl) ?_
              refine lv_iconst (v := 0) hx hb dL_steps_229 (by decide) ?_
              refine lv_iconst (v := 0) hx hb dL_steps_230 (by decide) ?_
              refine lv_iconst (v := 0) hx hb dL_steps_231 (by decide) ?_
              refine lv_iconst (v := 0) hx hb dL_steps_232 (by decide) ?_
              obtain ⟨r_21, M_22, h_20, hf⟩ := bm_e hf
              refine w_wrap (n := 7) (M' := M_22) (v := r_21) (As := [.ref (X.2.2 0), .int 3, .int r_4, .int 0, .int 0, .int 0, .int 0]) (rest := []) B T N9 hw (c_L_step l hfl _ X fu 3 r_4 0 0 0 0 M_18 (r_21, M_22) h_20 _) km_L_309 kt_L_step ki_L kc_L_step ⟨by decide +kernel, by decide +kernel, by decide +kernel⟩ rfl hl.1 rfl rfl ⟨(Nat.le_of_ble_eq_true rfl), (Nat.le_of_ble_eq_true rfl)⟩ (Nat.le_of_ble_eq_true rfl) ⟨(Nat.le_of_ble_eq_true rfl), (Nat.le_of_ble_eq_true rfl)⟩ dL_steps_233 rfl (fun H locs hw => ?_)
              refine W.widen (k := 6) (n := 36) (by omega) (by omega) ?_
              refine lv_sipush (v := (-7200)) hx hb dL_steps_236 (by decide) ?_
              refine lv_icmp_ne (tgt := 293) hx hb dL_steps_239 (by decide) (fun c_23 => ?_) (fun c_23 => ?_)
              · have hf := ie_e hf c_23
                refine lv_iconst (v := 0) hx hb dL_steps_293 (by decide) ?_
                refine W.widen (k := 21) (n := 126) (by omega) (by omega) ?_
                cases hf
                subst hQ
                exact q_zret B hr hlk rfl hw rfl rfl dL_steps_294
              · have hf := it_e hf c_23
                refine lv_aload_n hx hb dL_steps_242 rfl (lv_at hl 1 rfl) ?_
                refine lv_iconst (v := 1) hx hb dL_steps_243 (by decide) ?_
                refine lv_iload hx hb dL_steps_244 (lv_at hl 5 rfl) ?_
                refine lv_iconst (v := 0) hx hb dL_steps_246 (by decide) ?_
                refine lv_iconst (v := 0) hx hb dL_steps_247 (by decide) ?_
                refine lv_iconst (v := 0) hx hb dL_steps_248 (by decide) ?_
                refine lv_iconst (v := 1) hx hb dL_steps_249 (by decide) ?_
                obtain ⟨r_25, M_26, h_24, hf⟩ := bm_e hf
                refine w_wrap (n := 7) (M' := M_26) (v := r_25) (As := [.ref (X.2.2 0), .int 1, .int r_4, .int 0, .int 0, .int 0, .int 1]) (rest := []) B T N9 hw (c_L_step l hfl _ X fu 1 r_4 0 0 0 1 M_22 (r_25, M_26) h_24 _) km_L_309 kt_L_step ki_L kc_L_step ⟨by decide +kernel, by decide +kernel, by decide +kernel⟩ rfl hl.1 rfl rfl ⟨(Nat.le_of_ble_eq_true rfl), (Nat.le_of_ble_eq_true rfl)⟩ (Nat.le_of_ble_eq_true rfl) ⟨(Nat.le_of_ble_eq_true rfl), (Nat.le_of_ble_eq_true rfl)⟩ dL_steps_250 rfl (fun H locs hw => ?_)
                refine W.widen (k := 9) (n := 54) (by omega) (by omega) ?_
                refine lv_sipush (v := (-7200)) hx hb dL_steps_253 (by decide) ?_
                refine lv_icmp_ne (tgt := 293) hx hb dL_steps_256 (by decide) (fun c_27 => ?_) (fun c_27 => ?_)
                · have hf := ie_e hf c_27
                  refine lv_iconst (v := 0) hx hb dL_steps_293 (by decide) ?_
                  refine W.widen (k := 21) (n := 126) (by omega) (by omega) ?_
                  cases hf
                  subst hQ
                  exact q_zret B hr hlk rfl hw rfl rfl dL_steps_294
                · have hf := it_e hf c_27
                  refine lv_aload_n hx hb dL_steps_259 rfl (lv_at hl 1 rfl) ?_
                  refine lv_iconst (v := 2) hx hb dL_steps_260 (by decide) ?_
                  refine lv_iload hx hb dL_steps_261 (lv_at hl 5 rfl) ?_
                  refine lv_iconst (v := 0) hx hb dL_steps_263 (by decide) ?_
                  refine lv_iconst (v := 1) hx hb dL_steps_264 (by decide) ?_
                  refine lv_iconst (v := 0) hx hb dL_steps_265 (by decide) ?_
                  refine lv_iconst (v := 0) hx hb dL_steps_266 (by decide) ?_
                  obtain ⟨r_29, M_30, h_28, hf⟩ := bm_e hf
                  refine w_wrap (n := 7) (M' := M_30) (v := r_29) (As := [.ref (X.2.2 0), .int 2, .int r_4, .int 0, .int 1, .int 0, .int 0]) (rest := []) B T N9 hw (c_L_step l hfl _ X fu 2 r_4 0 1 0 0 M_26 (r_29, M_30) h_28 _) km_L_309 kt_L_step ki_L kc_L_step ⟨by decide +kernel, by decide +kernel, by decide +kernel⟩ rfl hl.1 rfl rfl ⟨(Nat.le_of_ble_eq_true rfl), (Nat.le_of_ble_eq_true rfl)⟩ (Nat.le_of_ble_eq_true rfl) ⟨(Nat.le_of_ble_eq_true rfl), (Nat.le_of_ble_eq_true rfl)⟩ dL_steps_267 rfl (fun H locs hw => ?_)
                  refine W.widen (k := 12) (n := 72) (by omega) (by omega) ?_
                  refine lv_sipush (v := (-7200)) hx hb dL_steps_270 (by decide) ?_
                  refine lv_icmp_ne (tgt := 293) hx hb dL_steps_273 (by decide) (fun c_31 => ?_) (fun c_31 => ?_)
                  · have hf := ie_e hf c_31
                    refine lv_iconst (v := 0) hx hb dL_steps_293 (by decide) ?_
                    refine W.widen (k := 21) (n := 126) (by omega) (by omega) ?_
                    cases hf
                    subst hQ
                    exact q_zret B hr hlk rfl hw rfl rfl dL_steps_294
                  · have hf := it_e hf c_31
                    refine lv_aload_n hx hb dL_steps_276 rfl (lv_at hl 1 rfl) ?_
                    refine lv_iconst (v := 2) hx hb dL_steps_277 (by decide) ?_
                    refine lv_iload hx hb dL_steps_278 (lv_at hl 5 rfl) ?_
                    refine lv_iconst (v := 0) hx hb dL_steps_280 (by decide) ?_
                    refine lv_iconst (v := 0) hx hb dL_steps_281 (by decide) ?_
                    refine lv_iconst (v := 1) hx hb dL_steps_282 (by decide) ?_
                    refine lv_iconst (v := 0) hx hb dL_steps_283 (by decide) ?_
                    obtain ⟨r_33, M_34, h_32, hf⟩ := bm_e hf
                    refine w_wrap (n := 7) (M' := M_34) (v := r_33) (As := [.ref (X.2.2 0), .int 2, .int r_4, .int 0, .int 0, .int 1, .int 0]) (rest := []) B T N9 hw (c_L_step l hfl _ X fu 2 r_4 0 0 1 0 M_30 (r_33, M_34) h_32 _) km_L_309 kt_L_step ki_L kc_L_step ⟨by decide +kernel, by decide +kernel, by decide +kernel⟩ rfl hl.1 rfl rfl ⟨(Nat.le_of_ble_eq_true rfl), (Nat.le_of_ble_eq_true rfl)⟩ (Nat.le_of_ble_eq_true rfl) ⟨(Nat.le_of_ble_eq_true rfl), (Nat.le_of_ble_eq_true rfl)⟩ dL_steps_284 rfl (fun H locs hw => ?_)
                    refine W.widen (k := 15) (n := 90) (by omega) (by omega) ?_
                    refine lv_sipush (v := (-7200)) hx hb dL_steps_287 (by decide) ?_
                    refine lv_icmp_eq (tgt := 295) hx hb dL_steps_290 (by decide) (fun c_35 => ?_) (fun c_35 => ?_)
                    · have hf := it_e hf c_35
                      refine lv_aload hx hb dL_steps_295 (lv_at hl 3 rfl) ?_
                      refine lv_iconst (v := 0) hx hb dL_steps_297 (by decide) ?_
                      refine w_iald B hw (i := 156) (kw156 _) (by decide) dL_steps_298 ?_
                      refine lv_iconst (v := 4) hx hb dL_steps_299 (by decide) ?_
                      refine lv_icmp_ne (tgt := 331) hx hb dL_steps_300 (by decide) (fun c_36 => ?_) (fun c_36 => ?_)
                      · have hf := ie_e hf c_36
                        refine lv_bipush (v := 6) hx hb dL_steps_331 (by decide) ?_
                        refine lv_aload hx hb dL_steps_333 (lv_at hl 3 rfl) ?_
                        refine lv_iconst (v := 0) hx hb dL_steps_335 (by decide) ?_
                        refine w_iald B hw (i := 156) (kw156 _) (by decide) dL_steps_336 ?_
                        refine lv_imul hx hb dL_steps_337 ?_
                        refine r_topn hf (fun x14_37 hf => ?_)
                        refine lv_istore (lv' := [(14, .int x14_37), (13, .int v_15), (0, .ref (X.2.2 0)), (5, .ref (X.2.2 155)), (6, .ref (X.2.2 156)), (7, .int r_2), (8, .int r_4), (10, .int v_9), (11, .int v_11), (12, .int v_13)]) hx hb dL_steps_338 hl (by decide) rfl (fun ls hl => ?_)
                        refine lv_aload hx hb dL_steps_340 (lv_at hl 3 rfl) ?_
                        refine lv_iload hx hb dL_steps_342 (lv_at hl 0 rfl) ?_
                        refine lv_iload hx hb dL_steps_344 (lv_at hl 5 rfl) ?_
                        obtain ⟨g_38, hf⟩ := grd_e hf
                        refine w_iast B hw (i := 155) (kw155 _) g_38 dL_steps_346 hf (fun M_39 H locs hw hf => ?_)
                        refine lv_aload hx hb dL_steps_347 (lv_at hl 3 rfl) ?_
                        refine lv_iload hx hb dL_steps_349 (lv_at hl 0 rfl) ?_
                        refine lv_iconst (v := 1) hx hb dL_steps_351 (by decide) ?_
                        refine lv_iadd hx hb dL_steps_352 ?_
                        refine lv_iload hx hb dL_steps_353 (lv_at hl 6 rfl) ?_
                        obtain ⟨g_40, hf⟩ := grd_e hf
                        refine w_iast B hw (i := 155) (kw155 _) g_40 dL_steps_355 hf (fun M_41 H locs hw hf => ?_)
                        refine lv_aload hx hb dL_steps_356 (lv_at hl 3 rfl) ?_
                        refine lv_iload hx hb dL_steps_358 (lv_at hl 0 rfl) ?_
                        refine lv_iconst (v := 2) hx hb dL_steps_360 (by decide) ?_
                        refine lv_iadd hx hb dL_steps_361 ?_
                        refine lv_iload hx hb dL_steps_362 (lv_at hl 7 rfl) ?_
                        obtain ⟨g_42, hf⟩ := grd_e hf
                        refine w_iast B hw (i := 155) (kw155 _) g_42 dL_steps_364 hf (fun M_43 H locs hw hf => ?_)
                        refine lv_aload hx hb dL_steps_365 (lv_at hl 3 rfl) ?_
                        refine lv_iload hx hb dL_steps_367 (lv_at hl 0 rfl) ?_
                        refine lv_iconst (v := 3) hx hb dL_steps_369 (by decide) ?_
                        refine lv_iadd hx hb dL_steps_370 ?_
                        refine lv_iload hx hb dL_steps_371 (lv_at hl 8 rfl) ?_
                        obtain ⟨g_44, hf⟩ := grd_e hf
                        refine w_iast B hw (i := 155) (kw155 _) g_44 dL_steps_373 hf (fun M_45 H locs hw hf => ?_)
                        refine lv_aload hx hb dL_steps_374 (lv_at hl 3 rfl) ?_
                        refine lv_iload hx hb dL_steps_376 (lv_at hl 0 rfl) ?_
                        refine lv_iconst (v := 4) hx hb dL_steps_378 (by decide) ?_
                        refine lv_iadd hx hb dL_steps_379 ?_
                        refine lv_iload hx hb dL_steps_380 (lv_at hl 9 rfl) ?_
                        obtain ⟨g_46, hf⟩ := grd_e hf
                        refine w_iast B hw (i := 155) (kw155 _) g_46 dL_steps_382 hf (fun M_47 H locs hw hf => ?_)
                        refine lv_aload hx hb dL_steps_383 (lv_at hl 3 rfl) ?_
                        refine lv_iload hx hb dL_steps_385 (lv_at hl 0 rfl) ?_
                        refine lv_iconst (v := 5) hx hb dL_steps_387 (by decide) ?_
                        refine lv_iadd hx hb dL_steps_388 ?_
                        refine lv_iload hx hb dL_steps_389 (lv_at hl 1 rfl) ?_
                        obtain ⟨g_48, hf⟩ := grd_e hf
                        refine w_iast B hw (i := 155) (kw155 _) g_48 dL_steps_391 hf (fun M_49 H locs hw hf => ?_)
                        refine lv_aload hx hb dL_steps_392 (lv_at hl 4 rfl) ?_
                        refine lv_iconst (v := 0) hx hb dL_steps_394 (by decide) ?_
                        refine lv_dup2_11 hx hb dL_steps_395 rfl rfl ?_
                        refine w_iald B hw (i := 156) (kw156 _) (by decide) dL_steps_396 ?_
                        refine lv_iconst (v := 1) hx hb dL_steps_397 (by decide) ?_
                        refine lv_iadd hx hb dL_steps_398 ?_
                        refine w_iast B hw (i := 156) (kw156 _) (by decide) dL_steps_399 hf (fun M_50 H locs hw hf => ?_)
                        refine lv_aload_n hx hb dL_steps_400 rfl (lv_at hl 2 rfl) ?_
                        refine lv_iload hx hb dL_steps_401 (lv_at hl 5 rfl) ?_
                        refine lv_iload hx hb dL_steps_403 (lv_at hl 6 rfl) ?_
                        refine lv_iload hx hb dL_steps_405 (lv_at hl 7 rfl) ?_
                        refine lv_iload hx hb dL_steps_407 (lv_at hl 8 rfl) ?_
                        refine lv_iload hx hb dL_steps_409 (lv_at hl 9 rfl) ?_
                        refine lv_iload hx hb dL_steps_411 (lv_at hl 1 rfl) ?_
                        obtain ⟨r_52, M_53, h_51, hf⟩ := bm_e hf
                        refine w_wrap (n := 7) (M' := M_53) (v := r_52) (As := [.ref (X.2.2 0), .int r_2, .int r_4, .int v_9, .int v_11, .int v_13, .int v_15]) (rest := []) B T N9 hw (c_L_step l hfl _ X fu r_2 r_4 v_9 v_11 v_13 v_15 M_50 (r_52, M_53) h_51 _) km_L_309 kt_L_step ki_L kc_L_step ⟨by decide +kernel, by decide +kernel, by decide +kernel⟩ rfl hl.1 rfl rfl ⟨(Nat.le_of_ble_eq_true rfl), (Nat.le_of_ble_eq_true rfl)⟩ (Nat.le_of_ble_eq_true rfl) ⟨(Nat.le_of_ble_eq_true rfl), (Nat.le_of_ble_eq_true rfl)⟩ dL_steps_413 rfl (fun H locs hw => ?_)
                        refine W.widen (k := 18) (n := 108) (by omega) (by omega) ?_
                        refine lv_aload hx hb dL_steps_416 (lv_at hl 4 rfl) ?_
                        refine lv_iconst (v := 0) hx hb dL_steps_418 (by decide) ?_
                        refine w_iald B hw (i := 156) (kw156 _) (by decide) dL_steps_419 ?_
                        refine lv_icmp_ne (tgt := 427) hx hb dL_steps_420 (by decide) (fun c_54 => ?_) (fun c_54 => ?_)
                        · have hf := ie_e hf c_54
                          refine lv_iconst (v := 0) hx hb dL_steps_427 (by decide) ?_
                          refine W.widen (k := 21) (n := 126) (by omega) (by omega) ?_
                          cases hf
                          subst hQ
                          exact q_zret B hr hlk rfl hw rfl rfl dL_steps_428
                        · have hf := it_e hf c_54
                          refine lv_iconst (v := 1) hx hb dL_steps_423 (by decide) ?_
                          refine lv_goto (tgt := 428) hx hb dL_steps_424 (by decide) ?_
                          refine W.widen (k := 21) (n := 126) (by omega) (by omega) ?_
                          cases hf
                          subst hQ
                          exact q_zret B hr hlk rfl hw rfl rfl dL_steps_428
                      · have hf := it_e hf c_36
                        refine lv_aload_n hx hb dL_steps_303 rfl (lv_at hl 1 rfl) ?_
                        refine lv_iload hx hb dL_steps_304 (lv_at hl 4 rfl) ?_
                        refine lv_iload hx hb dL_steps_306 (lv_at hl 5 rfl) ?_
                        refine lv_iload hx hb dL_steps_308 (lv_at hl 6 rfl) ?_
                        refine lv_iload hx hb dL_steps_310 (lv_at hl 7 rfl) ?_
                        refine lv_iload hx hb dL_steps_312 (lv_at hl 8 rfl) ?_
                        refine lv_iload hx hb dL_steps_314 (lv_at hl 0 rfl) ?_
                        obtain ⟨r_56, M_57, h_55, hf⟩ := bm_e hf
                        refine w_wrap (n := 7) (M' := M_57) (v := r_56) (As := [.ref (X.2.2 0), .int r_2, .int r_4, .int v_9, .int v_11, .int v_13, .int v_15]) (rest := []) B T N9 hw (c_L_step l hfl _ X fu r_2 r_4 v_9 v_11 v_13 v_15 M_34 (r_56, M_57) h_55 _) km_L_309 kt_L_step ki_L kc_L_step ⟨by decide +kernel, by decide +kernel, by decide +kernel⟩ rfl hl.1 rfl rfl ⟨(Nat.le_of_ble_eq_true rfl), (Nat.le_of_ble_eq_true rfl)⟩ (Nat.le_of_ble_eq_true rfl) ⟨(Nat.le_of_ble_eq_true rfl), (Nat.le_of_ble_eq_true rfl)⟩ dL_steps_316 rfl (fun H locs hw => ?_)
                        refine W.widen (k := 18) (n := 108) (by omega) (by omega) ?_
                        refine lv_sipush (v := (-7300)) hx hb dL_steps_319 (by decide) ?_
                        refine lv_icmp_ne (tgt := 329) hx hb dL_steps_322 (by decide) (fun c_58 => ?_) (fun c_58 => ?_)
                        · have hf := ie_e hf c_58
                          refine lv_iconst (v := 0) hx hb dL_steps_329 (by decide) ?_
                          refine W.widen (k := 21) (n := 126) (by omega) (by omega) ?_
                          cases hf
                          subst hQ
                          exact q_zret B hr hlk rfl hw rfl rfl dL_steps_330
                        · have hf := it_e hf c_58
                          refine lv_iconst (v := 1) hx hb dL_steps_325 (by decide) ?_
                          refine lv_goto (tgt := 330) hx hb dL_steps_326 (by decide) ?_
                          refine W.widen (k := 21) (n := 126) (by omega) (by omega) ?_
                          cases hf
                          subst hQ
                          exact q_zret B hr hlk rfl hw rfl rfl dL_steps_330
                    · have hf := ie_e hf c_35
                      refine lv_iconst (v := 0) hx hb dL_steps_293 (by decide) ?_
                      refine W.widen (k := 21) (n := 126) (by omega) (by omega) ?_
                      cases hf
                      subst hQ
                      exact q_zret B hr hlk rfl hw rfl rfl dL_steps_294
          refine jn_e hf (fun kk => ∀ (_ : Unit) (H : Heap) (locs : List Loc) (ls : Array Slot), HW (LW ex) X M s H locs → lv_has ls 15 [(0, .ref (X.2.2 0)), (5, .ref (X.2.2 155)), (6, .ref (X.2.2 156)), (7, .int r_2), (8, .int r_4), (10, .int v_9), (11, .int v_11), (12, .int v_13)] → kk () = some rs → W p l e rm_L_steps s m args below meth c H locs 0 0 Q (F0 m 205 ls [])) ?_ (fun k205_59 J205_59 hf => ?_)
          · intro _ H locs ls hw hl hf
            refine lv_iconst (v := 0) hx hb dL_steps_205 (by decide) ?_
            exact J206_14 0 _ _ _ hw (lv_sub hl [0, 1, 2, 3, 4, 5, 6, 7] rfl) hf
          refine lv_if_ne (tgt := 205) hx hb dL_steps_184 (by decide) (fun c_60 => ?_) (fun c_60 => ?_)
          · have hf := ie_e hf c_60
            exact J205_59 () _ _ _ hw (lv_sub hl [1, 3, 4, 5, 6, 7, 8, 0] rfl) hf
          · have hf := it_e hf c_60
            refine lv_iload hx hb dL_steps_187 (lv_at hl 6 rfl) ?_
            refine lv_iconst (v := 2) hx hb dL_steps_189 (by decide) ?_
            refine lv_idiv hx hb dL_steps_190 (by decide) ?_
            refine lv_iconst (v := 1) hx hb dL_steps_191 (by decide) ?_
            refine lv_icmp_eq (tgt := 205) hx hb dL_steps_192 (by decide) (fun c_61 => ?_) (fun c_61 => ?_)
            · have hf := it_e hf c_61
              exact J205_59 () _ _ _ hw (lv_sub hl [1, 3, 4, 5, 6, 7, 8, 0] rfl) hf
            · have hf := ie_e hf c_61
              refine lv_iload_n hx hb dL_steps_195 rfl (lv_at hl 2 rfl) ?_
              refine lv_bipush (v := 16) hx hb dL_steps_196 (by decide) ?_
              refine lv_ishr hx hb dL_steps_198 ?_
              obtain ⟨r_63, h_62, hf⟩ := bd_e hf
              refine q_callSi (M' := M) (As := [.int (p1 >>> (16 &&& 31))]) (rest := []) B hw (c_L_cellBy l _ X fu (p1 >>> (16 &&& 31)) M r_63 h_62 _) cs_L_133 rfl hl.1 rfl rfl ⟨(Nat.le_of_ble_eq_true rfl), (Nat.le_of_ble_eq_true rfl)⟩ (Nat.le_of_ble_eq_true rfl) ⟨(Nat.le_of_ble_eq_true rfl), (Nat.le_of_ble_eq_true rfl)⟩ dL_steps_199 rfl (fun H locs hw => ?_)
              refine lv_goto (tgt := 206) hx hb dL_steps_202 (by decide) ?_
              exact J206_14 r_63 _ _ _ hw (lv_sub hl [1, 3, 4, 5, 6, 7, 8, 0] rfl) hf
        refine lv_if_ne (tgt := 163) hx hb dL_steps_138 (by decide) (fun c_64 => ?_) (fun c_64 => ?_)
        · have hf := ie_e hf c_64
          refine lv_iload hx hb dL_steps_163 (lv_at hl 5 rfl) ?_
          refine lv_iconst (v := 1) hx hb dL_steps_165 (by decide) ?_
          refine lv_icmp_ne (tgt := 179) hx hb dL_steps_166 (by decide) (fun c_65 => ?_) (fun c_65 => ?_)
          · have hf := ie_e hf c_65
            refine lv_iconst (v := 0) hx hb dL_steps_179 (by decide) ?_
            exact J180_12 0 _ _ _ hw (lv_sub hl [1, 2, 3, 4, 5, 6, 7, 0] rfl) hf
          · have hf := it_e hf c_65
            refine lv_iload_n hx hb dL_steps_169 rfl (lv_at hl 2 rfl) ?_
            refine lv_bipush (v := 9) hx hb dL_steps_170 (by decide) ?_
            refine lv_ishr hx hb dL_steps_172 ?_
            obtain ⟨r_67, h_66, hf⟩ := bd_e hf
            refine q_callSi (M' := M) (As := [.int (p1 >>> (9 &&& 31))]) (rest := []) B hw (c_L_cellBy l _ X fu (p1 >>> (9 &&& 31)) M r_67 h_66 _) cs_L_133 rfl hl.1 rfl rfl ⟨(Nat.le_of_ble_eq_true rfl), (Nat.le_of_ble_eq_true rfl)⟩ (Nat.le_of_ble_eq_true rfl) ⟨(Nat.le_of_ble_eq_true rfl), (Nat.le_of_ble_eq_true rfl)⟩ dL_steps_173 rfl (fun H locs hw => ?_)
            refine lv_goto (tgt := 180) hx hb dL_steps_176 (by decide) ?_
            exact J180_12 r_67 _ _ _ hw (lv_sub hl [1, 2, 3, 4, 5, 6, 7, 0] rfl) hf
        · have hf := it_e hf c_64
          refine lv_iload hx hb dL_steps_141 (lv_at hl 6 rfl) ?_
          refine lv_iconst (v := 2) hx hb dL_steps_143 (by decide) ?_
          refine lv_idiv hx hb dL_steps_144 (by decide) ?_
          refine lv_iconst (v := 1) hx hb dL_steps_145 (by decide) ?_
          refine lv_icmp_ne (tgt := 153) hx hb dL_steps_146 (by decide) (fun c_68 => ?_) (fun c_68 => ?_)
          · have hf := ie_e hf c_68
            refine lv_iload_n hx hb dL_steps_153 rfl (lv_at hl 2 rfl) ?_
            refine lv_bipush (v := 9) hx hb dL_steps_154 (by decide) ?_
            refine lv_ishr hx hb dL_steps_156 ?_
            obtain ⟨r_70, h_69, hf⟩ := bd_e hf
            refine q_callSi (M' := M) (As := [.int (p1 >>> (9 &&& 31))]) (rest := []) B hw (c_L_cellBy l _ X fu (p1 >>> (9 &&& 31)) M r_70 h_69 _) cs_L_133 rfl hl.1 rfl rfl ⟨(Nat.le_of_ble_eq_true rfl), (Nat.le_of_ble_eq_true rfl)⟩ (Nat.le_of_ble_eq_true rfl) ⟨(Nat.le_of_ble_eq_true rfl), (Nat.le_of_ble_eq_true rfl)⟩ dL_steps_157 rfl (fun H locs hw => ?_)
            refine lv_goto (tgt := 180) hx hb dL_steps_160 (by decide) ?_
            exact J180_12 r_70 _ _ _ hw (lv_sub hl [1, 2, 3, 4, 5, 6, 7, 0] rfl) hf
          · have hf := it_e hf c_68
            refine lv_iconst (v := 0) hx hb dL_steps_149 (by decide) ?_
            refine lv_goto (tgt := 180) hx hb dL_steps_150 (by decide) ?_
            exact J180_12 0 _ _ _ hw (lv_sub hl [1, 2, 3, 4, 5, 6, 7, 0] rfl) hf
      refine lv_if_ne (tgt := 116) hx hb dL_steps_103 (by decide) (fun c_71 => ?_) (fun c_71 => ?_)
      · have hf := ie_e hf c_71
        refine lv_iload hx hb dL_steps_116 (lv_at hl 6 rfl) ?_
        refine lv_iconst (v := 1) hx hb dL_steps_118 (by decide) ?_
        refine lv_icmp_ne (tgt := 133) hx hb dL_steps_119 (by decide) (fun c_72 => ?_) (fun c_72 => ?_)
        · have hf := ie_e hf c_72
          refine lv_iconst (v := 0) hx hb dL_steps_133 (by decide) ?_
          exact J134_10 0 _ _ _ hw (lv_sub hl [1, 2, 4, 5, 6, 7, 0] rfl) hf
        · have hf := it_e hf c_72
          refine lv_iload_n hx hb dL_steps_122 rfl (lv_at hl 3 rfl) ?_
          refine lv_bipush (v := 9) hx hb dL_steps_123 (by decide) ?_
          refine lv_ishr hx hb dL_steps_125 ?_
          refine lv_iconst (v := 4) hx hb dL_steps_126 (by decide) ?_
          obtain ⟨r_74, h_73, hf⟩ := bd_e hf
          refine q_callSi (M' := M) (As := [.int (p2 >>> (9 &&& 31)), .int 4]) (rest := []) B hw (c_L_low l _ X fu (p2 >>> (9 &&& 31)) 4 M r_74 h_73 _) cs_L_130 rfl hl.1 rfl rfl ⟨(Nat.le_of_ble_eq_true rfl), (Nat.le_of_ble_eq_true rfl)⟩ (Nat.le_of_ble_eq_true rfl) ⟨(Nat.le_of_ble_eq_true rfl), (Nat.le_of_ble_eq_true rfl)⟩ dL_steps_127 rfl (fun H locs hw => ?_)
          refine lv_goto (tgt := 134) hx hb dL_steps_130 (by decide) ?_
          exact J134_10 r_74 _ _ _ hw (lv_sub hl [1, 2, 4, 5, 6, 7, 0] rfl) hf
      · have hf := it_e hf c_71
        refine lv_iload_n hx hb dL_steps_106 rfl (lv_at hl 3 rfl) ?_
        refine lv_bipush (v := 9) hx hb dL_steps_107 (by decide) ?_
        refine lv_ishr hx hb dL_steps_109 ?_
        obtain ⟨r_76, h_75, hf⟩ := bd_e hf
        refine q_callSi (M' := M) (As := [.int (p2 >>> (9 &&& 31))]) (rest := []) B hw (c_L_cellBy l _ X fu (p2 >>> (9 &&& 31)) M r_76 h_75 _) cs_L_133 rfl hl.1 rfl rfl ⟨(Nat.le_of_ble_eq_true rfl), (Nat.le_of_ble_eq_true rfl)⟩ (Nat.le_of_ble_eq_true rfl) ⟨(Nat.le_of_ble_eq_true rfl), (Nat.le_of_ble_eq_true rfl)⟩ dL_steps_110 rfl (fun H locs hw => ?_)
        refine lv_goto (tgt := 134) hx hb dL_steps_113 (by decide) ?_
        exact J134_10 r_76 _ _ _ hw (lv_sub hl [1, 2, 4, 5, 6, 7, 0] rfl) hf
    refine lv_if_ne (tgt := 97) hx hb dL_steps_68 (by decide) (fun c_77 => ?_) (fun c_77 => ?_)
    · have hf := ie_e hf c_77
      refine lv_iload hx hb dL_steps_97 (lv_at hl 0 rfl) ?_
      exact J99_8 v_7 _ _ _ hw (lv_sub hl [1, 2, 3, 4, 5, 6, 7] rfl) hf
    · have hf := it_e hf c_77
      refine lv_iload hx hb dL_steps_71 (lv_at hl 7 rfl) ?_
      refine lv_iconst (v := 1) hx hb dL_steps_73 (by decide) ?_
      refine lv_icmp_le (tgt := 88) hx hb dL_steps_74 (by decide) (fun c_78 => ?_) (fun c_78 => ?_)
      · have hf := it_e hf c_78
        refine lv_iload_n hx hb dL_steps_88 rfl (lv_at hl 3 rfl) ?_
        refine lv_iconst (v := 3) hx hb dL_steps_89 (by decide) ?_
        refine lv_ishr hx hb dL_steps_90 ?_
        obtain ⟨r_80, h_79, hf⟩ := bd_e hf
        refine q_callSi (M' := M) (As := [.int (p2 >>> (3 &&& 31))]) (rest := []) B hw (c_L_cellBy l _ X fu (p2 >>> (3 &&& 31)) M r_80 h_79 _) cs_L_133 rfl hl.1 rfl rfl ⟨(Nat.le_of_ble_eq_true rfl), (Nat.le_of_ble_eq_true rfl)⟩ (Nat.le_of_ble_eq_true rfl) ⟨(Nat.le_of_ble_eq_true rfl), (Nat.le_of_ble_eq_true rfl)⟩ dL_steps_91 rfl (fun H locs hw => ?_)
        refine lv_goto (tgt := 99) hx hb dL_steps_94 (by decide) ?_
        exact J99_8 r_80 _ _ _ hw (lv_sub hl [1, 2, 3, 4, 5, 6, 7] rfl) hf
      · have hf := ie_e hf c_78
        refine lv_iload_n hx hb dL_steps_77 rfl (lv_at hl 3 rfl) ?_
        refine lv_iconst (v := 3) hx hb dL_steps_78 (by decide) ?_
        refine lv_ishr hx hb dL_steps_79 ?_
        refine lv_bipush (v := 14) hx hb dL_steps_80 (by decide) ?_
        obtain ⟨r_82, h_81, hf⟩ := bd_e hf
        refine q_callSi (M' := M) (As := [.int (p2 >>> (3 &&& 31)), .int 14]) (rest := []) B hw (c_L_low l _ X fu (p2 >>> (3 &&& 31)) 14 M r_82 h_81 _) cs_L_130 rfl hl.1 rfl rfl ⟨(Nat.le_of_ble_eq_true rfl), (Nat.le_of_ble_eq_true rfl)⟩ (Nat.le_of_ble_eq_true rfl) ⟨(Nat.le_of_ble_eq_true rfl), (Nat.le_of_ble_eq_true rfl)⟩ dL_steps_82 rfl (fun H locs hw => ?_)
        refine lv_goto (tgt := 99) hx hb dL_steps_85 (by decide) ?_
        exact J99_8 r_82 _ _ _ hw (lv_sub hl [1, 2, 3, 4, 5, 6, 7] rfl) hf
  refine jn_e hf (fun kk => ∀ (_ : Unit) (H : Heap) (locs : List Loc) (ls : Array Slot), HW (LW ex) X M s H locs → lv_has ls 15 [(0, .ref (X.2.2 0)), (1, .int p1), (2, .int p2), (5, .ref (X.2.2 155)), (6, .ref (X.2.2 156)), (7, .int r_2), (8, .int r_4)] → kk () = some rs → W p l e rm_L_steps s m args below meth c H locs 0 0 Q (F0 m 56 ls [])) ?_ (fun k56_83 J56_83 hf => ?_)
  · intro _ H locs ls hw hl hf
    refine lv_iload_n hx hb dL_steps_56 rfl (lv_at hl 2 rfl) ?_
    refine lv_iconst (v := 3) hx hb dL_steps_57 (by decide) ?_
    refine lv_ishr hx hb dL_steps_58 ?_
    refine lv_bipush (v := 14) hx hb dL_steps_59 (by decide) ?_
    obtain ⟨r_85, h_84, hf⟩ := bd_e hf
    refine q_callSi (M' := M) (As := [.int (p2 >>> (3 &&& 31)), .int 14]) (rest := []) B hw (c_L_low l _ X fu (p2 >>> (3 &&& 31)) 14 M r_85 h_84 _) cs_L_130 rfl hl.1 rfl rfl ⟨(Nat.le_of_ble_eq_true rfl), (Nat.le_of_ble_eq_true rfl)⟩ (Nat.le_of_ble_eq_true rfl) ⟨(Nat.le_of_ble_eq_true rfl), (Nat.le_of_ble_eq_true rfl)⟩ dL_steps_61 rfl (fun H locs hw => ?_)
    exact J64_6 r_85 _ _ _ hw (lv_sub hl [0, 1, 2, 3, 4, 5, 6] rfl) hf
  refine lv_if_le (tgt := 56) hx hb dL_steps_21 (by decide) (fun c_86 => ?_) (fun c_86 => ?_)
  · have hf := it_e hf c_86
    exact J56_83 () _ _ _ hw (lv_sub hl [2, 3, 4, 7, 8, 1, 0] rfl) hf
  · have hf := ie_e hf c_86
    refine lv_iload_n hx hb dL_steps_24 rfl (lv_at hl 4 rfl) ?_
    refine lv_bipush (v := 6) hx hb dL_steps_25 (by decide) ?_
    refine lv_iand hx hb dL_steps_27 ?_
    refine lv_if_le (tgt := 56) hx hb dL_steps_28 (by decide) (fun c_87 => ?_) (fun c_87 => ?_)
    · have hf := it_e hf c_87
      exact J56_83 () _ _ _ hw (lv_sub hl [2, 3, 4, 7, 8, 1, 0] rfl) hf
    · have hf := ie_e hf c_87
      refine lv_aload hx hb dL_steps_31 (lv_at hl 6 rfl) ?_
      refine lv_bipush (v := 10) hx hb dL_steps_33 (by decide) ?_
      refine lv_iload hx hb dL_steps_35 (lv_at hl 0 rfl) ?_
      refine lv_imul hx hb dL_steps_37 ?_
      refine lv_iload_n hx hb dL_steps_38 rfl (lv_at hl 4 rfl) ?_
      refine lv_iconst (v := 3) hx hb dL_steps_39 (by decide) ?_
      refine lv_ishr hx hb dL_steps_40 ?_
      refine lv_aload_n hx hb dL_steps_41 rfl (lv_at hl 5 rfl) ?_
      refine lv_iload hx hb dL_steps_42 (lv_at hl 0 rfl) ?_
      refine w_iald B hw (i := 143) (kw143 _) g_5 dL_steps_44 ?_
      obtain ⟨r_89, h_88, hf⟩ := bd_e hf
      refine q_callSi (M' := M) (As := [.int (p2 >>> (3 &&& 31)), .int (M 143 r_4.toNatClampNeg)]) (rest := [.int (10 * r_4), .ref (X.2.2 142)]) B hw (c_L_low l _ X fu (p2 >>> (3 &&& 31)) (M 143 r_4.toNatClampNeg) M r_89 h_88 _) cs_L_130 rfl hl.1 rfl rfl ⟨(Nat.le_of_ble_eq_true rfl), (Nat.le_of_ble_eq_true rfl)⟩ (Nat.le_of_ble_eq_true rfl) ⟨(Nat.le_of_ble_eq_true rfl), (Nat.le_of_ble_eq_true rfl)⟩ dL_steps_45 rfl (fun H locs hw => ?_)
      refine lv_iadd hx hb dL_steps_48 ?_
      obtain ⟨g_90, hf⟩ := grd_e hf
      refine w_lald B hw (i := 142) (kw142 _) g_90 dL_steps_49 ?_
      refine q_callSi (M' := M) (As := [.long (lg (M 142) ((10 * r_4) + r_89).toNatClampNeg)]) (rest := []) B hw (c_L_markOf l _ X (lg (M 142) ((10 * r_4) + r_89).toNatClampNeg) _ rfl M _) cs_L_105 rfl hl.1 rfl rfl ⟨(Nat.le_of_ble_eq_true rfl), (Nat.le_of_ble_eq_true rfl)⟩ (Nat.le_of_ble_eq_true rfl) ⟨(Nat.le_of_ble_eq_true rfl), (Nat.le_of_ble_eq_true rfl)⟩ dL_steps_50 rfl (fun H locs hw => ?_)
      refine lv_goto (tgt := 64) hx hb dL_steps_53 (by decide) ?_
      exact J64_6 (f_L_markOf (lg (M 142) ((10 * r_4) + r_89).toNatClampNeg)) _ _ _ hw (lv_sub hl [2, 3, 4, 7, 8, 1, 0] rfl) hf
