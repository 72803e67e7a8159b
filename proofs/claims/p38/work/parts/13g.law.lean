abbrev rm_L_drafts : Room := { frames := 10, cells := 73, slots := 438, locals := 175 }
set_option maxRecDepth 100000 in
set_option maxHeartbeats 8000000 in
theorem c_L_drafts (l : Launch) (hfl : l.stackTraces = false) (ex : List (Nat × Nat)) (X : XT) (fu : Nat) (p1 : Int32) (p2 : Int32) (p3 : Int32) (M : Mem)  (rs : (Int32 × Mem)) (hf : f_L_drafts fu p1 p2 p3 M = some rs) (sz : Nat) : Met l yL_drafts (wbig yL_drafts cL_drafts 9 (some .boolean)) rm_L_drafts (va_Pc [.ref (X.2.2 0), .int p1, .int p2, .int p3, .ref (X.2.2 146)] (PXN (LW ex) X M sz)) (QI (LW ex) X rs.2 rs.1 sz) 73 438 (AX (LW ex) X sz) := by
  refine wn_go (L := (LW ex)) (M := M) (by decide +kernel) (Nat.le_of_ble_eq_true rfl) ?_
  intro p e s m args below meth c hsz B T N9 hr hlk hw ls hl
  subst hsz
  have hx := B.hx
  have hb := B.hb
  have hl : lv_has ls 9 [(0, .ref (X.2.2 0)), (1, .int p1), (2, .int p2), (3, .int p3), (4, .ref (X.2.2 146))] := hl
  generalize hQ : MQ below _ args s 73 438 (AX (LW ex) X s.heap.size) = Q
  unfold f_L_drafts at hf
  refine lv_iload_n hx hb dL_drafts_0 rfl (lv_at hl 2 rfl) ?_
  refine lv_aload hx hb dL_drafts_1 (lv_at hl 4 rfl) ?_
  refine lv_iconst (v := 0) hx hb dL_drafts_3 (by decide) ?_
  refine w_iald B hw (i := 146) (kw146 _) (by decide) dL_drafts_4 ?_
  refine lv_iconst (v := 1) hx hb dL_drafts_5 (by decide) ?_
  refine lv_iadd hx hb dL_drafts_6 ?_
  obtain ⟨r_2, h_1, hf⟩ := bd_e hf
  refine q_callSi (M' := M) (As := [.int p2, .int ((M 146 0) + 1)]) (rest := []) B hw (c_L_low l _ X fu p2 ((M 146 0) + 1) M r_2 h_1 _) cs_L_130 rfl hl.1 rfl rfl ⟨(Nat.le_of_ble_eq_true rfl), (Nat.le_of_ble_eq_true rfl)⟩ (Nat.le_of_ble_eq_true rfl) ⟨(Nat.le_of_ble_eq_true rfl), (Nat.le_of_ble_eq_true rfl)⟩ dL_drafts_7 rfl (fun H locs hw => ?_)
  refine lv_istore (lv' := [(5, .int r_2), (0, .ref (X.2.2 0)), (1, .int p1), (2, .int p2), (3, .int p3), (4, .ref (X.2.2 146))]) hx hb dL_drafts_10 hl (by decide) rfl (fun ls hl => ?_)
  refine lv_iload_n hx hb dL_drafts_12 rfl (lv_at hl 2 rfl) ?_
  refine lv_iconst (v := 2) hx hb dL_drafts_13 (by decide) ?_
  refine lv_icmp_ge (tgt := 117) hx hb dL_drafts_14 (by decide) (fun c_3 => ?_) (fun c_3 => ?_)
  · have hf := it_e hf c_3
    refine lv_iload hx hb dL_drafts_117 (lv_at hl 0 rfl) ?_
    refine lv_aload hx hb dL_drafts_119 (lv_at hl 5 rfl) ?_
    refine lv_iconst (v := 0) hx hb dL_drafts_121 (by decide) ?_
    refine w_iald B hw (i := 146) (kw146 _) (by decide) dL_drafts_122 ?_
    refine lv_icmp_ne (tgt := 190) hx hb dL_drafts_123 (by decide) (fun c_4 => ?_) (fun c_4 => ?_)
    · have hf := ie_e hf c_4
      refine lv_iload_n hx hb dL_drafts_190 rfl (lv_at hl 3 rfl) ?_
      refine lv_iconst (v := 5) hx hb dL_drafts_191 (by decide) ?_
      refine lv_ishr hx hb dL_drafts_192 ?_
      refine lv_aload hx hb dL_drafts_193 (lv_at hl 5 rfl) ?_
      refine lv_bipush (v := 6) hx hb dL_drafts_195 (by decide) ?_
      refine lv_iload hx hb dL_drafts_197 (lv_at hl 0 rfl) ?_
      refine lv_iadd hx hb dL_drafts_199 ?_
      obtain ⟨g_5, hf⟩ := grd_e hf
      refine w_iald B hw (i := 146) (kw146 _) g_5 dL_drafts_200 ?_
      refine q_callSi (M' := M) (As := [.int (M 146 (6 + r_2).toNatClampNeg)]) (rest := [.int (p2 >>> (5 &&& 31))]) B hw (c_L_columns l _ X (M 146 (6 + r_2).toNatClampNeg) _ rfl M _) cs_L_125 rfl hl.1 rfl rfl ⟨(Nat.le_of_ble_eq_true rfl), (Nat.le_of_ble_eq_true rfl)⟩ (Nat.le_of_ble_eq_true rfl) ⟨(Nat.le_of_ble_eq_true rfl), (Nat.le_of_ble_eq_true rfl)⟩ dL_drafts_201 rfl (fun H locs hw => ?_)
      obtain ⟨r_8, h_7, hf⟩ := bd_e hf
      refine q_callSi (M' := M) (As := [.int (p2 >>> (5 &&& 31)), .int (f_L_columns (M 146 (6 + r_2).toNatClampNeg))]) (rest := []) B hw (c_L_low l _ X fu (p2 >>> (5 &&& 31)) (f_L_columns (M 146 (6 + r_2).toNatClampNeg)) M r_8 h_7 _) cs_L_130 rfl hl.1 rfl rfl ⟨(Nat.le_of_ble_eq_true rfl), (Nat.le_of_ble_eq_true rfl)⟩ (Nat.le_of_ble_eq_true rfl) ⟨(Nat.le_of_ble_eq_true rfl), (Nat.le_of_ble_eq_true rfl)⟩ dL_drafts_204 rfl (fun H locs hw => ?_)
      refine lv_istore (lv' := [(6, .int r_8), (5, .int r_2), (0, .ref (X.2.2 0)), (1, .int p1), (2, .int p2), (3, .int p3), (4, .ref (X.2.2 146))]) hx hb dL_drafts_207 hl (by decide) rfl (fun ls hl => ?_)
      refine lv_iload_n hx hb dL_drafts_209 rfl (lv_at hl 3 rfl) ?_
      refine lv_iconst (v := 5) hx hb dL_drafts_210 (by decide) ?_
      refine lv_icmp_ge (tgt := 459) hx hb dL_drafts_211 (by decide) (fun c_9 => ?_) (fun c_9 => ?_)
      · have hf := it_e hf c_9
        refine lv_iload_n hx hb dL_drafts_459 rfl (lv_at hl 3 rfl) ?_
        refine lv_bipush (v := 8) hx hb dL_drafts_460 (by decide) ?_
        refine lv_icmp_ge (tgt := 725) hx hb dL_drafts_462 (by decide) (fun c_10 => ?_) (fun c_10 => ?_)
        · have hf := it_e hf c_10
          refine lv_iload_n hx hb dL_drafts_725 rfl (lv_at hl 3 rfl) ?_
          refine lv_bipush (v := 11) hx hb dL_drafts_726 (by decide) ?_
          refine lv_icmp_ge (tgt := 854) hx hb dL_drafts_728 (by decide) (fun c_11 => ?_) (fun c_11 => ?_)
          · have hf := it_e hf c_11
            refine lv_iload_n hx hb dL_drafts_854 rfl (lv_at hl 3 rfl) ?_
            refine lv_bipush (v := 11) hx hb dL_drafts_855 (by decide) ?_
            refine lv_icmp_ne (tgt := 957) hx hb dL_drafts_857 (by decide) (fun c_12 => ?_) (fun c_12 => ?_)
            · have hf := ie_e hf c_12
              refine lv_aload hx hb dL_drafts_957 (lv_at hl 6 rfl) ?_
              refine lv_iconst (v := 0) hx hb dL_drafts_959 (by decide) ?_
              refine w_iald B hw (i := 146) (kw146 _) (by decide) dL_drafts_960 ?_
              refine r_topn hf (fun x7_13 hf => ?_)
              refine lv_istore (lv' := [(7, .int x7_13), (6, .int r_8), (5, .int r_2), (0, .ref (X.2.2 0)), (1, .int p1), (2, .int p2), (3, .int p3), (4, .ref (X.2.2 146))]) hx hb dL_drafts_961 hl (by decide) rfl (fun ls hl => ?_)
              refine lv_iconst (v := 0) hx hb dL_drafts_963 (by decide) ?_
              refine lv_istore (lv' := [(8, .int 0), (7, .int x7_13), (6, .int r_8), (5, .int r_2), (0, .ref (X.2.2 0)), (1, .int p1), (2, .int p2), (3, .int p3), (4, .ref (X.2.2 146))]) hx hb dL_drafts_964 hl (by decide) rfl (fun ls hl => ?_)
              refine jn_e hf (fun kk => ∀ (M_15 : Mem) (H : Heap) (locs : List Loc) (ls : Array Slot), HW (LW ex) X M_15 s H locs → lv_has ls 9 [(0, .ref (X.2.2 0)), (4, .ref (X.2.2 146)), (7, .int x7_13)] → kk M_15 = some rs → W p l e rm_L_drafts s m args below meth c H locs 0 0 Q (F0 m 985 ls [])) ?_ (fun k985_14 J985_14 hf => ?_)
              · intro M_15 H locs ls hw hl hf
                refine lv_aload hx hb dL_drafts_985 (lv_at hl 1 rfl) ?_
                refine lv_iconst (v := 4) hx hb dL_drafts_987 (by decide) ?_
                refine lv_bipush (v := 20) hx hb dL_drafts_988 (by decide) ?_
                refine w_iast B hw (i := 146) (kw146 _) (by decide) dL_drafts_990 hf (fun M_16 H locs hw hf => ?_)
                refine lv_aload_n hx hb dL_drafts_991 rfl (lv_at hl 0 rfl) ?_
                obtain ⟨r_18, M_19, h_17, hf⟩ := bm_e hf
                refine w_clsS (rest := []) (v := r_18) B hw (c_X10_clear l X fu M_16 (r_18, M_19) h_17 _) cv_L_209 rfl hl.1 rfl rfl ⟨(Nat.le_of_ble_eq_true rfl), (Nat.le_of_ble_eq_true rfl)⟩ (Nat.le_of_ble_eq_true rfl) ⟨(Nat.le_of_ble_eq_true rfl), (Nat.le_of_ble_eq_true rfl)⟩ dL_drafts_992 rfl hf (fun M_20 H locs hw hf => ?_)
                refine lv_iload hx hb dL_drafts_995 (lv_at hl 2 rfl) ?_
                refine lv_icmp_ne (tgt := 1014) hx hb dL_drafts_997 (by decide) (fun c_21 => ?_) (fun c_21 => ?_)
                · have hf := ie_e hf c_21
                  refine lv_iconst (v := 0) hx hb dL_drafts_1014 (by decide) ?_
                  refine W.widen (k := 73) (n := 438) (by omega) (by omega) ?_
                  cases hf
                  subst hQ
                  exact q_zret B hr hlk rfl hw rfl rfl dL_drafts_1015
                · have hf := it_e hf c_21
                  refine lv_aload_n hx hb dL_drafts_1000 rfl (lv_at hl 0 rfl) ?_
                  refine lv_bipush (v := 20) hx hb dL_drafts_1001 (by decide) ?_
                  refine lv_iconst (v := 0) hx hb dL_drafts_1003 (by decide) ?_
                  obtain ⟨r_23, M_24, h_22, hf⟩ := bm_e hf
                  refine w_wrap (n := 3) (M' := M_24) (v := r_23) (As := [.ref (X.2.2 0), .int 20, .int 0]) (rest := []) B T N9 hw (c_L_shape l hfl _ X fu 20 0 M_20 (r_23, M_24) h_22 _) km_L_206 kt_L_shape ki_L kc_L_shape ⟨by decide +kernel, by decide +kernel, by decide +kernel⟩ rfl hl.1 rfl rfl ⟨(Nat.le_of_ble_eq_true rfl), (Nat.le_of_ble_eq_true rfl)⟩ (Nat.le_of_ble_eq_true rfl) ⟨(Nat.le_of_ble_eq_true rfl), (Nat.le_of_ble_eq_true rfl)⟩ dL_drafts_1004 rfl (fun H locs hw => ?_)
                  refine W.widen (k := 1) (n := 6) (by omega) (by omega) ?_
                  refine lv_if_ne (tgt := 1014) hx hb dL_drafts_1007 (by decide) (fun c_25 => ?_) (fun c_25 => ?_)
                  · have hf := ie_e hf c_25
                    refine lv_iconst (v := 0) hx hb dL_drafts_1014 (by decide) ?_
                    refine W.widen (k := 73) (n := 438) (by omega) (by omega) ?_
                    cases hf
                    subst hQ
                    exact q_zret B hr hlk rfl hw rfl rfl dL_drafts_1015
                  · have hf := it_e hf c_25
                    refine lv_iconst (v := 1) hx hb dL_drafts_1010 (by decide) ?_
                    refine lv_goto (tgt := 1015) hx hb dL_drafts_1011 (by decide) ?_
                    refine W.widen (k := 73) (n := 438) (by omega) (by omega) ?_
                    cases hf
                    subst hQ
                    exact q_zret B hr hlk rfl hw rfl rfl dL_drafts_1015
              have hL_966 : ∀ (n_966 : Nat) (x8_26 : Int32) (M_27 : Mem) (H : Heap) (locs : List Loc) (ls : Array Slot), HW (LW ex) X M_27 s H locs → lv_has ls 9 [(0, .ref (X.2.2 0)), (4, .ref (X.2.2 146)), (7, .int x7_13), (8, .int x8_26)] → f_L_drafts_L966 fu k985_14 n_966 x8_26 M_27 = some rs → W p l e rm_L_drafts s m args below meth c H locs 0 0 Q (F0 m 966 ls []) := by
                intro n_966
                induction n_966 with
                | zero => intro x8_26 M_27 H locs ls hw hl hf; exact no_none hf
                | succ n_966 ih_966 =>
                  intro x8_26 M_27 H locs ls hw hl hf
                  rw [f_L_drafts_L966] at hf
                  refine lv_iload hx hb dL_drafts_966 (lv_at hl 3 rfl) ?_
                  refine lv_bipush (v := 43) hx hb dL_drafts_968 (by decide) ?_
                  refine lv_icmp_ge (tgt := 985) hx hb dL_drafts_970 (by decide) (fun c_28 => ?_) (fun c_28 => ?_)
                  · have hf := it_e hf c_28
                    exact J985_14 M_27 _ _ _ hw (lv_sub hl [0, 1, 2] rfl) hf
                  · have hf := ie_e hf c_28
                    refine lv_aload hx hb dL_drafts_973 (lv_at hl 1 rfl) ?_
                    refine lv_iload hx hb dL_drafts_975 (lv_at hl 3 rfl) ?_
                    refine lv_iconst (v := 0) hx hb dL_drafts_977 (by decide) ?_
                    obtain ⟨g_29, hf⟩ := grd_e hf
                    refine w_iast B hw (i := 146) (kw146 _) g_29 dL_drafts_978 hf (fun M_30 H locs hw hf => ?_)
                    refine r_iinc (v := (x8_26 + 1)) hx hb dL_drafts_979 hl (k := 3) rfl rfl (by decide) hf (fun x8_31 ls hl hf => ?_)
                    have hl : lv_has ls 9 [(8, .int x8_31), (0, .ref (X.2.2 0)), (4, .ref (X.2.2 146)), (7, .int x7_13)] := hl
                    refine lv_goto (tgt := 966) hx hb dL_drafts_982 (by decide) ?_
                    exact ih_966 x8_31 M_30 _ _ _ hw (lv_sub hl [1, 2, 3, 0] rfl) hf
              exact hL_966 fu 0 M _ _ _ hw (lv_sub hl [4, 8, 1, 0] rfl) hf
            · have hf := it_e hf c_12
              refine lv_aload hx hb dL_drafts_860 (lv_at hl 6 rfl) ?_
              refine lv_iconst (v := 4) hx hb dL_drafts_862 (by decide) ?_
              refine lv_iload_n hx hb dL_drafts_863 rfl (lv_at hl 5 rfl) ?_
              refine lv_bipush (v := 6) hx hb dL_drafts_864 (by decide) ?_
              refine lv_iand hx hb dL_drafts_866 ?_
              refine jn_e hf (fun kk => ∀ (v_33 : Int32) (H : Heap) (locs : List Loc) (ls : Array Slot), HW (LW ex) X M s H locs → lv_has ls 9 [(0, .ref (X.2.2 0)), (2, .int p2), (4, .ref (X.2.2 146))] → kk v_33 = some rs → W p l e rm_L_drafts s m args below meth c H locs 0 0 Q (F0 m 885 ls [.int v_33, .int 4, .ref (X.2.2 146)])) ?_ (fun k885_32 J885_32 hf => ?_)
              · intro v_33 H locs ls hw hl hf
                refine w_iast B hw (i := 146) (kw146 _) (by decide) dL_drafts_885 hf (fun M_34 H locs hw hf => ?_)
                refine lv_aload hx hb dL_drafts_886 (lv_at hl 2 rfl) ?_
                refine lv_iconst (v := 5) hx hb dL_drafts_888 (by decide) ?_
                refine lv_iload_n hx hb dL_drafts_889 rfl (lv_at hl 1 rfl) ?_
                refine lv_bipush (v := 96) hx hb dL_drafts_890 (by decide) ?_
                refine lv_iand hx hb dL_drafts_892 ?_
                refine nmv_e hf (fun kk => ∀ (H : Heap) (locs : List Loc), HW (LW ex) X M_34 s H locs → W p l e rm_L_drafts s m args below meth c H locs 0 0 Q (F0 m 901 ls [.int kk, .int 5, .ref (X.2.2 146)])) (fun J => ?_) (fun v_36 hf H locs hw => ?_)
                · refine lv_if_ne (tgt := 900) hx hb dL_drafts_893 (by decide) (fun c_35 => ?_) (fun c_35 => ?_)
                  · rw [if_neg (show ¬ ((p2 &&& 96) = 0) from c_35)] at J
                    refine lv_iconst (v := 0) hx hb dL_drafts_900 (by decide) ?_
                    exact J _ _ hw
                  · rw [if_pos (show (p2 &&& 96) = 0 from c_35)] at J
                    refine lv_iconst (v := 1) hx hb dL_drafts_896 (by decide) ?_
                    refine lv_goto (tgt := 901) hx hb dL_drafts_897 (by decide) ?_
                    exact J _ _ hw
                · refine w_iast B hw (i := 146) (kw146 _) (by decide) dL_drafts_901 hf (fun M_37 H locs hw hf => ?_)
                  refine lv_aload_n hx hb dL_drafts_902 rfl (lv_at hl 0 rfl) ?_
                  refine lv_iconst (v := 0) hx hb dL_drafts_903 (by decide) ?_
                  refine lv_iconst (v := 1) hx hb dL_drafts_904 (by decide) ?_
                  obtain ⟨r_39, M_40, h_38, hf⟩ := bm_e hf
                  refine w_wrap (n := 3) (M' := M_40) (v := r_39) (As := [.ref (X.2.2 0), .int 0, .int 1]) (rest := []) B T N9 hw (c_L_shape l hfl _ X fu 0 1 M_37 (r_39, M_40) h_38 _) km_L_206 kt_L_shape ki_L kc_L_shape ⟨by decide +kernel, by decide +kernel, by decide +kernel⟩ rfl hl.1 rfl rfl ⟨(Nat.le_of_ble_eq_true rfl), (Nat.le_of_ble_eq_true rfl)⟩ (Nat.le_of_ble_eq_true rfl) ⟨(Nat.le_of_ble_eq_true rfl), (Nat.le_of_ble_eq_true rfl)⟩ dL_drafts_905 rfl (fun H locs hw => ?_)
                  refine W.widen (k := 1) (n := 6) (by omega) (by omega) ?_
                  refine lv_sipush (v := (-7200)) hx hb dL_drafts_908 (by decide) ?_
                  refine lv_icmp_ne (tgt := 955) hx hb dL_drafts_911 (by decide) (fun c_41 => ?_) (fun c_41 => ?_)
                  · have hf := ie_e hf c_41
                    refine lv_iconst (v := 0) hx hb dL_drafts_955 (by decide) ?_
                    refine W.widen (k := 73) (n := 438) (by omega) (by omega) ?_
                    cases hf
                    subst hQ
                    exact q_zret B hr hlk rfl hw rfl rfl dL_drafts_956
                  · have hf := it_e hf c_41
                    refine lv_aload_n hx hb dL_drafts_914 rfl (lv_at hl 0 rfl) ?_
                    refine lv_bipush (v := 41) hx hb dL_drafts_915 (by decide) ?_
                    refine lv_iconst (v := 1) hx hb dL_drafts_917 (by decide) ?_
                    obtain ⟨r_43, M_44, h_42, hf⟩ := bm_e hf
                    refine w_wrap (n := 3) (M' := M_44) (v := r_43) (As := [.ref (X.2.2 0), .int 41, .int 1]) (rest := []) B T N9 hw (c_L_shape l hfl _ X fu 41 1 M_40 (r_43, M_44) h_42 _) km_L_206 kt_L_shape ki_L kc_L_shape ⟨by decide +kernel, by decide +kernel, by decide +kernel⟩ rfl hl.1 rfl rfl ⟨(Nat.le_of_ble_eq_true rfl), (Nat.le_of_ble_eq_true rfl)⟩ (Nat.le_of_ble_eq_true rfl) ⟨(Nat.le_of_ble_eq_true rfl), (Nat.le_of_ble_eq_true rfl)⟩ dL_drafts_918 rfl (fun H locs hw => ?_)
                    refine W.widen (k := 2) (n := 12) (by omega) (by omega) ?_
                    refine lv_sipush (v := (-7200)) hx hb dL_drafts_921 (by decide) ?_
                    refine lv_icmp_ne (tgt := 955) hx hb dL_drafts_924 (by decide) (fun c_45 => ?_) (fun c_45 => ?_)
                    · have hf := ie_e hf c_45
                      refine lv_iconst (v := 0) hx hb dL_drafts_955 (by decide) ?_
                      refine W.widen (k := 73) (n := 438) (by omega) (by omega) ?_
                      cases hf
                      subst hQ
                      exact q_zret B hr hlk rfl hw rfl rfl dL_drafts_956
                    · have hf := it_e hf c_45
                      refine lv_aload_n hx hb dL_drafts_927 rfl (lv_at hl 0 rfl) ?_
                      refine lv_aload hx hb dL_drafts_928 (lv_at hl 2 rfl) ?_
                      refine lv_iconst (v := 4) hx hb dL_drafts_930 (by decide) ?_
                      refine w_iald B hw (i := 146) (kw146 _) (by decide) dL_drafts_931 ?_
                      refine lv_aload hx hb dL_drafts_932 (lv_at hl 2 rfl) ?_
                      refine lv_iconst (v := 5) hx hb dL_drafts_934 (by decide) ?_
                      refine w_iald B hw (i := 146) (kw146 _) (by decide) dL_drafts_935 ?_
                      refine lv_iconst (v := 1) hx hb dL_drafts_936 (by decide) ?_
                      refine nmv_e hf (fun kk => ∀ (H : Heap) (locs : List Loc), HW (LW ex) X M_44 s H locs → W p l e rm_L_drafts s m args below meth c H locs 2 12 Q (F0 m 945 ls [.int kk, .int (M_44 146 4), .ref (X.2.2 0)])) (fun J => ?_) (fun v_47 hf H locs hw => ?_)
                      · refine lv_icmp_ne (tgt := 944) hx hb dL_drafts_937 (by decide) (fun c_46 => ?_) (fun c_46 => ?_)
                        · rw [if_neg (show ¬ ((M_44 146 5) = 1) from c_46)] at J
                          refine lv_iconst (v := 0) hx hb dL_drafts_944 (by decide) ?_
                          exact J _ _ hw
                        · rw [if_pos (show (M_44 146 5) = 1 from c_46)] at J
                          refine lv_iconst (v := 1) hx hb dL_drafts_940 (by decide) ?_
                          refine lv_goto (tgt := 945) hx hb dL_drafts_941 (by decide) ?_
                          exact J _ _ hw
                      · obtain ⟨r_49, M_50, h_48, hf⟩ := bm_e hf
                        refine w_wrap (n := 3) (M' := M_50) (v := r_49) (As := [.ref (X.2.2 0), .int (M_44 146 4), .int v_47]) (rest := []) B T N9 hw (c_L_shape l hfl _ X fu (M_44 146 4) v_47 M_44 (r_49, M_50) h_48 _) km_L_206 kt_L_shape ki_L kc_L_shape ⟨by decide +kernel, by decide +kernel, by decide +kernel⟩ rfl hl.1 rfl rfl ⟨(Nat.le_of_ble_eq_true rfl), (Nat.le_of_ble_eq_true rfl)⟩ (Nat.le_of_ble_eq_true rfl) ⟨(Nat.le_of_ble_eq_true rfl), (Nat.le_of_ble_eq_true rfl)⟩ dL_drafts_945 rfl (fun H locs hw => ?_)
                        refine W.widen (k := 3) (n := 18) (by omega) (by omega) ?_
                        refine lv_if_ne (tgt := 955) hx hb dL_drafts_948 (by decide) (fun c_51 => ?_) (fun c_51 => ?_)
                        · have hf := ie_e hf c_51
                          refine lv_iconst (v := 0) hx hb dL_drafts_955 (by decide) ?_
                          refine W.widen (k := 73) (n := 438) (by omega) (by omega) ?_
                          cases hf
                          subst hQ
                          exact q_zret B hr hlk rfl hw rfl rfl dL_drafts_956
                        · have hf := it_e hf c_51
                          refine lv_iconst (v := 1) hx hb dL_drafts_951 (by decide) ?_
                          refine lv_goto (tgt := 956) hx hb dL_drafts_952 (by decide) ?_
                          refine W.widen (k := 73) (n := 438) (by omega) (by omega) ?_
                          cases hf
                          subst hQ
                          exact q_zret B hr hlk rfl hw rfl rfl dL_drafts_956
              refine lv_if_ne (tgt := 883) hx hb dL_drafts_867 (by decide) (fun c_52 => ?_) (fun c_52 => ?_)
              · have hf := ie_e hf c_52
                refine lv_bipush (v := 20) hx hb dL_drafts_883 (by decide) ?_
                exact J885_32 20 _ _ _ hw (lv_sub hl [2, 4, 6] rfl) hf
              · have hf := it_e hf c_52
                refine lv_iconst (v := 1) hx hb dL_drafts_870 (by decide) ?_
                refine lv_iload_n hx hb dL_drafts_871 rfl (lv_at hl 5 rfl) ?_
                refine lv_iconst (v := 3) hx hb dL_drafts_872 (by decide) ?_
                refine lv_ishr hx hb dL_drafts_873 ?_
                refine lv_bipush (v := 20) hx hb dL_drafts_874 (by decide) ?_
                obtain ⟨r_54, h_53, hf⟩ := bd_e hf
                refine q_callSi (M' := M) (As := [.int (p3 >>> (3 &&& 31)), .int 20]) (rest := [.int 1, .int 4, .ref (X.2.2 146)]) B hw (c_L_low l _ X fu (p3 >>> (3 &&& 31)) 20 M r_54 h_53 _) cs_L_130 rfl hl.1 rfl rfl ⟨(Nat.le_of_ble_eq_true rfl), (Nat.le_of_ble_eq_true rfl)⟩ (Nat.le_of_ble_eq_true rfl) ⟨(Nat.le_of_ble_eq_true rfl), (Nat.le_of_ble_eq_true rfl)⟩ dL_drafts_876 rfl (fun H locs hw => ?_)
                refine lv_iadd hx hb dL_drafts_879 ?_
                refine lv_goto (tgt := 885) hx hb dL_drafts_880 (by decide) ?_
                exact J885_32 (1 + r_54) _ _ _ hw (lv_sub hl [2, 4, 6] rfl) hf
          · have hf := ie_e hf c_11
            refine lv_aload_n hx hb dL_drafts_731 rfl (lv_at hl 2 rfl) ?_
            refine lv_iload hx hb dL_drafts_732 (lv_at hl 1 rfl) ?_
            refine lv_aload hx hb dL_drafts_734 (lv_at hl 6 rfl) ?_
            refine lv_bipush (v := 6) hx hb dL_drafts_736 (by decide) ?_
            refine lv_iload hx hb dL_drafts_738 (lv_at hl 1 rfl) ?_
            refine lv_iadd hx hb dL_drafts_740 ?_
            refine w_iald B hw (i := 146) (kw146 _) g_5 dL_drafts_741 ?_
            refine q_callSi (M' := M) (As := [.int (M 146 (6 + r_2).toNatClampNeg)]) (rest := [.int r_2, .ref (X.2.2 0)]) B hw (c_L_columns l _ X (M 146 (6 + r_2).toNatClampNeg) _ rfl M _) cs_L_125 rfl hl.1 rfl rfl ⟨(Nat.le_of_ble_eq_true rfl), (Nat.le_of_ble_eq_true rfl)⟩ (Nat.le_of_ble_eq_true rfl) ⟨(Nat.le_of_ble_eq_true rfl), (Nat.le_of_ble_eq_true rfl)⟩ dL_drafts_742 rfl (fun H locs hw => ?_)
            obtain ⟨r_57, M_58, h_56, hf⟩ := bm_e hf
            refine w_wrap (n := 3) (M' := M_58) (v := r_57) (As := [.ref (X.2.2 0), .int r_2, .int (f_L_columns (M 146 (6 + r_2).toNatClampNeg))]) (rest := []) B T N9 hw (c_L_out l hfl _ X fu r_2 (f_L_columns (M 146 (6 + r_2).toNatClampNeg)) M (r_57, M_58) h_56 _) km_L_204 kt_L_out ki_L kc_L_out ⟨by decide +kernel, by decide +kernel, by decide +kernel⟩ rfl hl.1 rfl rfl ⟨(Nat.le_of_ble_eq_true rfl), (Nat.le_of_ble_eq_true rfl)⟩ (Nat.le_of_ble_eq_true rfl) ⟨(Nat.le_of_ble_eq_true rfl), (Nat.le_of_ble_eq_true rfl)⟩ dL_drafts_745 rfl (fun H locs hw => ?_)
            refine W.widen (k := 2) (n := 12) (by omega) (by omega) ?_
            refine lv_sipush (v := (-7100)) hx hb dL_drafts_748 (by decide) ?_
            refine lv_icmp_ne (tgt := 767) hx hb dL_drafts_751 (by decide) (fun c_59 => ?_) (fun c_59 => ?_)
            · have hf := ie_e hf c_59
              refine lv_iconst (v := 0) hx hb dL_drafts_767 (by decide) ?_
              refine W.widen (k := 73) (n := 438) (by omega) (by omega) ?_
              cases hf
              subst hQ
              exact q_zret B hr hlk rfl hw rfl rfl dL_drafts_768
            · have hf := it_e hf c_59
              refine lv_aload_n hx hb dL_drafts_754 rfl (lv_at hl 2 rfl) ?_
              refine lv_iload hx hb dL_drafts_755 (lv_at hl 1 rfl) ?_
              refine lv_iconst (v := (-1)) hx hb dL_drafts_757 (by decide) ?_
              obtain ⟨r_61, M_62, h_60, hf⟩ := bm_e hf
              refine w_wrap (n := 3) (M' := M_62) (v := r_61) (As := [.ref (X.2.2 0), .int r_2, .int (-1)]) (rest := []) B T N9 hw (c_L_out l hfl _ X fu r_2 (-1) M_58 (r_61, M_62) h_60 _) km_L_204 kt_L_out ki_L kc_L_out ⟨by decide +kernel, by decide +kernel, by decide +kernel⟩ rfl hl.1 rfl rfl ⟨(Nat.le_of_ble_eq_true rfl), (Nat.le_of_ble_eq_true rfl)⟩ (Nat.le_of_ble_eq_true rfl) ⟨(Nat.le_of_ble_eq_true rfl), (Nat.le_of_ble_eq_true rfl)⟩ dL_drafts_758 rfl (fun H locs hw => ?_)
              refine W.widen (k := 4) (n := 24) (by omega) (by omega) ?_
              refine lv_sipush (v := (-7100)) hx hb dL_drafts_761 (by decide) ?_
              refine lv_icmp_eq (tgt := 769) hx hb dL_drafts_764 (by decide) (fun c_63 => ?_) (fun c_63 => ?_)
              · have hf := it_e hf c_63
                refine lv_aload hx hb dL_drafts_769 (lv_at hl 6 rfl) ?_
                refine lv_iconst (v := 3) hx hb dL_drafts_771 (by decide) ?_
                refine w_iald B hw (i := 146) (kw146 _) (by decide) dL_drafts_772 ?_
                refine lv_iconst (v := 3) hx hb dL_drafts_773 (by decide) ?_
                refine lv_icmp_ne (tgt := 797) hx hb dL_drafts_774 (by decide) (fun c_64 => ?_) (fun c_64 => ?_)
                · have hf := ie_e hf c_64
                  refine lv_aload hx hb dL_drafts_797 (lv_at hl 6 rfl) ?_
                  refine lv_bipush (v := 37) hx hb dL_drafts_799 (by decide) ?_
                  refine lv_iconst (v := 2) hx hb dL_drafts_801 (by decide) ?_
                  refine lv_aload hx hb dL_drafts_802 (lv_at hl 6 rfl) ?_
                  refine lv_iconst (v := 3) hx hb dL_drafts_804 (by decide) ?_
                  refine w_iald B hw (i := 146) (kw146 _) (by decide) dL_drafts_805 ?_
                  refine lv_imul hx hb dL_drafts_806 ?_
                  refine lv_iadd hx hb dL_drafts_807 ?_
                  refine lv_iload hx hb dL_drafts_808 (lv_at hl 1 rfl) ?_
                  obtain ⟨g_65, hf⟩ := grd_e hf
                  refine w_iast B hw (i := 146) (kw146 _) g_65 dL_drafts_810 hf (fun M_66 H locs hw hf => ?_)
                  refine lv_aload hx hb dL_drafts_811 (lv_at hl 6 rfl) ?_
                  refine lv_bipush (v := 38) hx hb dL_drafts_813 (by decide) ?_
                  refine lv_iconst (v := 2) hx hb dL_drafts_815 (by decide) ?_
                  refine lv_aload hx hb dL_drafts_816 (lv_at hl 6 rfl) ?_
                  refine lv_iconst (v := 3) hx hb dL_drafts_818 (by decide) ?_
                  refine w_iald B hw (i := 146) (kw146 _) (by decide) dL_drafts_819 ?_
                  refine lv_imul hx hb dL_drafts_820 ?_
                  refine lv_iadd hx hb dL_drafts_821 ?_
                  refine lv_iload hx hb dL_drafts_822 (lv_at hl 0 rfl) ?_
                  obtain ⟨g_67, hf⟩ := grd_e hf
                  refine w_iast B hw (i := 146) (kw146 _) g_67 dL_drafts_824 hf (fun M_68 H locs hw hf => ?_)
                  refine lv_aload hx hb dL_drafts_825 (lv_at hl 6 rfl) ?_
                  refine lv_iconst (v := 3) hx hb dL_drafts_827 (by decide) ?_
                  refine lv_dup2_11 hx hb dL_drafts_828 rfl rfl ?_
                  refine w_iald B hw (i := 146) (kw146 _) (by decide) dL_drafts_829 ?_
                  refine lv_iconst (v := 1) hx hb dL_drafts_830 (by decide) ?_
                  refine lv_iadd hx hb dL_drafts_831 ?_
                  refine w_iast B hw (i := 146) (kw146 _) (by decide) dL_drafts_832 hf (fun M_69 H locs hw hf => ?_)
                  refine lv_aload_n hx hb dL_drafts_833 rfl (lv_at hl 2 rfl) ?_
                  refine lv_iload hx hb dL_drafts_834 (lv_at hl 1 rfl) ?_
                  refine lv_iload hx hb dL_drafts_836 (lv_at hl 0 rfl) ?_
                  obtain ⟨r_71, M_72, h_70, hf⟩ := bm_e hf
                  refine w_wrap (n := 3) (M' := M_72) (v := r_71) (As := [.ref (X.2.2 0), .int r_2, .int r_8]) (rest := []) B T N9 hw (c_L_out l hfl _ X fu r_2 r_8 M_69 (r_71, M_72) h_70 _) km_L_204 kt_L_out ki_L kc_L_out ⟨by decide +kernel, by decide +kernel, by decide +kernel⟩ rfl hl.1 rfl rfl ⟨(Nat.le_of_ble_eq_true rfl), (Nat.le_of_ble_eq_true rfl)⟩ (Nat.le_of_ble_eq_true rfl) ⟨(Nat.le_of_ble_eq_true rfl), (Nat.le_of_ble_eq_true rfl)⟩ dL_drafts_838 rfl (fun H locs hw => ?_)
                  refine W.widen (k := 6) (n := 36) (by omega) (by omega) ?_
                  refine lv_aload hx hb dL_drafts_841 (lv_at hl 6 rfl) ?_
                  refine lv_iconst (v := 3) hx hb dL_drafts_843 (by decide) ?_
                  refine w_iald B hw (i := 146) (kw146 _) (by decide) dL_drafts_844 ?_
                  refine lv_icmp_ne (tgt := 852) hx hb dL_drafts_845 (by decide) (fun c_73 => ?_) (fun c_73 => ?_)
                  · have hf := ie_e hf c_73
                    refine lv_iconst (v := 0) hx hb dL_drafts_852 (by decide) ?_
                    refine W.widen (k := 73) (n := 438) (by omega) (by omega) ?_
                    cases hf
                    subst hQ
                    exact q_zret B hr hlk rfl hw rfl rfl dL_drafts_853
                  · have hf := it_e hf c_73
                    refine lv_iconst (v := 1) hx hb dL_drafts_848 (by decide) ?_
                    refine lv_goto (tgt := 853) hx hb dL_drafts_849 (by decide) ?_
                    refine W.widen (k := 73) (n := 438) (by omega) (by omega) ?_
                    cases hf
                    subst hQ
                    exact q_zret B hr hlk rfl hw rfl rfl dL_drafts_853
                · have hf := it_e hf c_64
                  refine lv_aload_n hx hb dL_drafts_777 rfl (lv_at hl 2 rfl) ?_
                  refine lv_iload hx hb dL_drafts_778 (lv_at hl 1 rfl) ?_
                  refine lv_iload hx hb dL_drafts_780 (lv_at hl 0 rfl) ?_
                  obtain ⟨r_75, M_76, h_74, hf⟩ := bm_e hf
                  refine w_wrap (n := 3) (M' := M_76) (v := r_75) (As := [.ref (X.2.2 0), .int r_2, .int r_8]) (rest := []) B T N9 hw (c_L_out l hfl _ X fu r_2 r_8 M_62 (r_75, M_76) h_74 _) km_L_204 kt_L_out ki_L kc_L_out ⟨by decide +kernel, by decide +kernel, by decide +kernel⟩ rfl hl.1 rfl rfl ⟨(Nat.le_of_ble_eq_true rfl), (Nat.le_of_ble_eq_true rfl)⟩ (Nat.le_of_ble_eq_true rfl) ⟨(Nat.le_of_ble_eq_true rfl), (Nat.le_of_ble_eq_true rfl)⟩ dL_drafts_782 rfl (fun H locs hw => ?_)
                  refine W.widen (k := 6) (n := 36) (by omega) (by omega) ?_
                  refine lv_sipush (v := (-7300)) hx hb dL_drafts_785 (by decide) ?_
                  refine lv_icmp_ne (tgt := 795) hx hb dL_drafts_788 (by decide) (fun c_77 => ?_) (fun c_77 => ?_)
                  · have hf := ie_e hf c_77
                    refine lv_iconst (v := 0) hx hb dL_drafts_795 (by decide) ?_
                    refine W.widen (k := 73) (n := 438) (by omega) (by omega) ?_
                    cases hf
                    subst hQ
                    exact q_zret B hr hlk rfl hw rfl rfl dL_drafts_796
                  · have hf := it_e hf c_77
                    refine lv_iconst (v := 1) hx hb dL_drafts_791 (by decide) ?_
                    refine lv_goto (tgt := 796) hx hb dL_drafts_792 (by decide) ?_
                    refine W.widen (k := 73) (n := 438) (by omega) (by omega) ?_
                    cases hf
                    subst hQ
                    exact q_zret B hr hlk rfl hw rfl rfl dL_drafts_796
              · have hf := ie_e hf c_63
                refine lv_iconst (v := 0) hx hb dL_drafts_767 (by decide) ?_
                refine W.widen (k := 73) (n := 438) (by omega) (by omega) ?_
                cases hf
                subst hQ
                exact q_zret B hr hlk rfl hw rfl rfl dL_drafts_768
        · have hf := ie_e hf c_10
          refine lv_iload_n hx hb dL_drafts_465 rfl (lv_at hl 5 rfl) ?_
          refine lv_iconst (v := 5) hx hb dL_drafts_466 (by decide) ?_
          obtain ⟨r_79, h_78, hf⟩ := bd_e hf
          refine q_callSi (M' := M) (As := [.int p3, .int 5]) (rest := []) B hw (c_L_low l _ X fu p3 5 M r_79 h_78 _) cs_L_130 rfl hl.1 rfl rfl ⟨(Nat.le_of_ble_eq_true rfl), (Nat.le_of_ble_eq_true rfl)⟩ (Nat.le_of_ble_eq_true rfl) ⟨(Nat.le_of_ble_eq_true rfl), (Nat.le_of_ble_eq_true rfl)⟩ dL_drafts_467 rfl (fun H locs hw => ?_)
          refine lv_istore (lv' := [(7, .int r_79), (6, .int r_8), (5, .int r_2), (0, .ref (X.2.2 0)), (1, .int p1), (2, .int p2), (3, .int p3), (4, .ref (X.2.2 146))]) hx hb dL_drafts_470 hl (by decide) rfl (fun ls hl => ?_)
          refine lv_iload hx hb dL_drafts_472 (lv_at hl 0 rfl) ?_
          refine lv_iconst (v := 2) hx hb dL_drafts_474 (by decide) ?_
          refine jn_e hf (fun kk => ∀ (v_81 : Int32) (H : Heap) (locs : List Loc) (ls : Array Slot), HW (LW ex) X M s H locs → lv_has ls 9 [(0, .ref (X.2.2 0)), (4, .ref (X.2.2 146)), (5, .int r_2), (6, .int r_8), (7, .int r_79)] → kk v_81 = some rs → W p l e rm_L_drafts s m args below meth c H locs 0 0 Q (F0 m 492 ls [.int v_81])) ?_ (fun k492_80 J492_80 hf => ?_)
          · intro v_81 H locs ls hw hl hf
            refine lv_istore (lv' := [(8, .int v_81), (0, .ref (X.2.2 0)), (4, .ref (X.2.2 146)), (5, .int r_2), (6, .int r_8), (7, .int r_79)]) hx hb dL_drafts_492 hl (by decide) rfl (fun ls hl => ?_)
            refine lv_aload_n hx hb dL_drafts_494 rfl (lv_at hl 1 rfl) ?_
            refine lv_iload hx hb dL_drafts_495 (lv_at hl 3 rfl) ?_
            refine lv_aload hx hb dL_drafts_497 (lv_at hl 2 rfl) ?_
            refine lv_bipush (v := 6) hx hb dL_drafts_499 (by decide) ?_
            refine lv_iload hx hb dL_drafts_501 (lv_at hl 3 rfl) ?_
            refine lv_iadd hx hb dL_drafts_503 ?_
            refine w_iald B hw (i := 146) (kw146 _) g_5 dL_drafts_504 ?_
            refine q_callSi (M' := M) (As := [.int (M 146 (6 + r_2).toNatClampNeg)]) (rest := [.int r_2, .ref (X.2.2 0)]) B hw (c_L_columns l _ X (M 146 (6 + r_2).toNatClampNeg) _ rfl M _) cs_L_125 rfl hl.1 rfl rfl ⟨(Nat.le_of_ble_eq_true rfl), (Nat.le_of_ble_eq_true rfl)⟩ (Nat.le_of_ble_eq_true rfl) ⟨(Nat.le_of_ble_eq_true rfl), (Nat.le_of_ble_eq_true rfl)⟩ dL_drafts_505 rfl (fun H locs hw => ?_)
            refine lv_bipush (v := 9) hx hb dL_drafts_508 (by decide) ?_
            refine lv_iconst (v := 0) hx hb dL_drafts_510 (by decide) ?_
            obtain ⟨r_84, M_85, h_83, hf⟩ := bm_e hf
            refine w_wrap (n := 5) (M' := M_85) (v := r_84) (As := [.ref (X.2.2 0), .int r_2, .int (f_L_columns (M 146 (6 + r_2).toNatClampNeg)), .int 9, .int 0]) (rest := []) B T N9 hw (c_L_where l hfl _ X fu r_2 (f_L_columns (M 146 (6 + r_2).toNatClampNeg)) 9 0 M (r_84, M_85) h_83 _) km_L_202 kt_L_where ki_L kc_L_where ⟨by decide +kernel, by decide +kernel, by decide +kernel⟩ rfl hl.1 rfl rfl ⟨(Nat.le_of_ble_eq_true rfl), (Nat.le_of_ble_eq_true rfl)⟩ (Nat.le_of_ble_eq_true rfl) ⟨(Nat.le_of_ble_eq_true rfl), (Nat.le_of_ble_eq_true rfl)⟩ dL_drafts_511 rfl (fun H locs hw => ?_)
            refine W.widen (k := 3) (n := 18) (by omega) (by omega) ?_
            refine lv_sipush (v := (-7100)) hx hb dL_drafts_514 (by decide) ?_
            refine lv_icmp_ne (tgt := 602) hx hb dL_drafts_517 (by decide) (fun c_86 => ?_) (fun c_86 => ?_)
            · have hf := ie_e hf c_86
              refine lv_iconst (v := 0) hx hb dL_drafts_602 (by decide) ?_
              refine W.widen (k := 73) (n := 438) (by omega) (by omega) ?_
              cases hf
              subst hQ
              exact q_zret B hr hlk rfl hw rfl rfl dL_drafts_603
            · have hf := it_e hf c_86
              refine lv_aload_n hx hb dL_drafts_520 rfl (lv_at hl 1 rfl) ?_
              refine lv_iload hx hb dL_drafts_521 (lv_at hl 3 rfl) ?_
              refine lv_iload hx hb dL_drafts_523 (lv_at hl 4 rfl) ?_
              refine lv_iconst (v := 5) hx hb dL_drafts_525 (by decide) ?_
              refine lv_iconst (v := 0) hx hb dL_drafts_526 (by decide) ?_
              obtain ⟨r_88, M_89, h_87, hf⟩ := bm_e hf
              refine w_wrap (n := 5) (M' := M_89) (v := r_88) (As := [.ref (X.2.2 0), .int r_2, .int r_8, .int 5, .int 0]) (rest := []) B T N9 hw (c_L_where l hfl _ X fu r_2 r_8 5 0 M_85 (r_88, M_89) h_87 _) km_L_202 kt_L_where ki_L kc_L_where ⟨by decide +kernel, by decide +kernel, by decide +kernel⟩ rfl hl.1 rfl rfl ⟨(Nat.le_of_ble_eq_true rfl), (Nat.le_of_ble_eq_true rfl)⟩ (Nat.le_of_ble_eq_true rfl) ⟨(Nat.le_of_ble_eq_true rfl), (Nat.le_of_ble_eq_true rfl)⟩ dL_drafts_527 rfl (fun H locs hw => ?_)
              refine W.widen (k := 6) (n := 36) (by omega) (by omega) ?_
              refine lv_sipush (v := (-7200)) hx hb dL_drafts_530 (by decide) ?_
              refine lv_icmp_ne (tgt := 602) hx hb dL_drafts_533 (by decide) (fun c_90 => ?_) (fun c_90 => ?_)
              · have hf := ie_e hf c_90
                refine lv_iconst (v := 0) hx hb dL_drafts_602 (by decide) ?_
                refine W.widen (k := 73) (n := 438) (by omega) (by omega) ?_
                cases hf
                subst hQ
                exact q_zret B hr hlk rfl hw rfl rfl dL_drafts_603
              · have hf := it_e hf c_90
                refine lv_aload_n hx hb dL_drafts_536 rfl (lv_at hl 1 rfl) ?_
                refine lv_iload hx hb dL_drafts_537 (lv_at hl 3 rfl) ?_
                refine lv_iload hx hb dL_drafts_539 (lv_at hl 4 rfl) ?_
                refine lv_iconst (v := (-1)) hx hb dL_drafts_541 (by decide) ?_
                refine lv_iconst (v := 0) hx hb dL_drafts_542 (by decide) ?_
                obtain ⟨r_92, M_93, h_91, hf⟩ := bm_e hf
                refine w_wrap (n := 5) (M' := M_93) (v := r_92) (As := [.ref (X.2.2 0), .int r_2, .int r_8, .int (-1), .int 0]) (rest := []) B T N9 hw (c_L_where l hfl _ X fu r_2 r_8 (-1) 0 M_89 (r_92, M_93) h_91 _) km_L_202 kt_L_where ki_L kc_L_where ⟨by decide +kernel, by decide +kernel, by decide +kernel⟩ rfl hl.1 rfl rfl ⟨(Nat.le_of_ble_eq_true rfl), (Nat.le_of_ble_eq_true rfl)⟩ (Nat.le_of_ble_eq_true rfl) ⟨(Nat.le_of_ble_eq_true rfl), (Nat.le_of_ble_eq_true rfl)⟩ dL_drafts_543 rfl (fun H locs hw => ?_)
                refine W.widen (k := 9) (n := 54) (by omega) (by omega) ?_
                refine lv_sipush (v := (-7200)) hx hb dL_drafts_546 (by decide) ?_
                refine lv_icmp_ne (tgt := 602) hx hb dL_drafts_549 (by decide) (fun c_94 => ?_) (fun c_94 => ?_)
                · have hf := ie_e hf c_94
                  refine lv_iconst (v := 0) hx hb dL_drafts_602 (by decide) ?_
                  refine W.widen (k := 73) (n := 438) (by omega) (by omega) ?_
                  cases hf
                  subst hQ
                  exact q_zret B hr hlk rfl hw rfl rfl dL_drafts_603
                · have hf := it_e hf c_94
                  refine lv_aload_n hx hb dL_drafts_552 rfl (lv_at hl 1 rfl) ?_
                  refine lv_iload hx hb dL_drafts_553 (lv_at hl 3 rfl) ?_
                  refine lv_iload hx hb dL_drafts_555 (lv_at hl 4 rfl) ?_
                  refine lv_iconst (v := 3) hx hb dL_drafts_557 (by decide) ?_
                  refine lv_iconst (v := 1) hx hb dL_drafts_558 (by decide) ?_
                  obtain ⟨r_96, M_97, h_95, hf⟩ := bm_e hf
                  refine w_wrap (n := 5) (M' := M_97) (v := r_96) (As := [.ref (X.2.2 0), .int r_2, .int r_8, .int 3, .int 1]) (rest := []) B T N9 hw (c_L_where l hfl _ X fu r_2 r_8 3 1 M_93 (r_96, M_97) h_95 _) km_L_202 kt_L_where ki_L kc_L_where ⟨by decide +kernel, by decide +kernel, by decide +kernel⟩ rfl hl.1 rfl rfl ⟨(Nat.le_of_ble_eq_true rfl), (Nat.le_of_ble_eq_true rfl)⟩ (Nat.le_of_ble_eq_true rfl) ⟨(Nat.le_of_ble_eq_true rfl), (Nat.le_of_ble_eq_true rfl)⟩ dL_drafts_559 rfl (fun H locs hw => ?_)
                  refine W.widen (k := 12) (n := 72) (by omega) (by omega) ?_
                  refine lv_sipush (v := (-7200)) hx hb dL_drafts_562 (by decide) ?_
                  refine lv_icmp_ne (tgt := 602) hx hb dL_drafts_565 (by decide) (fun c_98 => ?_) (fun c_98 => ?_)
                  · have hf := ie_e hf c_98
                    refine lv_iconst (v := 0) hx hb dL_drafts_602 (by decide) ?_
                    refine W.widen (k := 73) (n := 438) (by omega) (by omega) ?_
                    cases hf
                    subst hQ
                    exact q_zret B hr hlk rfl hw rfl rfl dL_drafts_603
                  · have hf := it_e hf c_98
                    refine lv_aload_n hx hb dL_drafts_568 rfl (lv_at hl 1 rfl) ?_
                    refine lv_iload hx hb dL_drafts_569 (lv_at hl 3 rfl) ?_
                    refine lv_iload hx hb dL_drafts_571 (lv_at hl 4 rfl) ?_
                    refine lv_iconst (v := 0) hx hb dL_drafts_573 (by decide) ?_
                    refine lv_sipush (v := 1000) hx hb dL_drafts_574 (by decide) ?_
                    obtain ⟨r_100, M_101, h_99, hf⟩ := bm_e hf
                    refine w_wrap (n := 5) (M' := M_101) (v := r_100) (As := [.ref (X.2.2 0), .int r_2, .int r_8, .int 0, .int 1000]) (rest := []) B T N9 hw (c_L_where l hfl _ X fu r_2 r_8 0 1000 M_97 (r_100, M_101) h_99 _) km_L_202 kt_L_where ki_L kc_L_where ⟨by decide +kernel, by decide +kernel, by decide +kernel⟩ rfl hl.1 rfl rfl ⟨(Nat.le_of_ble_eq_true rfl), (Nat.le_of_ble_eq_true rfl)⟩ (Nat.le_of_ble_eq_true rfl) ⟨(Nat.le_of_ble_eq_true rfl), (Nat.le_of_ble_eq_true rfl)⟩ dL_drafts_577 rfl (fun H locs hw => ?_)
                    refine W.widen (k := 15) (n := 90) (by omega) (by omega) ?_
                    refine lv_sipush (v := (-7200)) hx hb dL_drafts_580 (by decide) ?_
                    refine lv_icmp_ne (tgt := 602) hx hb dL_drafts_583 (by decide) (fun c_102 => ?_) (fun c_102 => ?_)
                    · have hf := ie_e hf c_102
                      refine lv_iconst (v := 0) hx hb dL_drafts_602 (by decide) ?_
                      refine W.widen (k := 73) (n := 438) (by omega) (by omega) ?_
                      cases hf
                      subst hQ
                      exact q_zret B hr hlk rfl hw rfl rfl dL_drafts_603
                    · have hf := it_e hf c_102
                      refine lv_aload_n hx hb dL_drafts_586 rfl (lv_at hl 1 rfl) ?_
                      refine lv_iload hx hb dL_drafts_587 (lv_at hl 3 rfl) ?_
                      refine lv_iload hx hb dL_drafts_589 (lv_at hl 4 rfl) ?_
                      refine lv_iconst (v := 4) hx hb dL_drafts_591 (by decide) ?_
                      refine lv_iconst (v := (-1)) hx hb dL_drafts_592 (by decide) ?_
                      obtain ⟨r_104, M_105, h_103, hf⟩ := bm_e hf
                      refine w_wrap (n := 5) (M' := M_105) (v := r_104) (As := [.ref (X.2.2 0), .int r_2, .int r_8, .int 4, .int (-1)]) (rest := []) B T N9 hw (c_L_where l hfl _ X fu r_2 r_8 4 (-1) M_101 (r_104, M_105) h_103 _) km_L_202 kt_L_where ki_L kc_L_where ⟨by decide +kernel, by decide +kernel, by decide +kernel⟩ rfl hl.1 rfl rfl ⟨(Nat.le_of_ble_eq_true rfl), (Nat.le_of_ble_eq_true rfl)⟩ (Nat.le_of_ble_eq_true rfl) ⟨(Nat.le_of_ble_eq_true rfl), (Nat.le_of_ble_eq_true rfl)⟩ dL_drafts_593 rfl (fun H locs hw => ?_)
                      refine W.widen (k := 18) (n := 108) (by omega) (by omega) ?_
                      refine lv_sipush (v := (-7200)) hx hb dL_drafts_596 (by decide) ?_
                      refine lv_icmp_eq (tgt := 604) hx hb dL_drafts_599 (by decide) (fun c_106 => ?_) (fun c_106 => ?_)
                      · have hf := it_e hf c_106
                        refine lv_aload hx hb dL_drafts_604 (lv_at hl 2 rfl) ?_
                        refine lv_iconst (v := 2) hx hb dL_drafts_606 (by decide) ?_
                        refine w_iald B hw (i := 146) (kw146 _) (by decide) dL_drafts_607 ?_
                        refine lv_iconst (v := 4) hx hb dL_drafts_608 (by decide) ?_
                        refine lv_icmp_ne (tgt := 636) hx hb dL_drafts_609 (by decide) (fun c_107 => ?_) (fun c_107 => ?_)
                        · have hf := ie_e hf c_107
                          refine lv_aload hx hb dL_drafts_636 (lv_at hl 2 rfl) ?_
                          refine lv_bipush (v := 21) hx hb dL_drafts_638 (by decide) ?_
                          refine lv_iconst (v := 4) hx hb dL_drafts_640 (by decide) ?_
                          refine lv_aload hx hb dL_drafts_641 (lv_at hl 2 rfl) ?_
                          refine lv_iconst (v := 2) hx hb dL_drafts_643 (by decide) ?_
                          refine w_iald B hw (i := 146) (kw146 _) (by decide) dL_drafts_644 ?_
                          refine lv_imul hx hb dL_drafts_645 ?_
                          refine lv_iadd hx hb dL_drafts_646 ?_
                          refine lv_iload hx hb dL_drafts_647 (lv_at hl 3 rfl) ?_
                          obtain ⟨g_108, hf⟩ := grd_e hf
                          refine w_iast B hw (i := 146) (kw146 _) g_108 dL_drafts_649 hf (fun M_109 H locs hw hf => ?_)
                          refine lv_aload hx hb dL_drafts_650 (lv_at hl 2 rfl) ?_
                          refine lv_bipush (v := 22) hx hb dL_drafts_652 (by decide) ?_
                          refine lv_iconst (v := 4) hx hb dL_drafts_654 (by decide) ?_
                          refine lv_aload hx hb dL_drafts_655 (lv_at hl 2 rfl) ?_
                          refine lv_iconst (v := 2) hx hb dL_drafts_657 (by decide) ?_
                          refine w_iald B hw (i := 146) (kw146 _) (by decide) dL_drafts_658 ?_
                          refine lv_imul hx hb dL_drafts_659 ?_
                          refine lv_iadd hx hb dL_drafts_660 ?_
                          refine lv_iload hx hb dL_drafts_661 (lv_at hl 4 rfl) ?_
                          obtain ⟨g_110, hf⟩ := grd_e hf
                          refine w_iast B hw (i := 146) (kw146 _) g_110 dL_drafts_663 hf (fun M_111 H locs hw hf => ?_)
                          refine lv_aload hx hb dL_drafts_664 (lv_at hl 2 rfl) ?_
                          refine lv_bipush (v := 23) hx hb dL_drafts_666 (by decide) ?_
                          refine lv_iconst (v := 4) hx hb dL_drafts_668 (by decide) ?_
                          refine lv_aload hx hb dL_drafts_669 (lv_at hl 2 rfl) ?_
                          refine lv_iconst (v := 2) hx hb dL_drafts_671 (by decide) ?_
                          refine w_iald B hw (i := 146) (kw146 _) (by decide) dL_drafts_672 ?_
                          refine lv_imul hx hb dL_drafts_673 ?_
                          refine lv_iadd hx hb dL_drafts_674 ?_
                          refine lv_iload hx hb dL_drafts_675 (lv_at hl 5 rfl) ?_
                          obtain ⟨g_112, hf⟩ := grd_e hf
                          refine w_iast B hw (i := 146) (kw146 _) g_112 dL_drafts_677 hf (fun M_113 H locs hw hf => ?_)
                          refine lv_aload hx hb dL_drafts_678 (lv_at hl 2 rfl) ?_
                          refine lv_bipush (v := 24) hx hb dL_drafts_680 (by decide) ?_
                          refine lv_iconst (v := 4) hx hb dL_drafts_682 (by decide) ?_
                          refine lv_aload hx hb dL_drafts_683 (lv_at hl 2 rfl) ?_
                          refine lv_iconst (v := 2) hx hb dL_drafts_685 (by decide) ?_
                          refine w_iald B hw (i := 146) (kw146 _) (by decide) dL_drafts_686 ?_
                          refine lv_imul hx hb dL_drafts_687 ?_
                          refine lv_iadd hx hb dL_drafts_688 ?_
                          refine lv_iload hx hb dL_drafts_689 (lv_at hl 0 rfl) ?_
                          obtain ⟨g_114, hf⟩ := grd_e hf
                          refine w_iast B hw (i := 146) (kw146 _) g_114 dL_drafts_691 hf (fun M_115 H locs hw hf => ?_)
                          refine lv_aload hx hb dL_drafts_692 (lv_at hl 2 rfl) ?_
                          refine lv_iconst (v := 2) hx hb dL_drafts_694 (by decide) ?_
                          refine lv_dup2_11 hx hb dL_drafts_695 rfl rfl ?_
                          refine w_iald B hw (i := 146) (kw146 _) (by decide) dL_drafts_696 ?_
                          refine lv_iconst (v := 1) hx hb dL_drafts_697 (by decide) ?_
                          refine lv_iadd hx hb dL_drafts_698 ?_
                          refine w_iast B hw (i := 146) (kw146 _) (by decide) dL_drafts_699 hf (fun M_116 H locs hw hf => ?_)
                          refine lv_aload_n hx hb dL_drafts_700 rfl (lv_at hl 1 rfl) ?_
                          refine lv_iload hx hb dL_drafts_701 (lv_at hl 3 rfl) ?_
                          refine lv_iload hx hb dL_drafts_703 (lv_at hl 4 rfl) ?_
                          refine lv_iload hx hb dL_drafts_705 (lv_at hl 5 rfl) ?_
                          refine lv_iload hx hb dL_drafts_707 (lv_at hl 0 rfl) ?_
                          obtain ⟨r_118, M_119, h_117, hf⟩ := bm_e hf
                          refine w_wrap (n := 5) (M' := M_119) (v := r_118) (As := [.ref (X.2.2 0), .int r_2, .int r_8, .int r_79, .int v_81]) (rest := []) B T N9 hw (c_L_where l hfl _ X fu r_2 r_8 r_79 v_81 M_116 (r_118, M_119) h_117 _) km_L_202 kt_L_where ki_L kc_L_where ⟨by decide +kernel, by decide +kernel, by decide +kernel⟩ rfl hl.1 rfl rfl ⟨(Nat.le_of_ble_eq_true rfl), (Nat.le_of_ble_eq_true rfl)⟩ (Nat.le_of_ble_eq_true rfl) ⟨(Nat.le_of_ble_eq_true rfl), (Nat.le_of_ble_eq_true rfl)⟩ dL_drafts_709 rfl (fun H locs hw => ?_)
                          refine W.widen (k := 21) (n := 126) (by omega) (by omega) ?_
                          refine lv_aload hx hb dL_drafts_712 (lv_at hl 2 rfl) ?_
                          refine lv_iconst (v := 2) hx hb dL_drafts_714 (by decide) ?_
                          refine w_iald B hw (i := 146) (kw146 _) (by decide) dL_drafts_715 ?_
                          refine lv_icmp_ne (tgt := 723) hx hb dL_drafts_716 (by decide) (fun c_120 => ?_) (fun c_120 => ?_)
                          · have hf := ie_e hf c_120
                            refine lv_iconst (v := 0) hx hb dL_drafts_723 (by decide) ?_
                            refine W.widen (k := 73) (n := 438) (by omega) (by omega) ?_
                            cases hf
                            subst hQ
                            exact q_zret B hr hlk rfl hw rfl rfl dL_drafts_724
                          · have hf := it_e hf c_120
                            refine lv_iconst (v := 1) hx hb dL_drafts_719 (by decide) ?_
                            refine lv_goto (tgt := 724) hx hb dL_drafts_720 (by decide) ?_
                            refine W.widen (k := 73) (n := 438) (by omega) (by omega) ?_
                            cases hf
                            subst hQ
                            exact q_zret B hr hlk rfl hw rfl rfl dL_drafts_724
                        · have hf := it_e hf c_107
                          refine lv_aload_n hx hb dL_drafts_612 rfl (lv_at hl 1 rfl) ?_
                          refine lv_iload hx hb dL_drafts_613 (lv_at hl 3 rfl) ?_
                          refine lv_iload hx hb dL_drafts_615 (lv_at hl 4 rfl) ?_
                          refine lv_iload hx hb dL_drafts_617 (lv_at hl 5 rfl) ?_
                          refine lv_iload hx hb dL_drafts_619 (lv_at hl 0 rfl) ?_
                          obtain ⟨r_122, M_123, h_121, hf⟩ := bm_e hf
                          refine w_wrap (n := 5) (M' := M_123) (v := r_122) (As := [.ref (X.2.2 0), .int r_2, .int r_8, .int r_79, .int v_81]) (rest := []) B T N9 hw (c_L_where l hfl _ X fu r_2 r_8 r_79 v_81 M_105 (r_122, M_123) h_121 _) km_L_202 kt_L_where ki_L kc_L_where ⟨by decide +kernel, by decide +kernel, by decide +kernel⟩ rfl hl.1 rfl rfl ⟨(Nat.le_of_ble_eq_true rfl), (Nat.le_of_ble_eq_true rfl)⟩ (Nat.le_of_ble_eq_true rfl) ⟨(Nat.le_of_ble_eq_true rfl), (Nat.le_of_ble_eq_true rfl)⟩ dL_drafts_621 rfl (fun H locs hw => ?_)
                          refine W.widen (k := 21) (n := 126) (by omega) (by omega) ?_
                          refine lv_sipush (v := (-7300)) hx hb dL_drafts_624 (by decide) ?_
                          refine lv_icmp_ne (tgt := 634) hx hb dL_drafts_627 (by decide) (fun c_124 => ?_) (fun c_124 => ?_)
                          · have hf := ie_e hf c_124
                            refine lv_iconst (v := 0) hx hb dL_drafts_634 (by decide) ?_
                            refine W.widen (k := 73) (n := 438) (by omega) (by omega) ?_
                            cases hf
                            subst hQ
                            exact q_zret B hr hlk rfl hw rfl rfl dL_drafts_635
                          · have hf := it_e hf c_124
                            refine lv_iconst (v := 1) hx hb dL_drafts_630 (by decide) ?_
                            refine lv_goto (tgt := 635) hx hb dL_drafts_631 (by decide) ?_
                            refine W.widen (k := 73) (n := 438) (by omega) (by omega) ?_
                            cases hf
                            subst hQ
                            exact q_zret B hr hlk rfl hw rfl rfl dL_drafts_635
                      · have hf := ie_e hf c_106
                        refine lv_iconst (v := 0) hx hb dL_drafts_602 (by decide) ?_
                        refine W.widen (k := 73) (n := 438) (by omega) (by omega) ?_
                        cases hf
                        subst hQ
                        exact q_zret B hr hlk rfl hw rfl rfl dL_drafts_603
          refine lv_icmp_le (tgt := 482) hx hb dL_drafts_475 (by decide) (fun c_125 => ?_) (fun c_125 => ?_)
          · have hf := it_e hf c_125
            refine lv_iload_n hx hb dL_drafts_482 rfl (lv_at hl 6 rfl) ?_
            refine lv_iconst (v := 4) hx hb dL_drafts_483 (by decide) ?_
            refine lv_ishr hx hb dL_drafts_484 ?_
            refine lv_bipush (v := 9) hx hb dL_drafts_485 (by decide) ?_
            obtain ⟨r_127, h_126, hf⟩ := bd_e hf
            refine q_callSi (M' := M) (As := [.int (p3 >>> (4 &&& 31)), .int 9]) (rest := []) B hw (c_L_low l _ X fu (p3 >>> (4 &&& 31)) 9 M r_127 h_126 _) cs_L_130 rfl hl.1 rfl rfl ⟨(Nat.le_of_ble_eq_true rfl), (Nat.le_of_ble_eq_true rfl)⟩ (Nat.le_of_ble_eq_true rfl) ⟨(Nat.le_of_ble_eq_true rfl), (Nat.le_of_ble_eq_true rfl)⟩ dL_drafts_487 rfl (fun H locs hw => ?_)
            refine lv_iconst (v := 2) hx hb dL_drafts_490 (by decide) ?_
            refine lv_isub hx hb dL_drafts_491 ?_
            exact J492_80 (r_127 - 2) _ _ _ hw (lv_sub hl [3, 7, 2, 1, 0] rfl) hf
          · have hf := ie_e hf c_125
            refine lv_iconst (v := 0) hx hb dL_drafts_478 (by decide) ?_
            refine lv_goto (tgt := 492) hx hb dL_drafts_479 (by decide) ?_
            exact J492_80 0 _ _ _ hw (lv_sub hl [3, 7, 2, 1, 0] rfl) hf
      · have hf := ie_e hf c_9
        refine lv_iload_n hx hb dL_drafts_214 rfl (lv_at hl 5 rfl) ?_
        refine lv_aload hx hb dL_drafts_215 (lv_at hl 6 rfl) ?_
        refine lv_iconst (v := 0) hx hb dL_drafts_217 (by decide) ?_
        refine w_iald B hw (i := 146) (kw146 _) (by decide) dL_drafts_218 ?_
        obtain ⟨r_129, h_128, hf⟩ := bd_e hf
        refine q_callSi (M' := M) (As := [.int p3, .int (M 146 0)]) (rest := []) B hw (c_L_low l _ X fu p3 (M 146 0) M r_129 h_128 _) cs_L_130 rfl hl.1 rfl rfl ⟨(Nat.le_of_ble_eq_true rfl), (Nat.le_of_ble_eq_true rfl)⟩ (Nat.le_of_ble_eq_true rfl) ⟨(Nat.le_of_ble_eq_true rfl), (Nat.le_of_ble_eq_true rfl)⟩ dL_drafts_219 rfl (fun H locs hw => ?_)
        refine lv_istore (lv' := [(7, .int r_129), (6, .int r_8), (5, .int r_2), (0, .ref (X.2.2 0)), (1, .int p1), (2, .int p2), (3, .int p3), (4, .ref (X.2.2 146))]) hx hb dL_drafts_222 hl (by decide) rfl (fun ls hl => ?_)
        refine lv_iload_n hx hb dL_drafts_224 rfl (lv_at hl 6 rfl) ?_
        refine lv_iconst (v := 4) hx hb dL_drafts_225 (by decide) ?_
        refine lv_ishr hx hb dL_drafts_226 ?_
        refine lv_aload hx hb dL_drafts_227 (lv_at hl 7 rfl) ?_
        refine lv_bipush (v := 6) hx hb dL_drafts_229 (by decide) ?_
        refine lv_iload hx hb dL_drafts_231 (lv_at hl 0 rfl) ?_
        refine lv_iadd hx hb dL_drafts_233 ?_
        obtain ⟨g_130, hf⟩ := grd_e hf
        refine w_iald B hw (i := 146) (kw146 _) g_130 dL_drafts_234 ?_
        refine q_callSi (M' := M) (As := [.int (M 146 (6 + r_129).toNatClampNeg)]) (rest := [.int (p3 >>> (4 &&& 31))]) B hw (c_L_columns l _ X (M 146 (6 + r_129).toNatClampNeg) _ rfl M _) cs_L_125 rfl hl.1 rfl rfl ⟨(Nat.le_of_ble_eq_true rfl), (Nat.le_of_ble_eq_true rfl)⟩ (Nat.le_of_ble_eq_true rfl) ⟨(Nat.le_of_ble_eq_true rfl), (Nat.le_of_ble_eq_true rfl)⟩ dL_drafts_235 rfl (fun H locs hw => ?_)
        obtain ⟨r_133, h_132, hf⟩ := bd_e hf
        refine q_callSi (M' := M) (As := [.int (p3 >>> (4 &&& 31)), .int (f_L_columns (M 146 (6 + r_129).toNatClampNeg))]) (rest := []) B hw (c_L_low l _ X fu (p3 >>> (4 &&& 31)) (f_L_columns (M 146 (6 + r_129).toNatClampNeg)) M r_133 h_132 _) cs_L_130 rfl hl.1 rfl rfl ⟨(Nat.le_of_ble_eq_true rfl), (Nat.le_of_ble_eq_true rfl)⟩ (Nat.le_of_ble_eq_true rfl) ⟨(Nat.le_of_ble_eq_true rfl), (Nat.le_of_ble_eq_true rfl)⟩ dL_drafts_238 rfl (fun H locs hw => ?_)
        refine lv_istore (lv' := [(8, .int r_133), (7, .int r_129), (6, .int r_8), (5, .int r_2), (0, .ref (X.2.2 0)), (1, .int p1), (2, .int p2), (3, .int p3), (4, .ref (X.2.2 146))]) hx hb dL_drafts_241 hl (by decide) rfl (fun ls hl => ?_)
        refine lv_aload_n hx hb dL_drafts_243 rfl (lv_at hl 4 rfl) ?_
        refine lv_iload hx hb dL_drafts_244 (lv_at hl 3 rfl) ?_
        refine lv_aload hx hb dL_drafts_246 (lv_at hl 8 rfl) ?_
        refine lv_bipush (v := 6) hx hb dL_drafts_248 (by decide) ?_
        refine lv_iload hx hb dL_drafts_250 (lv_at hl 3 rfl) ?_
        refine lv_iadd hx hb dL_drafts_252 ?_
        refine w_iald B hw (i := 146) (kw146 _) g_5 dL_drafts_253 ?_
        refine q_callSi (M' := M) (As := [.int (M 146 (6 + r_2).toNatClampNeg)]) (rest := [.int r_2, .ref (X.2.2 0)]) B hw (c_L_columns l _ X (M 146 (6 + r_2).toNatClampNeg) _ rfl M _) cs_L_125 rfl hl.1 rfl rfl ⟨(Nat.le_of_ble_eq_true rfl), (Nat.le_of_ble_eq_true rfl)⟩ (Nat.le_of_ble_eq_true rfl) ⟨(Nat.le_of_ble_eq_true rfl), (Nat.le_of_ble_eq_true rfl)⟩ dL_drafts_254 rfl (fun H locs hw => ?_)
        refine lv_iload hx hb dL_drafts_257 (lv_at hl 1 rfl) ?_
        refine lv_iload hx hb dL_drafts_259 (lv_at hl 0 rfl) ?_
        obtain ⟨r_136, M_137, h_135, hf⟩ := bm_e hf
        refine w_wrap (n := 5) (M' := M_137) (v := r_136) (As := [.ref (X.2.2 0), .int r_2, .int (f_L_columns (M 146 (6 + r_2).toNatClampNeg)), .int r_129, .int r_133]) (rest := []) B T N9 hw (c_L_link l hfl _ X fu r_2 (f_L_columns (M 146 (6 + r_2).toNatClampNeg)) r_129 r_133 M (r_136, M_137) h_135 _) km_L_200 kt_L_link ki_L kc_L_link ⟨by decide +kernel, by decide +kernel, by decide +kernel⟩ rfl hl.1 rfl rfl ⟨(Nat.le_of_ble_eq_true rfl), (Nat.le_of_ble_eq_true rfl)⟩ (Nat.le_of_ble_eq_true rfl) ⟨(Nat.le_of_ble_eq_true rfl), (Nat.le_of_ble_eq_true rfl)⟩ dL_drafts_261 rfl (fun H locs hw => ?_)
        refine W.widen (k := 3) (n := 18) (by omega) (by omega) ?_
        refine lv_sipush (v := (-7100)) hx hb dL_drafts_264 (by decide) ?_
        refine lv_icmp_ne (tgt := 305) hx hb dL_drafts_267 (by decide) (fun c_138 => ?_) (fun c_138 => ?_)
        · have hf := ie_e hf c_138
          refine lv_iconst (v := 0) hx hb dL_drafts_305 (by decide) ?_
          refine W.widen (k := 73) (n := 438) (by omega) (by omega) ?_
          cases hf
          subst hQ
          exact q_zret B hr hlk rfl hw rfl rfl dL_drafts_306
        · have hf := it_e hf c_138
          refine lv_aload_n hx hb dL_drafts_270 rfl (lv_at hl 4 rfl) ?_
          refine lv_iload hx hb dL_drafts_271 (lv_at hl 3 rfl) ?_
          refine lv_iload hx hb dL_drafts_273 (lv_at hl 2 rfl) ?_
          refine lv_iload hx hb dL_drafts_275 (lv_at hl 1 rfl) ?_
          refine lv_iconst (v := (-1)) hx hb dL_drafts_277 (by decide) ?_
          obtain ⟨r_140, M_141, h_139, hf⟩ := bm_e hf
          refine w_wrap (n := 5) (M' := M_141) (v := r_140) (As := [.ref (X.2.2 0), .int r_2, .int r_8, .int r_129, .int (-1)]) (rest := []) B T N9 hw (c_L_link l hfl _ X fu r_2 r_8 r_129 (-1) M_137 (r_140, M_141) h_139 _) km_L_200 kt_L_link ki_L kc_L_link ⟨by decide +kernel, by decide +kernel, by decide +kernel⟩ rfl hl.1 rfl rfl ⟨(Nat.le_of_ble_eq_true rfl), (Nat.le_of_ble_eq_true rfl)⟩ (Nat.le_of_ble_eq_true rfl) ⟨(Nat.le_of_ble_eq_true rfl), (Nat.le_of_ble_eq_true rfl)⟩ dL_drafts_278 rfl (fun H locs hw => ?_)
          refine W.widen (k := 6) (n := 36) (by omega) (by omega) ?_
          refine lv_sipush (v := (-7100)) hx hb dL_drafts_281 (by decide) ?_
          refine lv_icmp_ne (tgt := 305) hx hb dL_drafts_284 (by decide) (fun c_142 => ?_) (fun c_142 => ?_)
          · have hf := ie_e hf c_142
            refine lv_iconst (v := 0) hx hb dL_drafts_305 (by decide) ?_
            refine W.widen (k := 73) (n := 438) (by omega) (by omega) ?_
            cases hf
            subst hQ
            exact q_zret B hr hlk rfl hw rfl rfl dL_drafts_306
          · have hf := it_e hf c_142
            refine lv_aload_n hx hb dL_drafts_287 rfl (lv_at hl 4 rfl) ?_
            refine lv_iload hx hb dL_drafts_288 (lv_at hl 3 rfl) ?_
            refine lv_iload hx hb dL_drafts_290 (lv_at hl 2 rfl) ?_
            refine lv_iload hx hb dL_drafts_292 (lv_at hl 3 rfl) ?_
            refine lv_iload hx hb dL_drafts_294 (lv_at hl 2 rfl) ?_
            obtain ⟨r_144, M_145, h_143, hf⟩ := bm_e hf
            refine w_wrap (n := 5) (M' := M_145) (v := r_144) (As := [.ref (X.2.2 0), .int r_2, .int r_8, .int r_2, .int r_8]) (rest := []) B T N9 hw (c_L_link l hfl _ X fu r_2 r_8 r_2 r_8 M_141 (r_144, M_145) h_143 _) km_L_200 kt_L_link ki_L kc_L_link ⟨by decide +kernel, by decide +kernel, by decide +kernel⟩ rfl hl.1 rfl rfl ⟨(Nat.le_of_ble_eq_true rfl), (Nat.le_of_ble_eq_true rfl)⟩ (Nat.le_of_ble_eq_true rfl) ⟨(Nat.le_of_ble_eq_true rfl), (Nat.le_of_ble_eq_true rfl)⟩ dL_drafts_296 rfl (fun H locs hw => ?_)
            refine W.widen (k := 9) (n := 54) (by omega) (by omega) ?_
            refine lv_sipush (v := (-7200)) hx hb dL_drafts_299 (by decide) ?_
            refine lv_icmp_eq (tgt := 307) hx hb dL_drafts_302 (by decide) (fun c_146 => ?_) (fun c_146 => ?_)
            · have hf := it_e hf c_146
              refine lv_iload hx hb dL_drafts_307 (lv_at hl 1 rfl) ?_
              refine lv_iload hx hb dL_drafts_309 (lv_at hl 3 rfl) ?_
              refine lv_icmp_gt (tgt := 338) hx hb dL_drafts_311 (by decide) (fun c_147 => ?_) (fun c_147 => ?_)
              · have hf := it_e hf c_147
                refine lv_aload hx hb dL_drafts_338 (lv_at hl 8 rfl) ?_
                refine lv_iconst (v := 1) hx hb dL_drafts_340 (by decide) ?_
                refine w_iald B hw (i := 146) (kw146 _) (by decide) dL_drafts_341 ?_
                refine lv_iconst (v := 3) hx hb dL_drafts_342 (by decide) ?_
                refine lv_icmp_ne (tgt := 370) hx hb dL_drafts_343 (by decide) (fun c_148 => ?_) (fun c_148 => ?_)
                · have hf := ie_e hf c_148
                  refine lv_aload hx hb dL_drafts_370 (lv_at hl 8 rfl) ?_
                  refine lv_bipush (v := 9) hx hb dL_drafts_372 (by decide) ?_
                  refine lv_iconst (v := 4) hx hb dL_drafts_374 (by decide) ?_
                  refine lv_aload hx hb dL_drafts_375 (lv_at hl 8 rfl) ?_
                  refine lv_iconst (v := 1) hx hb dL_drafts_377 (by decide) ?_
                  refine w_iald B hw (i := 146) (kw146 _) (by decide) dL_drafts_378 ?_
                  refine lv_imul hx hb dL_drafts_379 ?_
                  refine lv_iadd hx hb dL_drafts_380 ?_
                  refine lv_iload hx hb dL_drafts_381 (lv_at hl 3 rfl) ?_
                  obtain ⟨g_149, hf⟩ := grd_e hf
                  refine w_iast B hw (i := 146) (kw146 _) g_149 dL_drafts_383 hf (fun M_150 H locs hw hf => ?_)
                  refine lv_aload hx hb dL_drafts_384 (lv_at hl 8 rfl) ?_
                  refine lv_bipush (v := 10) hx hb dL_drafts_386 (by decide) ?_
                  refine lv_iconst (v := 4) hx hb dL_drafts_388 (by decide) ?_
                  refine lv_aload hx hb dL_drafts_389 (lv_at hl 8 rfl) ?_
                  refine lv_iconst (v := 1) hx hb dL_drafts_391 (by decide) ?_
                  refine w_iald B hw (i := 146) (kw146 _) (by decide) dL_drafts_392 ?_
                  refine lv_imul hx hb dL_drafts_393 ?_
                  refine lv_iadd hx hb dL_drafts_394 ?_
                  refine lv_iload hx hb dL_drafts_395 (lv_at hl 2 rfl) ?_
                  obtain ⟨g_151, hf⟩ := grd_e hf
                  refine w_iast B hw (i := 146) (kw146 _) g_151 dL_drafts_397 hf (fun M_152 H locs hw hf => ?_)
                  refine lv_aload hx hb dL_drafts_398 (lv_at hl 8 rfl) ?_
                  refine lv_bipush (v := 11) hx hb dL_drafts_400 (by decide) ?_
                  refine lv_iconst (v := 4) hx hb dL_drafts_402 (by decide) ?_
                  refine lv_aload hx hb dL_drafts_403 (lv_at hl 8 rfl) ?_
                  refine lv_iconst (v := 1) hx hb dL_drafts_405 (by decide) ?_
                  refine w_iald B hw (i := 146) (kw146 _) (by decide) dL_drafts_406 ?_
                  refine lv_imul hx hb dL_drafts_407 ?_
                  refine lv_iadd hx hb dL_drafts_408 ?_
                  refine lv_iload hx hb dL_drafts_409 (lv_at hl 1 rfl) ?_
                  obtain ⟨g_153, hf⟩ := grd_e hf
                  refine w_iast B hw (i := 146) (kw146 _) g_153 dL_drafts_411 hf (fun M_154 H locs hw hf => ?_)
                  refine lv_aload hx hb dL_drafts_412 (lv_at hl 8 rfl) ?_
                  refine lv_bipush (v := 12) hx hb dL_drafts_414 (by decide) ?_
                  refine lv_iconst (v := 4) hx hb dL_drafts_416 (by decide) ?_
                  refine lv_aload hx hb dL_drafts_417 (lv_at hl 8 rfl) ?_
                  refine lv_iconst (v := 1) hx hb dL_drafts_419 (by decide) ?_
                  refine w_iald B hw (i := 146) (kw146 _) (by decide) dL_drafts_420 ?_
                  refine lv_imul hx hb dL_drafts_421 ?_
                  refine lv_iadd hx hb dL_drafts_422 ?_
                  refine lv_iload hx hb dL_drafts_423 (lv_at hl 0 rfl) ?_
                  obtain ⟨g_155, hf⟩ := grd_e hf
                  refine w_iast B hw (i := 146) (kw146 _) g_155 dL_drafts_425 hf (fun M_156 H locs hw hf => ?_)
                  refine lv_aload hx hb dL_drafts_426 (lv_at hl 8 rfl) ?_
                  refine lv_iconst (v := 1) hx hb dL_drafts_428 (by decide) ?_
                  refine lv_dup2_11 hx hb dL_drafts_429 rfl rfl ?_
                  refine w_iald B hw (i := 146) (kw146 _) (by decide) dL_drafts_430 ?_
                  refine lv_iconst (v := 1) hx hb dL_drafts_431 (by decide) ?_
                  refine lv_iadd hx hb dL_drafts_432 ?_
                  refine w_iast B hw (i := 146) (kw146 _) (by decide) dL_drafts_433 hf (fun M_157 H locs hw hf => ?_)
                  refine lv_aload_n hx hb dL_drafts_434 rfl (lv_at hl 4 rfl) ?_
                  refine lv_iload hx hb dL_drafts_435 (lv_at hl 3 rfl) ?_
                  refine lv_iload hx hb dL_drafts_437 (lv_at hl 2 rfl) ?_
                  refine lv_iload hx hb dL_drafts_439 (lv_at hl 1 rfl) ?_
                  refine lv_iload hx hb dL_drafts_441 (lv_at hl 0 rfl) ?_
                  obtain ⟨r_159, M_160, h_158, hf⟩ := bm_e hf
                  refine w_wrap (n := 5) (M' := M_160) (v := r_159) (As := [.ref (X.2.2 0), .int r_2, .int r_8, .int r_129, .int r_133]) (rest := []) B T N9 hw (c_L_link l hfl _ X fu r_2 r_8 r_129 r_133 M_157 (r_159, M_160) h_158 _) km_L_200 kt_L_link ki_L kc_L_link ⟨by decide +kernel, by decide +kernel, by decide +kernel⟩ rfl hl.1 rfl rfl ⟨(Nat.le_of_ble_eq_true rfl), (Nat.le_of_ble_eq_true rfl)⟩ (Nat.le_of_ble_eq_true rfl) ⟨(Nat.le_of_ble_eq_true rfl), (Nat.le_of_ble_eq_true rfl)⟩ dL_drafts_443 rfl (fun H locs hw => ?_)
                  refine W.widen (k := 12) (n := 72) (by omega) (by omega) ?_
                  refine lv_aload hx hb dL_drafts_446 (lv_at hl 8 rfl) ?_
                  refine lv_iconst (v := 1) hx hb dL_drafts_448 (by decide) ?_
                  refine w_iald B hw (i := 146) (kw146 _) (by decide) dL_drafts_449 ?_
                  refine lv_icmp_ne (tgt := 457) hx hb dL_drafts_450 (by decide) (fun c_161 => ?_) (fun c_161 => ?_)
                  · have hf := ie_e hf c_161
                    refine lv_iconst (v := 0) hx hb dL_drafts_457 (by decide) ?_
                    refine W.widen (k := 73) (n := 438) (by omega) (by omega) ?_
                    cases hf
                    subst hQ
                    exact q_zret B hr hlk rfl hw rfl rfl dL_drafts_458
                  · have hf := it_e hf c_161
                    refine lv_iconst (v := 1) hx hb dL_drafts_453 (by decide) ?_
                    refine lv_goto (tgt := 458) hx hb dL_drafts_454 (by decide) ?_
                    refine W.widen (k := 73) (n := 438) (by omega) (by omega) ?_
                    cases hf
                    subst hQ
                    exact q_zret B hr hlk rfl hw rfl rfl dL_drafts_458
                · have hf := it_e hf c_148
                  refine lv_aload_n hx hb dL_drafts_346 rfl (lv_at hl 4 rfl) ?_
                  refine lv_iload hx hb dL_drafts_347 (lv_at hl 3 rfl) ?_
                  refine lv_iload hx hb dL_drafts_349 (lv_at hl 2 rfl) ?_
                  refine lv_iload hx hb dL_drafts_351 (lv_at hl 1 rfl) ?_
                  refine lv_iload hx hb dL_drafts_353 (lv_at hl 0 rfl) ?_
                  obtain ⟨r_163, M_164, h_162, hf⟩ := bm_e hf
                  refine w_wrap (n := 5) (M' := M_164) (v := r_163) (As := [.ref (X.2.2 0), .int r_2, .int r_8, .int r_129, .int r_133]) (rest := []) B T N9 hw (c_L_link l hfl _ X fu r_2 r_8 r_129 r_133 M_145 (r_163, M_164) h_162 _) km_L_200 kt_L_link ki_L kc_L_link ⟨by decide +kernel, by decide +kernel, by decide +kernel⟩ rfl hl.1 rfl rfl ⟨(Nat.le_of_ble_eq_true rfl), (Nat.le_of_ble_eq_true rfl)⟩ (Nat.le_of_ble_eq_true rfl) ⟨(Nat.le_of_ble_eq_true rfl), (Nat.le_of_ble_eq_true rfl)⟩ dL_drafts_355 rfl (fun H locs hw => ?_)
                  refine W.widen (k := 12) (n := 72) (by omega) (by omega) ?_
                  refine lv_sipush (v := (-7300)) hx hb dL_drafts_358 (by decide) ?_
                  refine lv_icmp_ne (tgt := 368) hx hb dL_drafts_361 (by decide) (fun c_165 => ?_) (fun c_165 => ?_)
                  · have hf := ie_e hf c_165
                    refine lv_iconst (v := 0) hx hb dL_drafts_368 (by decide) ?_
                    refine W.widen (k := 73) (n := 438) (by omega) (by omega) ?_
                    cases hf
                    subst hQ
                    exact q_zret B hr hlk rfl hw rfl rfl dL_drafts_369
                  · have hf := it_e hf c_165
                    refine lv_iconst (v := 1) hx hb dL_drafts_364 (by decide) ?_
                    refine lv_goto (tgt := 369) hx hb dL_drafts_365 (by decide) ?_
                    refine W.widen (k := 73) (n := 438) (by omega) (by omega) ?_
                    cases hf
                    subst hQ
                    exact q_zret B hr hlk rfl hw rfl rfl dL_drafts_369
              · have hf := ie_e hf c_147
                refine lv_aload_n hx hb dL_drafts_314 rfl (lv_at hl 4 rfl) ?_
                refine lv_iload hx hb dL_drafts_315 (lv_at hl 3 rfl) ?_
                refine lv_iload hx hb dL_drafts_317 (lv_at hl 2 rfl) ?_
                refine lv_iload hx hb dL_drafts_319 (lv_at hl 1 rfl) ?_
                refine lv_iload hx hb dL_drafts_321 (lv_at hl 0 rfl) ?_
                obtain ⟨r_167, M_168, h_166, hf⟩ := bm_e hf
                refine w_wrap (n := 5) (M' := M_168) (v := r_167) (As := [.ref (X.2.2 0), .int r_2, .int r_8, .int r_129, .int r_133]) (rest := []) B T N9 hw (c_L_link l hfl _ X fu r_2 r_8 r_129 r_133 M_145 (r_167, M_168) h_166 _) km_L_200 kt_L_link ki_L kc_L_link ⟨by decide +kernel, by decide +kernel, by decide +kernel⟩ rfl hl.1 rfl rfl ⟨(Nat.le_of_ble_eq_true rfl), (Nat.le_of_ble_eq_true rfl)⟩ (Nat.le_of_ble_eq_true rfl) ⟨(Nat.le_of_ble_eq_true rfl), (Nat.le_of_ble_eq_true rfl)⟩ dL_drafts_323 rfl (fun H locs hw => ?_)
                refine W.widen (k := 12) (n := 72) (by omega) (by omega) ?_
                refine lv_sipush (v := (-7200)) hx hb dL_drafts_326 (by decide) ?_
                refine lv_icmp_ne (tgt := 336) hx hb dL_drafts_329 (by decide) (fun c_169 => ?_) (fun c_169 => ?_)
                · have hf := ie_e hf c_169
                  refine lv_iconst (v := 0) hx hb dL_drafts_336 (by decide) ?_
                  refine W.widen (k := 73) (n := 438) (by omega) (by omega) ?_
                  cases hf
                  subst hQ
                  exact q_zret B hr hlk rfl hw rfl rfl dL_drafts_337
                · have hf := it_e hf c_169
                  refine lv_iconst (v := 1) hx hb dL_drafts_332 (by decide) ?_
                  refine lv_goto (tgt := 337) hx hb dL_drafts_333 (by decide) ?_
                  refine W.widen (k := 73) (n := 438) (by omega) (by omega) ?_
                  cases hf
                  subst hQ
                  exact q_zret B hr hlk rfl hw rfl rfl dL_drafts_337
            · have hf := ie_e hf c_146
              refine lv_iconst (v := 0) hx hb dL_drafts_305 (by decide) ?_
              refine W.widen (k := 73) (n := 438) (by omega) (by omega) ?_
              cases hf
              subst hQ
              exact q_zret B hr hlk rfl hw rfl rfl dL_drafts_306
    · have hf := it_e hf c_4
      refine lv_aload_n hx hb dL_drafts_126 rfl (lv_at hl 1 rfl) ?_
      refine lv_iload hx hb dL_drafts_127 (lv_at hl 0 rfl) ?_
      refine lv_iconst (v := 0) hx hb dL_drafts_129 (by decide) ?_
      refine lv_iconst (v := 0) hx hb dL_drafts_130 (by decide) ?_
      refine lv_iconst (v := 0) hx hb dL_drafts_131 (by decide) ?_
      obtain ⟨r_171, M_172, h_170, hf⟩ := bm_e hf
      refine w_wrap (n := 5) (M' := M_172) (v := r_171) (As := [.ref (X.2.2 0), .int r_2, .int 0, .int 0, .int 0]) (rest := []) B T N9 hw (c_L_link l hfl _ X fu r_2 0 0 0 M (r_171, M_172) h_170 _) km_L_200 kt_L_link ki_L kc_L_link ⟨by decide +kernel, by decide +kernel, by decide +kernel⟩ rfl hl.1 rfl rfl ⟨(Nat.le_of_ble_eq_true rfl), (Nat.le_of_ble_eq_true rfl)⟩ (Nat.le_of_ble_eq_true rfl) ⟨(Nat.le_of_ble_eq_true rfl), (Nat.le_of_ble_eq_true rfl)⟩ dL_drafts_132 rfl (fun H locs hw => ?_)
      refine W.widen (k := 3) (n := 18) (by omega) (by omega) ?_
      refine lv_sipush (v := (-7100)) hx hb dL_drafts_135 (by decide) ?_
      refine lv_icmp_ne (tgt := 188) hx hb dL_drafts_138 (by decide) (fun c_173 => ?_) (fun c_173 => ?_)
      · have hf := ie_e hf c_173
        refine lv_iconst (v := 0) hx hb dL_drafts_188 (by decide) ?_
        refine W.widen (k := 73) (n := 438) (by omega) (by omega) ?_
        cases hf
        subst hQ
        exact q_zret B hr hlk rfl hw rfl rfl dL_drafts_189
      · have hf := it_e hf c_173
        refine lv_aload_n hx hb dL_drafts_141 rfl (lv_at hl 1 rfl) ?_
        refine lv_iload hx hb dL_drafts_142 (lv_at hl 0 rfl) ?_
        refine lv_iconst (v := 0) hx hb dL_drafts_144 (by decide) ?_
        refine lv_bipush (v := 9) hx hb dL_drafts_145 (by decide) ?_
        refine lv_iconst (v := 0) hx hb dL_drafts_147 (by decide) ?_
        obtain ⟨r_175, M_176, h_174, hf⟩ := bm_e hf
        refine w_wrap (n := 5) (M' := M_176) (v := r_175) (As := [.ref (X.2.2 0), .int r_2, .int 0, .int 9, .int 0]) (rest := []) B T N9 hw (c_L_where l hfl _ X fu r_2 0 9 0 M_172 (r_175, M_176) h_174 _) km_L_202 kt_L_where ki_L kc_L_where ⟨by decide +kernel, by decide +kernel, by decide +kernel⟩ rfl hl.1 rfl rfl ⟨(Nat.le_of_ble_eq_true rfl), (Nat.le_of_ble_eq_true rfl)⟩ (Nat.le_of_ble_eq_true rfl) ⟨(Nat.le_of_ble_eq_true rfl), (Nat.le_of_ble_eq_true rfl)⟩ dL_drafts_148 rfl (fun H locs hw => ?_)
        refine W.widen (k := 6) (n := 36) (by omega) (by omega) ?_
        refine lv_sipush (v := (-7100)) hx hb dL_drafts_151 (by decide) ?_
        refine lv_icmp_ne (tgt := 188) hx hb dL_drafts_154 (by decide) (fun c_177 => ?_) (fun c_177 => ?_)
        · have hf := ie_e hf c_177
          refine lv_iconst (v := 0) hx hb dL_drafts_188 (by decide) ?_
          refine W.widen (k := 73) (n := 438) (by omega) (by omega) ?_
          cases hf
          subst hQ
          exact q_zret B hr hlk rfl hw rfl rfl dL_drafts_189
        · have hf := it_e hf c_177
          refine lv_aload_n hx hb dL_drafts_157 rfl (lv_at hl 1 rfl) ?_
          refine lv_iload hx hb dL_drafts_158 (lv_at hl 0 rfl) ?_
          refine lv_iconst (v := 0) hx hb dL_drafts_160 (by decide) ?_
          obtain ⟨r_179, M_180, h_178, hf⟩ := bm_e hf
          refine w_wrap (n := 3) (M' := M_180) (v := r_179) (As := [.ref (X.2.2 0), .int r_2, .int 0]) (rest := []) B T N9 hw (c_L_out l hfl _ X fu r_2 0 M_176 (r_179, M_180) h_178 _) km_L_204 kt_L_out ki_L kc_L_out ⟨by decide +kernel, by decide +kernel, by decide +kernel⟩ rfl hl.1 rfl rfl ⟨(Nat.le_of_ble_eq_true rfl), (Nat.le_of_ble_eq_true rfl)⟩ (Nat.le_of_ble_eq_true rfl) ⟨(Nat.le_of_ble_eq_true rfl), (Nat.le_of_ble_eq_true rfl)⟩ dL_drafts_161 rfl (fun H locs hw => ?_)
          refine W.widen (k := 8) (n := 48) (by omega) (by omega) ?_
          refine lv_sipush (v := (-7100)) hx hb dL_drafts_164 (by decide) ?_
          refine lv_icmp_ne (tgt := 188) hx hb dL_drafts_167 (by decide) (fun c_181 => ?_) (fun c_181 => ?_)
          · have hf := ie_e hf c_181
            refine lv_iconst (v := 0) hx hb dL_drafts_188 (by decide) ?_
            refine W.widen (k := 73) (n := 438) (by omega) (by omega) ?_
            cases hf
            subst hQ
            exact q_zret B hr hlk rfl hw rfl rfl dL_drafts_189
          · have hf := it_e hf c_181
            refine lv_aload_n hx hb dL_drafts_170 rfl (lv_at hl 1 rfl) ?_
            refine lv_iconst (v := (-1)) hx hb dL_drafts_171 (by decide) ?_
            refine lv_iconst (v := 0) hx hb dL_drafts_172 (by decide) ?_
            refine lv_iconst (v := 0) hx hb dL_drafts_173 (by decide) ?_
            refine lv_iconst (v := 0) hx hb dL_drafts_174 (by decide) ?_
            obtain ⟨r_183, M_184, h_182, hf⟩ := bm_e hf
            refine w_wrap (n := 5) (M' := M_184) (v := r_183) (As := [.ref (X.2.2 0), .int (-1), .int 0, .int 0, .int 0]) (rest := []) B T N9 hw (c_L_where l hfl _ X fu (-1) 0 0 0 M_180 (r_183, M_184) h_182 _) km_L_202 kt_L_where ki_L kc_L_where ⟨by decide +kernel, by decide +kernel, by decide +kernel⟩ rfl hl.1 rfl rfl ⟨(Nat.le_of_ble_eq_true rfl), (Nat.le_of_ble_eq_true rfl)⟩ (Nat.le_of_ble_eq_true rfl) ⟨(Nat.le_of_ble_eq_true rfl), (Nat.le_of_ble_eq_true rfl)⟩ dL_drafts_175 rfl (fun H locs hw => ?_)
            refine W.widen (k := 11) (n := 66) (by omega) (by omega) ?_
            refine lv_sipush (v := (-7100)) hx hb dL_drafts_178 (by decide) ?_
            refine lv_icmp_ne (tgt := 188) hx hb dL_drafts_181 (by decide) (fun c_185 => ?_) (fun c_185 => ?_)
            · have hf := ie_e hf c_185
              refine lv_iconst (v := 0) hx hb dL_drafts_188 (by decide) ?_
              refine W.widen (k := 73) (n := 438) (by omega) (by omega) ?_
              cases hf
              subst hQ
              exact q_zret B hr hlk rfl hw rfl rfl dL_drafts_189
            · have hf := it_e hf c_185
              refine lv_iconst (v := 1) hx hb dL_drafts_184 (by decide) ?_
              refine lv_goto (tgt := 189) hx hb dL_drafts_185 (by decide) ?_
              refine W.widen (k := 73) (n := 438) (by omega) (by omega) ?_
              cases hf
              subst hQ
              exact q_zret B hr hlk rfl hw rfl rfl dL_drafts_189
  · have hf := ie_e hf c_3
    refine lv_iload_n hx hb dL_drafts_17 rfl (lv_at hl 4 rfl) ?_
    refine lv_bipush (v := 6) hx hb dL_drafts_18 (by decide) ?_
    obtain ⟨r_187, h_186, hf⟩ := bd_e hf
    refine q_callSi (M' := M) (As := [.int p3, .int 6]) (rest := []) B hw (c_L_low l _ X fu p3 6 M r_187 h_186 _) cs_L_130 rfl hl.1 rfl rfl ⟨(Nat.le_of_ble_eq_true rfl), (Nat.le_of_ble_eq_true rfl)⟩ (Nat.le_of_ble_eq_true rfl) ⟨(Nat.le_of_ble_eq_true rfl), (Nat.le_of_ble_eq_true rfl)⟩ dL_drafts_20 rfl (fun H locs hw => ?_)
    refine lv_istore (lv' := [(6, .int r_187), (5, .int r_2), (0, .ref (X.2.2 0)), (1, .int p1), (2, .int p2), (3, .int p3), (4, .ref (X.2.2 146))]) hx hb dL_drafts_23 hl (by decide) rfl (fun ls hl => ?_)
    refine lv_aload_n hx hb dL_drafts_25 rfl (lv_at hl 2 rfl) ?_
    refine lv_bipush (v := 6) hx hb dL_drafts_26 (by decide) ?_
    obtain ⟨r_189, M_190, h_188, hf⟩ := bm_e hf
    refine w_wrap (n := 2) (M' := M_190) (v := r_189) (As := [.ref (X.2.2 0), .int 6]) (rest := []) B T N9 hw (c_L_seat l hfl _ X fu 6 M (r_189, M_190) h_188 _) km_L_198 kt_L_seat ki_L kc_L_seat ⟨by decide +kernel, by decide +kernel, by decide +kernel⟩ rfl hl.1 rfl rfl ⟨(Nat.le_of_ble_eq_true rfl), (Nat.le_of_ble_eq_true rfl)⟩ (Nat.le_of_ble_eq_true rfl) ⟨(Nat.le_of_ble_eq_true rfl), (Nat.le_of_ble_eq_true rfl)⟩ dL_drafts_28 rfl (fun H locs hw => ?_)
    refine W.widen (k := 2) (n := 12) (by omega) (by omega) ?_
    refine lv_sipush (v := (-7100)) hx hb dL_drafts_31 (by decide) ?_
    refine lv_icmp_ne (tgt := 48) hx hb dL_drafts_34 (by decide) (fun c_191 => ?_) (fun c_191 => ?_)
    · have hf := ie_e hf c_191
      refine lv_iconst (v := 0) hx hb dL_drafts_48 (by decide) ?_
      refine W.widen (k := 73) (n := 438) (by omega) (by omega) ?_
      cases hf
      subst hQ
      exact q_zret B hr hlk rfl hw rfl rfl dL_drafts_49
    · have hf := it_e hf c_191
      refine lv_aload_n hx hb dL_drafts_37 rfl (lv_at hl 2 rfl) ?_
      refine lv_iconst (v := (-1)) hx hb dL_drafts_38 (by decide) ?_
      obtain ⟨r_193, M_194, h_192, hf⟩ := bm_e hf
      refine w_wrap (n := 2) (M' := M_194) (v := r_193) (As := [.ref (X.2.2 0), .int (-1)]) (rest := []) B T N9 hw (c_L_seat l hfl _ X fu (-1) M_190 (r_193, M_194) h_192 _) km_L_198 kt_L_seat ki_L kc_L_seat ⟨by decide +kernel, by decide +kernel, by decide +kernel⟩ rfl hl.1 rfl rfl ⟨(Nat.le_of_ble_eq_true rfl), (Nat.le_of_ble_eq_true rfl)⟩ (Nat.le_of_ble_eq_true rfl) ⟨(Nat.le_of_ble_eq_true rfl), (Nat.le_of_ble_eq_true rfl)⟩ dL_drafts_39 rfl (fun H locs hw => ?_)
      refine W.widen (k := 4) (n := 24) (by omega) (by omega) ?_
      refine lv_sipush (v := (-7100)) hx hb dL_drafts_42 (by decide) ?_
      refine lv_icmp_eq (tgt := 50) hx hb dL_drafts_45 (by decide) (fun c_195 => ?_) (fun c_195 => ?_)
      · have hf := it_e hf c_195
        refine lv_aload hx hb dL_drafts_50 (lv_at hl 6 rfl) ?_
        refine lv_iconst (v := 0) hx hb dL_drafts_52 (by decide) ?_
        refine w_iald B hw (i := 146) (kw146 _) (by decide) dL_drafts_53 ?_
        refine lv_iconst (v := 3) hx hb dL_drafts_54 (by decide) ?_
        refine lv_icmp_ne (tgt := 76) hx hb dL_drafts_55 (by decide) (fun c_196 => ?_) (fun c_196 => ?_)
        · have hf := ie_e hf c_196
          refine lv_aload hx hb dL_drafts_76 (lv_at hl 6 rfl) ?_
          refine lv_bipush (v := 6) hx hb dL_drafts_78 (by decide) ?_
          refine lv_aload hx hb dL_drafts_80 (lv_at hl 6 rfl) ?_
          refine lv_iconst (v := 0) hx hb dL_drafts_82 (by decide) ?_
          refine w_iald B hw (i := 146) (kw146 _) (by decide) dL_drafts_83 ?_
          refine lv_iadd hx hb dL_drafts_84 ?_
          refine lv_iload hx hb dL_drafts_85 (lv_at hl 0 rfl) ?_
          obtain ⟨g_197, hf⟩ := grd_e hf
          refine w_iast B hw (i := 146) (kw146 _) g_197 dL_drafts_87 hf (fun M_198 H locs hw hf => ?_)
          refine lv_aload hx hb dL_drafts_88 (lv_at hl 6 rfl) ?_
          refine lv_iconst (v := 0) hx hb dL_drafts_90 (by decide) ?_
          refine lv_dup2_11 hx hb dL_drafts_91 rfl rfl ?_
          refine w_iald B hw (i := 146) (kw146 _) (by decide) dL_drafts_92 ?_
          refine lv_iconst (v := 1) hx hb dL_drafts_93 (by decide) ?_
          refine lv_iadd hx hb dL_drafts_94 ?_
          refine w_iast B hw (i := 146) (kw146 _) (by decide) dL_drafts_95 hf (fun M_199 H locs hw hf => ?_)
          refine lv_aload_n hx hb dL_drafts_96 rfl (lv_at hl 2 rfl) ?_
          refine lv_iload hx hb dL_drafts_97 (lv_at hl 0 rfl) ?_
          obtain ⟨r_201, M_202, h_200, hf⟩ := bm_e hf
          refine w_wrap (n := 2) (M' := M_202) (v := r_201) (As := [.ref (X.2.2 0), .int r_187]) (rest := []) B T N9 hw (c_L_seat l hfl _ X fu r_187 M_199 (r_201, M_202) h_200 _) km_L_198 kt_L_seat ki_L kc_L_seat ⟨by decide +kernel, by decide +kernel, by decide +kernel⟩ rfl hl.1 rfl rfl ⟨(Nat.le_of_ble_eq_true rfl), (Nat.le_of_ble_eq_true rfl)⟩ (Nat.le_of_ble_eq_true rfl) ⟨(Nat.le_of_ble_eq_true rfl), (Nat.le_of_ble_eq_true rfl)⟩ dL_drafts_99 rfl (fun H locs hw => ?_)
          refine W.widen (k := 6) (n := 36) (by omega) (by omega) ?_
          refine lv_aload hx hb dL_drafts_102 (lv_at hl 6 rfl) ?_
          refine lv_iconst (v := 0) hx hb dL_drafts_104 (by decide) ?_
          refine w_iald B hw (i := 146) (kw146 _) (by decide) dL_drafts_105 ?_
          refine lv_iconst (v := 1) hx hb dL_drafts_106 (by decide) ?_
          refine lv_isub hx hb dL_drafts_107 ?_
          refine lv_icmp_ne (tgt := 115) hx hb dL_drafts_108 (by decide) (fun c_203 => ?_) (fun c_203 => ?_)
          · have hf := ie_e hf c_203
            refine lv_iconst (v := 0) hx hb dL_drafts_115 (by decide) ?_
            refine W.widen (k := 73) (n := 438) (by omega) (by omega) ?_
            cases hf
            subst hQ
            exact q_zret B hr hlk rfl hw rfl rfl dL_drafts_116
          · have hf := it_e hf c_203
            refine lv_iconst (v := 1) hx hb dL_drafts_111 (by decide) ?_
            refine lv_goto (tgt := 116) hx hb dL_drafts_112 (by decide) ?_
            refine W.widen (k := 73) (n := 438) (by omega) (by omega) ?_
            cases hf
            subst hQ
            exact q_zret B hr hlk rfl hw rfl rfl dL_drafts_116
        · have hf := it_e hf c_196
          refine lv_aload_n hx hb dL_drafts_58 rfl (lv_at hl 2 rfl) ?_
          refine lv_iload hx hb dL_drafts_59 (lv_at hl 0 rfl) ?_
          obtain ⟨r_205, M_206, h_204, hf⟩ := bm_e hf
          refine w_wrap (n := 2) (M' := M_206) (v := r_205) (As := [.ref (X.2.2 0), .int r_187]) (rest := []) B T N9 hw (c_L_seat l hfl _ X fu r_187 M_194 (r_205, M_206) h_204 _) km_L_198 kt_L_seat ki_L kc_L_seat ⟨by decide +kernel, by decide +kernel, by decide +kernel⟩ rfl hl.1 rfl rfl ⟨(Nat.le_of_ble_eq_true rfl), (Nat.le_of_ble_eq_true rfl)⟩ (Nat.le_of_ble_eq_true rfl) ⟨(Nat.le_of_ble_eq_true rfl), (Nat.le_of_ble_eq_true rfl)⟩ dL_drafts_61 rfl (fun H locs hw => ?_)
          refine W.widen (k := 6) (n := 36) (by omega) (by omega) ?_
          refine lv_sipush (v := (-7300)) hx hb dL_drafts_64 (by decide) ?_
          refine lv_icmp_ne (tgt := 74) hx hb dL_drafts_67 (by decide) (fun c_207 => ?_) (fun c_207 => ?_)
          · have hf := ie_e hf c_207
            refine lv_iconst (v := 0) hx hb dL_drafts_74 (by decide) ?_
            refine W.widen (k := 73) (n := 438) (by omega) (by omega) ?_
            cases hf
            subst hQ
            exact q_zret B hr hlk rfl hw rfl rfl dL_drafts_75
          · have hf := it_e hf c_207
            refine lv_iconst (v := 1) hx hb dL_drafts_70 (by decide) ?_
            refine lv_goto (tgt := 75) hx hb dL_drafts_71 (by decide) ?_
            refine W.widen (k := 73) (n := 438) (by omega) (by omega) ?_
            cases hf
            subst hQ
            exact q_zret B hr hlk rfl hw rfl rfl dL_drafts_75
      · have hf := ie_e hf c_195
        refine lv_iconst (v := 0) hx hb dL_drafts_48 (by decide) ?_
        refine W.widen (k := 73) (n := 438) (by omega) (by omega) ?_
        cases hf
        subst hQ
        exact q_zret B hr hlk rfl hw rfl rfl dL_drafts_49
