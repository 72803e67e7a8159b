abbrev rm_L_asks : Room := { frames := 10, cells := 27, slots := 162, locals := 226 }
set_option maxRecDepth 100000 in
set_option maxHeartbeats 8000000 in
theorem c_L_asks (l : Launch) (hfl : l.stackTraces = false) (X : XT) (fu : Nat) (p1 : Int32) (p2 : Int32) (M : Mem)  (rs : (Int32 × Mem)) (hf : f_L_asks fu p1 p2 M = some rs) (sz : Nat) : Met l yL_asks (wbig yL_asks cL_asks 24 (some .boolean)) rm_L_asks (va_Pc [.ref (X.2.2 0), .int p1, .int p2, .ref (X.2.2 142), .ref (X.2.2 143), .ref (X.2.2 144), .ref (X.2.2 145), .ref (X.2.2 146), .ref (X.2.2 147), .ref (X.2.2 148), .ref (X.2.2 153), .ref (X.2.2 149), .ref (X.2.2 150), .ref (X.2.2 151), .ref (X.2.2 152), .ref (X.2.2 154)] (PXN (LW []) X M sz)) (QI (LW []) X rs.2 rs.1 sz) 27 162 (AX (LW []) X sz) := by
  refine wn_go (L := (LW [])) (M := M) (by decide +kernel) (Nat.le_of_ble_eq_true rfl) ?_
  intro p e s m args below meth c hsz B T N9 hr hlk hw ls hl
  subst hsz
  have hx := B.hx
  have hb := B.hb
  have hl : lv_has ls 24 [(0, .ref (X.2.2 0)), (1, .int p1), (2, .int p2), (3, .ref (X.2.2 142)), (4, .ref (X.2.2 143)), (5, .ref (X.2.2 144)), (6, .ref (X.2.2 145)), (7, .ref (X.2.2 146)), (8, .ref (X.2.2 147)), (9, .ref (X.2.2 148)), (10, .ref (X.2.2 153)), (11, .ref (X.2.2 149)), (12, .ref (X.2.2 150)), (13, .ref (X.2.2 151)), (14, .ref (X.2.2 152)), (15, .ref (X.2.2 154))] := hl
  generalize hQ : MQ below _ args s 27 162 (AX (LW []) X s.heap.size) = Q
  unfold f_L_asks at hf
  refine lv_iload_n hx hb dL_asks_0 rfl (lv_at hl 1 rfl) ?_
  refine lv_bipush (v := 6) hx hb dL_asks_1 (by decide) ?_
  refine lv_iand hx hb dL_asks_3 ?_
  refine jn_e hf (fun kk => ∀ (v_2 : Int32) (H : Heap) (locs : List Loc) (ls : Array Slot), HW (LW []) X M s H locs → lv_has ls 24 [(0, .ref (X.2.2 0)), (2, .int p2), (3, .ref (X.2.2 142)), (4, .ref (X.2.2 143)), (5, .ref (X.2.2 144)), (6, .ref (X.2.2 145)), (7, .ref (X.2.2 146)), (8, .ref (X.2.2 147)), (9, .ref (X.2.2 148)), (10, .ref (X.2.2 153)), (11, .ref (X.2.2 149)), (12, .ref (X.2.2 150)), (13, .ref (X.2.2 151)), (14, .ref (X.2.2 152)), (15, .ref (X.2.2 154))] → kk v_2 = some rs → W p l e rm_L_asks s m args below meth c H locs 0 0 Q (F0 m 33 ls [.int v_2])) ?_ (fun k33_1 J33_1 hf => ?_)
  · intro v_2 H locs ls hw hl hf
    refine lv_istore (lv' := [(16, .int v_2), (0, .ref (X.2.2 0)), (2, .int p2), (3, .ref (X.2.2 142)), (4, .ref (X.2.2 143)), (5, .ref (X.2.2 144)), (6, .ref (X.2.2 145)), (7, .ref (X.2.2 146)), (8, .ref (X.2.2 147)), (9, .ref (X.2.2 148)), (10, .ref (X.2.2 153)), (11, .ref (X.2.2 149)), (12, .ref (X.2.2 150)), (13, .ref (X.2.2 151)), (14, .ref (X.2.2 152)), (15, .ref (X.2.2 154))]) hx hb dL_asks_33 hl (by decide) rfl (fun ls hl => ?_)
    refine lv_iload_n hx hb dL_asks_35 rfl (lv_at hl 2 rfl) ?_
    refine lv_bipush (v := 6) hx hb dL_asks_36 (by decide) ?_
    refine lv_iand hx hb dL_asks_38 ?_
    refine jn_e hf (fun kk => ∀ (v_4 : Int32) (H : Heap) (locs : List Loc) (ls : Array Slot), HW (LW []) X M s H locs → lv_has ls 24 [(0, .ref (X.2.2 0)), (3, .ref (X.2.2 142)), (4, .ref (X.2.2 143)), (5, .ref (X.2.2 144)), (6, .ref (X.2.2 145)), (7, .ref (X.2.2 146)), (8, .ref (X.2.2 147)), (9, .ref (X.2.2 148)), (10, .ref (X.2.2 153)), (11, .ref (X.2.2 149)), (12, .ref (X.2.2 150)), (13, .ref (X.2.2 151)), (14, .ref (X.2.2 152)), (15, .ref (X.2.2 154)), (16, .int v_2)] → kk v_4 = some rs → W p l e rm_L_asks s m args below meth c H locs 0 0 Q (F0 m 56 ls [.int v_4])) ?_ (fun k56_3 J56_3 hf => ?_)
    · intro v_4 H locs ls hw hl hf
      refine lv_istore (lv' := [(17, .int v_4), (0, .ref (X.2.2 0)), (3, .ref (X.2.2 142)), (4, .ref (X.2.2 143)), (5, .ref (X.2.2 144)), (6, .ref (X.2.2 145)), (7, .ref (X.2.2 146)), (8, .ref (X.2.2 147)), (9, .ref (X.2.2 148)), (10, .ref (X.2.2 153)), (11, .ref (X.2.2 149)), (12, .ref (X.2.2 150)), (13, .ref (X.2.2 151)), (14, .ref (X.2.2 152)), (15, .ref (X.2.2 154)), (16, .int v_2)]) hx hb dL_asks_56 hl (by decide) rfl (fun ls hl => ?_)
      refine lv_aload_n hx hb dL_asks_58 rfl (lv_at hl 1 rfl) ?_
      refine lv_sipush (v := 201) hx hb dL_asks_59 (by decide) ?_
      refine lv_iconst (v := 0) hx hb dL_asks_62 (by decide) ?_
      obtain ⟨r_6, M_7, h_5, hf⟩ := bm_e hf
      refine w_wrap (n := 3) (M' := M_7) (v := r_6) (As := [.ref (X.2.2 0), .int 201, .int 0]) (rest := []) B T N9 hw (c_L_ask l hfl _ X fu 201 0 M (r_6, M_7) h_5 _) km_L_291 kt_L_ask ki_L kc_L_ask ⟨by decide +kernel, by decide +kernel, by decide +kernel⟩ rfl hl.1 rfl rfl ⟨(Nat.le_of_ble_eq_true rfl), (Nat.le_of_ble_eq_true rfl)⟩ (Nat.le_of_ble_eq_true rfl) ⟨(Nat.le_of_ble_eq_true rfl), (Nat.le_of_ble_eq_true rfl)⟩ dL_asks_63 rfl (fun H locs hw => ?_)
      refine W.widen (k := 2) (n := 12) (by omega) (by omega) ?_
      refine lv_sipush (v := (-7200)) hx hb dL_asks_66 (by decide) ?_
      refine lv_icmp_ne (tgt := 98) hx hb dL_asks_69 (by decide) (fun c_8 => ?_) (fun c_8 => ?_)
      · have hf := ie_e hf c_8
        refine lv_iconst (v := 0) hx hb dL_asks_98 (by decide) ?_
        refine W.widen (k := 27) (n := 162) (by omega) (by omega) ?_
        cases hf
        subst hQ
        exact q_zret B hr hlk rfl hw rfl rfl dL_asks_99
      · have hf := it_e hf c_8
        refine lv_aload_n hx hb dL_asks_72 rfl (lv_at hl 1 rfl) ?_
        refine lv_iconst (v := 0) hx hb dL_asks_73 (by decide) ?_
        refine lv_sipush (v := 201) hx hb dL_asks_74 (by decide) ?_
        obtain ⟨r_10, M_11, h_9, hf⟩ := bm_e hf
        refine w_wrap (n := 3) (M' := M_11) (v := r_10) (As := [.ref (X.2.2 0), .int 0, .int 201]) (rest := []) B T N9 hw (c_L_ask l hfl _ X fu 0 201 M_7 (r_10, M_11) h_9 _) km_L_291 kt_L_ask ki_L kc_L_ask ⟨by decide +kernel, by decide +kernel, by decide +kernel⟩ rfl hl.1 rfl rfl ⟨(Nat.le_of_ble_eq_true rfl), (Nat.le_of_ble_eq_true rfl)⟩ (Nat.le_of_ble_eq_true rfl) ⟨(Nat.le_of_ble_eq_true rfl), (Nat.le_of_ble_eq_true rfl)⟩ dL_asks_77 rfl (fun H locs hw => ?_)
        refine W.widen (k := 4) (n := 24) (by omega) (by omega) ?_
        refine lv_sipush (v := (-7200)) hx hb dL_asks_80 (by decide) ?_
        refine lv_icmp_ne (tgt := 98) hx hb dL_asks_83 (by decide) (fun c_12 => ?_) (fun c_12 => ?_)
        · have hf := ie_e hf c_12
          refine lv_iconst (v := 0) hx hb dL_asks_98 (by decide) ?_
          refine W.widen (k := 27) (n := 162) (by omega) (by omega) ?_
          cases hf
          subst hQ
          exact q_zret B hr hlk rfl hw rfl rfl dL_asks_99
        · have hf := it_e hf c_12
          refine lv_aload_n hx hb dL_asks_86 rfl (lv_at hl 1 rfl) ?_
          refine lv_iconst (v := (-1)) hx hb dL_asks_87 (by decide) ?_
          refine lv_iconst (v := 0) hx hb dL_asks_88 (by decide) ?_
          obtain ⟨r_14, M_15, h_13, hf⟩ := bm_e hf
          refine w_wrap (n := 3) (M' := M_15) (v := r_14) (As := [.ref (X.2.2 0), .int (-1), .int 0]) (rest := []) B T N9 hw (c_L_ask l hfl _ X fu (-1) 0 M_11 (r_14, M_15) h_13 _) km_L_291 kt_L_ask ki_L kc_L_ask ⟨by decide +kernel, by decide +kernel, by decide +kernel⟩ rfl hl.1 rfl rfl ⟨(Nat.le_of_ble_eq_true rfl), (Nat.le_of_ble_eq_true rfl)⟩ (Nat.le_of_ble_eq_true rfl) ⟨(Nat.le_of_ble_eq_true rfl), (Nat.le_of_ble_eq_true rfl)⟩ dL_asks_89 rfl (fun H locs hw => ?_)
          refine W.widen (k := 6) (n := 36) (by omega) (by omega) ?_
          refine lv_sipush (v := (-7200)) hx hb dL_asks_92 (by decide) ?_
          refine lv_icmp_eq (tgt := 100) hx hb dL_asks_95 (by decide) (fun c_16 => ?_) (fun c_16 => ?_)
          · have hf := it_e hf c_16
            refine lv_aload hx hb dL_asks_100 (lv_at hl 6 rfl) ?_
            refine lv_iconst (v := 0) hx hb dL_asks_102 (by decide) ?_
            refine w_iald B hw (i := 146) (kw146 _) (by decide) dL_asks_103 ?_
            refine jn_e hf (fun kk => ∀ (_ : Unit) (H : Heap) (locs : List Loc) (ls : Array Slot), HW (LW []) X M_15 s H locs → lv_has ls 24 [(0, .ref (X.2.2 0)), (16, .int v_2), (17, .int v_4)] → kk () = some rs → W p l e rm_L_asks s m args below meth c H locs 6 36 Q (F0 m 114 ls [])) ?_ (fun k114_17 J114_17 hf => ?_)
            · intro _ H locs ls hw hl hf
              refine lv_aload_n hx hb dL_asks_114 rfl (lv_at hl 0 rfl) ?_
              refine lv_iload hx hb dL_asks_115 (lv_at hl 1 rfl) ?_
              refine lv_iload hx hb dL_asks_117 (lv_at hl 2 rfl) ?_
              obtain ⟨r_19, M_20, h_18, hf⟩ := bm_e hf
              refine w_wrap (n := 3) (M' := M_20) (v := r_19) (As := [.ref (X.2.2 0), .int v_2, .int v_4]) (rest := []) B T N9 hw (c_L_ask l hfl _ X fu v_2 v_4 M_15 (r_19, M_20) h_18 _) km_L_291 kt_L_ask ki_L kc_L_ask ⟨by decide +kernel, by decide +kernel, by decide +kernel⟩ rfl hl.1 rfl rfl ⟨(Nat.le_of_ble_eq_true rfl), (Nat.le_of_ble_eq_true rfl)⟩ (Nat.le_of_ble_eq_true rfl) ⟨(Nat.le_of_ble_eq_true rfl), (Nat.le_of_ble_eq_true rfl)⟩ dL_asks_119 rfl (fun H locs hw => ?_)
              refine W.widen (k := 8) (n := 48) (by omega) (by omega) ?_
              refine lv_sipush (v := (-7300)) hx hb dL_asks_122 (by decide) ?_
              refine lv_icmp_ne (tgt := 154) hx hb dL_asks_125 (by decide) (fun c_21 => ?_) (fun c_21 => ?_)
              · have hf := ie_e hf c_21
                refine lv_iconst (v := 0) hx hb dL_asks_154 (by decide) ?_
                refine W.widen (k := 27) (n := 162) (by omega) (by omega) ?_
                cases hf
                subst hQ
                exact q_zret B hr hlk rfl hw rfl rfl dL_asks_155
              · have hf := it_e hf c_21
                refine lv_aload_n hx hb dL_asks_128 rfl (lv_at hl 0 rfl) ?_
                obtain ⟨r_23, M_24, h_22, hf⟩ := bm_e hf
                refine w_wrap (n := 1) (M' := M_24) (v := r_23) (As := [.ref (X.2.2 0)]) (rest := []) B T N9 hw (c_L_answersAnew l hfl _ X fu M_20 (r_23, M_24) h_22 _) km_L_293 kt_L_answersAnew ki_L kc_L_answersAnew ⟨by decide +kernel, by decide +kernel, by decide +kernel⟩ rfl hl.1 rfl rfl ⟨(Nat.le_of_ble_eq_true rfl), (Nat.le_of_ble_eq_true rfl)⟩ (Nat.le_of_ble_eq_true rfl) ⟨(Nat.le_of_ble_eq_true rfl), (Nat.le_of_ble_eq_true rfl)⟩ dL_asks_129 rfl (fun H locs hw => ?_)
                refine W.widen (k := 9) (n := 54) (by omega) (by omega) ?_
                refine lv_sipush (v := (-7300)) hx hb dL_asks_132 (by decide) ?_
                refine lv_icmp_ne (tgt := 154) hx hb dL_asks_135 (by decide) (fun c_25 => ?_) (fun c_25 => ?_)
                · have hf := ie_e hf c_25
                  refine lv_iconst (v := 0) hx hb dL_asks_154 (by decide) ?_
                  refine W.widen (k := 27) (n := 162) (by omega) (by omega) ?_
                  cases hf
                  subst hQ
                  exact q_zret B hr hlk rfl hw rfl rfl dL_asks_155
                · have hf := it_e hf c_25
                  refine lv_aload_n hx hb dL_asks_138 rfl (lv_at hl 0 rfl) ?_
                  refine lv_iconst (v := 0) hx hb dL_asks_139 (by decide) ?_
                  refine lv_iconst (v := 0) hx hb dL_asks_140 (by decide) ?_
                  obtain ⟨r_27, M_28, h_26, hf⟩ := bm_e hf
                  refine w_wrap (n := 3) (M' := M_28) (v := r_27) (As := [.ref (X.2.2 0), .int 0, .int 0]) (rest := []) B T N9 hw (c_L_answerAnew l hfl _ X fu 0 0 M_24 (r_27, M_28) h_26 _) km_L_296 kt_L_answerAnew ki_L kc_L_answerAnew ⟨by decide +kernel, by decide +kernel, by decide +kernel⟩ rfl hl.1 rfl rfl ⟨(Nat.le_of_ble_eq_true rfl), (Nat.le_of_ble_eq_true rfl)⟩ (Nat.le_of_ble_eq_true rfl) ⟨(Nat.le_of_ble_eq_true rfl), (Nat.le_of_ble_eq_true rfl)⟩ dL_asks_141 rfl (fun H locs hw => ?_)
                  refine W.widen (k := 11) (n := 66) (by omega) (by omega) ?_
                  refine lv_sipush (v := (-7300)) hx hb dL_asks_144 (by decide) ?_
                  refine lv_icmp_ne (tgt := 154) hx hb dL_asks_147 (by decide) (fun c_29 => ?_) (fun c_29 => ?_)
                  · have hf := ie_e hf c_29
                    refine lv_iconst (v := 0) hx hb dL_asks_154 (by decide) ?_
                    refine W.widen (k := 27) (n := 162) (by omega) (by omega) ?_
                    cases hf
                    subst hQ
                    exact q_zret B hr hlk rfl hw rfl rfl dL_asks_155
                  · have hf := it_e hf c_29
                    refine lv_iconst (v := 1) hx hb dL_asks_150 (by decide) ?_
                    refine lv_goto (tgt := 155) hx hb dL_asks_151 (by decide) ?_
                    refine W.widen (k := 27) (n := 162) (by omega) (by omega) ?_
                    cases hf
                    subst hQ
                    exact q_zret B hr hlk rfl hw rfl rfl dL_asks_155
            refine lv_if_eq (tgt := 114) hx hb dL_asks_104 (by decide) (fun c_30 => ?_) (fun c_30 => ?_)
            · have hf := it_e hf c_30
              exact J114_17 () _ _ _ hw (lv_sub hl [1, 15, 0] rfl) hf
            · have hf := ie_e hf c_30
              refine lv_aload hx hb dL_asks_107 (lv_at hl 6 rfl) ?_
              refine lv_iconst (v := 3) hx hb dL_asks_109 (by decide) ?_
              refine w_iald B hw (i := 146) (kw146 _) (by decide) dL_asks_110 ?_
              refine lv_if_ne (tgt := 156) hx hb dL_asks_111 (by decide) (fun c_31 => ?_) (fun c_31 => ?_)
              · have hf := ie_e hf c_31
                refine lv_aload hx hb dL_asks_156 (lv_at hl 13 rfl) ?_
                refine lv_iconst (v := 4) hx hb dL_asks_158 (by decide) ?_
                refine lv_aload hx hb dL_asks_159 (lv_at hl 13 rfl) ?_
                refine lv_iconst (v := 1) hx hb dL_asks_161 (by decide) ?_
                refine w_iald B hw (i := 152) (kw152 _) (by decide) dL_asks_162 ?_
                refine w_iast B hw (i := 152) (kw152 _) (by decide) dL_asks_163 hf (fun M_32 H locs hw hf => ?_)
                refine lv_aload hx hb dL_asks_164 (lv_at hl 13 rfl) ?_
                refine lv_iconst (v := 5) hx hb dL_asks_166 (by decide) ?_
                refine lv_iload hx hb dL_asks_167 (lv_at hl 15 rfl) ?_
                refine w_iast B hw (i := 152) (kw152 _) (by decide) dL_asks_169 hf (fun M_33 H locs hw hf => ?_)
                refine lv_aload hx hb dL_asks_170 (lv_at hl 13 rfl) ?_
                refine lv_bipush (v := 6) hx hb dL_asks_172 (by decide) ?_
                refine lv_iload hx hb dL_asks_174 (lv_at hl 0 rfl) ?_
                refine w_iast B hw (i := 152) (kw152 _) (by decide) dL_asks_176 hf (fun M_34 H locs hw hf => ?_)
                refine lv_bipush (v := 7) hx hb dL_asks_177 (by decide) ?_
                refine lv_istore (lv' := [(18, .int 7), (17, .int v_4), (0, .ref (X.2.2 0)), (3, .ref (X.2.2 142)), (4, .ref (X.2.2 143)), (5, .ref (X.2.2 144)), (6, .ref (X.2.2 145)), (7, .ref (X.2.2 146)), (8, .ref (X.2.2 147)), (9, .ref (X.2.2 148)), (10, .ref (X.2.2 153)), (11, .ref (X.2.2 149)), (12, .ref (X.2.2 150)), (13, .ref (X.2.2 151)), (14, .ref (X.2.2 152)), (15, .ref (X.2.2 154)), (16, .int v_2)]) hx hb dL_asks_179 hl (by decide) rfl (fun ls hl => ?_)
                refine jn_e hf (fun kk => ∀ (M_36 : Mem) (H : Heap) (locs : List Loc) (ls : Array Slot), HW (LW []) X M_36 s H locs → lv_has ls 24 [(0, .ref (X.2.2 0)), (3, .ref (X.2.2 142)), (4, .ref (X.2.2 143)), (5, .ref (X.2.2 144)), (6, .ref (X.2.2 145)), (7, .ref (X.2.2 146)), (8, .ref (X.2.2 147)), (9, .ref (X.2.2 148)), (10, .ref (X.2.2 153)), (11, .ref (X.2.2 149)), (12, .ref (X.2.2 150)), (13, .ref (X.2.2 151)), (14, .ref (X.2.2 152)), (15, .ref (X.2.2 154)), (16, .int v_2), (17, .int v_4)] → kk M_36 = some rs → W p l e rm_L_asks s m args below meth c H locs 6 36 Q (F0 m 200 ls [])) ?_ (fun k200_35 J200_35 hf => ?_)
                · intro M_36 H locs ls hw hl hf
                  refine lv_iconst (v := 0) hx hb dL_asks_200 (by decide) ?_
                  refine lv_istore (lv' := [(18, .int 0), (0, .ref (X.2.2 0)), (3, .ref (X.2.2 142)), (4, .ref (X.2.2 143)), (5, .ref (X.2.2 144)), (6, .ref (X.2.2 145)), (7, .ref (X.2.2 146)), (8, .ref (X.2.2 147)), (9, .ref (X.2.2 148)), (10, .ref (X.2.2 153)), (11, .ref (X.2.2 149)), (12, .ref (X.2.2 150)), (13, .ref (X.2.2 151)), (14, .ref (X.2.2 152)), (15, .ref (X.2.2 154)), (16, .int v_2), (17, .int v_4)]) hx hb dL_asks_201 hl (by decide) rfl (fun ls hl => ?_)
                  refine jn_e hf (fun kk => ∀ (M_38 : Mem) (H : Heap) (locs : List Loc) (ls : Array Slot), HW (LW []) X M_38 s H locs → lv_has ls 24 [(0, .ref (X.2.2 0)), (3, .ref (X.2.2 142)), (4, .ref (X.2.2 143)), (5, .ref (X.2.2 144)), (6, .ref (X.2.2 145)), (7, .ref (X.2.2 146)), (8, .ref (X.2.2 147)), (9, .ref (X.2.2 148)), (10, .ref (X.2.2 153)), (11, .ref (X.2.2 149)), (12, .ref (X.2.2 150)), (13, .ref (X.2.2 151)), (14, .ref (X.2.2 152)), (15, .ref (X.2.2 154)), (16, .int v_2), (17, .int v_4)] → kk M_38 = some rs → W p l e rm_L_asks s m args below meth c H locs 6 36 Q (F0 m 223 ls [])) ?_ (fun k223_37 J223_37 hf => ?_)
                  · intro M_38 H locs ls hw hl hf
                    refine lv_iconst (v := 0) hx hb dL_asks_223 (by decide) ?_
                    refine lv_istore (lv' := [(18, .int 0), (0, .ref (X.2.2 0)), (3, .ref (X.2.2 142)), (4, .ref (X.2.2 143)), (5, .ref (X.2.2 144)), (6, .ref (X.2.2 145)), (7, .ref (X.2.2 146)), (8, .ref (X.2.2 147)), (9, .ref (X.2.2 148)), (10, .ref (X.2.2 153)), (11, .ref (X.2.2 149)), (12, .ref (X.2.2 150)), (13, .ref (X.2.2 151)), (14, .ref (X.2.2 152)), (15, .ref (X.2.2 154)), (16, .int v_2), (17, .int v_4)]) hx hb dL_asks_224 hl (by decide) rfl (fun ls hl => ?_)
                    refine lv_iconst (v := 0) hx hb dL_asks_226 (by decide) ?_
                    refine lv_istore (lv' := [(19, .int 0), (18, .int 0), (0, .ref (X.2.2 0)), (3, .ref (X.2.2 142)), (4, .ref (X.2.2 143)), (5, .ref (X.2.2 144)), (6, .ref (X.2.2 145)), (7, .ref (X.2.2 146)), (8, .ref (X.2.2 147)), (9, .ref (X.2.2 148)), (10, .ref (X.2.2 153)), (11, .ref (X.2.2 149)), (12, .ref (X.2.2 150)), (13, .ref (X.2.2 151)), (14, .ref (X.2.2 152)), (15, .ref (X.2.2 154)), (16, .int v_2), (17, .int v_4)]) hx hb dL_asks_227 hl (by decide) rfl (fun ls hl => ?_)
                    refine jn_e hf (fun kk => ∀ (x18_40 : Int32) (M_41 : Mem) (H : Heap) (locs : List Loc) (ls : Array Slot), HW (LW []) X M_41 s H locs → lv_has ls 24 [(0, .ref (X.2.2 0)), (7, .ref (X.2.2 146)), (11, .ref (X.2.2 149)), (12, .ref (X.2.2 150)), (13, .ref (X.2.2 151)), (14, .ref (X.2.2 152)), (15, .ref (X.2.2 154)), (16, .int v_2), (17, .int v_4), (18, .int x18_40)] → kk x18_40 M_41 = some rs → W p l e rm_L_asks s m args below meth c H locs 14 84 Q (F0 m 392 ls [])) ?_ (fun k392_39 J392_39 hf => ?_)
                    · intro x18_40 M_41 H locs ls hw hl hf
                      refine lv_iconst (v := 0) hx hb dL_asks_392 (by decide) ?_
                      refine lv_istore (lv' := [(19, .int 0), (0, .ref (X.2.2 0)), (7, .ref (X.2.2 146)), (11, .ref (X.2.2 149)), (12, .ref (X.2.2 150)), (13, .ref (X.2.2 151)), (14, .ref (X.2.2 152)), (15, .ref (X.2.2 154)), (16, .int v_2), (17, .int v_4), (18, .int x18_40)]) hx hb dL_asks_393 hl (by decide) rfl (fun ls hl => ?_)
                      refine lv_aload hx hb dL_asks_395 (lv_at hl 6 rfl) ?_
                      refine lv_iconst (v := 0) hx hb dL_asks_397 (by decide) ?_
                      refine w_iald B hw (i := 152) (kw152 _) (by decide) dL_asks_398 ?_
                      refine r_topn hf (fun x20_42 hf => ?_)
                      refine lv_istore (lv' := [(20, .int x20_42), (19, .int 0), (0, .ref (X.2.2 0)), (7, .ref (X.2.2 146)), (11, .ref (X.2.2 149)), (12, .ref (X.2.2 150)), (13, .ref (X.2.2 151)), (14, .ref (X.2.2 152)), (15, .ref (X.2.2 154)), (16, .int v_2), (17, .int v_4), (18, .int x18_40)]) hx hb dL_asks_399 hl (by decide) rfl (fun ls hl => ?_)
                      refine lv_iconst (v := 0) hx hb dL_asks_401 (by decide) ?_
                      refine lv_istore (lv' := [(21, .int 0), (20, .int x20_42), (19, .int 0), (0, .ref (X.2.2 0)), (7, .ref (X.2.2 146)), (11, .ref (X.2.2 149)), (12, .ref (X.2.2 150)), (13, .ref (X.2.2 151)), (14, .ref (X.2.2 152)), (15, .ref (X.2.2 154)), (16, .int v_2), (17, .int v_4), (18, .int x18_40)]) hx hb dL_asks_402 hl (by decide) rfl (fun ls hl => ?_)
                      refine jn_e hf (fun kk => ∀ (x19_44 : Int32) (x20_45 : Int32) (H : Heap) (locs : List Loc) (ls : Array Slot), HW (LW []) X M_41 s H locs → lv_has ls 24 [(0, .ref (X.2.2 0)), (7, .ref (X.2.2 146)), (11, .ref (X.2.2 149)), (12, .ref (X.2.2 150)), (13, .ref (X.2.2 151)), (14, .ref (X.2.2 152)), (15, .ref (X.2.2 154)), (16, .int v_2), (17, .int v_4), (18, .int x18_40), (19, .int x19_44), (20, .int x20_45)] → kk x19_44 x20_45 = some rs → W p l e rm_L_asks s m args below meth c H locs 14 84 Q (F0 m 479 ls [])) ?_ (fun k479_43 J479_43 hf => ?_)
                      · intro x19_44 x20_45 H locs ls hw hl hf
                        refine lv_aload hx hb dL_asks_479 (lv_at hl 5 rfl) ?_
                        refine lv_bipush (v := 12) hx hb dL_asks_481 (by decide) ?_
                        refine lv_aload hx hb dL_asks_483 (lv_at hl 5 rfl) ?_
                        refine lv_bipush (v := 11) hx hb dL_asks_485 (by decide) ?_
                        refine w_iald B hw (i := 152) (kw152 _) (by decide) dL_asks_487 ?_
                        refine nmv_e hf (fun kk => ∀ (H : Heap) (locs : List Loc), HW (LW []) X M_41 s H locs → W p l e rm_L_asks s m args below meth c H locs 14 84 Q (F0 m 504 ls [.int kk, .int 12, .ref (X.2.2 152)])) (fun J => ?_) (fun v_48 hf H locs hw => ?_)
                        · refine lv_if_ne (tgt := 503) hx hb dL_asks_488 (by decide) (fun c_46 => ?_) (fun c_46 => ?_)
                          · rw [if_neg (show ¬ ((M_41 152 11) = 0) from c_46)] at J
                            refine lv_iconst (v := (-1)) hx hb dL_asks_503 (by decide) ?_
                            exact J _ _ hw
                          · rw [if_pos (show (M_41 152 11) = 0 from c_46)] at J
                            refine lv_iload hx hb dL_asks_491 (lv_at hl 10 rfl) ?_
                            refine lv_iload hx hb dL_asks_493 (lv_at hl 11 rfl) ?_
                            refine lv_icmp_gt (tgt := 503) hx hb dL_asks_495 (by decide) (fun c_47 => ?_) (fun c_47 => ?_)
                            · rw [if_pos (show x20_45 < x19_44 from c_47)] at J
                              refine lv_iconst (v := (-1)) hx hb dL_asks_503 (by decide) ?_
                              exact J _ _ hw
                            · rw [if_neg (show ¬ (x20_45 < x19_44) from c_47)] at J
                              refine lv_iload hx hb dL_asks_498 (lv_at hl 11 rfl) ?_
                              refine lv_goto (tgt := 504) hx hb dL_asks_500 (by decide) ?_
                              exact J _ _ hw
                        · refine w_iast B hw (i := 152) (kw152 _) (by decide) dL_asks_504 hf (fun M_49 H locs hw hf => ?_)
                          refine lv_aload hx hb dL_asks_505 (lv_at hl 5 rfl) ?_
                          refine lv_bipush (v := 10) hx hb dL_asks_507 (by decide) ?_
                          refine lv_aload hx hb dL_asks_509 (lv_at hl 1 rfl) ?_
                          refine lv_iconst (v := 0) hx hb dL_asks_511 (by decide) ?_
                          refine w_iald B hw (i := 146) (kw146 _) (by decide) dL_asks_512 ?_
                          refine w_iast B hw (i := 152) (kw152 _) (by decide) dL_asks_513 hf (fun M_50 H locs hw hf => ?_)
                          refine lv_aload hx hb dL_asks_514 (lv_at hl 5 rfl) ?_
                          refine lv_bipush (v := 15) hx hb dL_asks_516 (by decide) ?_
                          refine lv_aload hx hb dL_asks_518 (lv_at hl 1 rfl) ?_
                          refine lv_aload hx hb dL_asks_520 (lv_at hl 2 rfl) ?_
                          refine lv_aload hx hb dL_asks_522 (lv_at hl 3 rfl) ?_
                          refine lv_aload hx hb dL_asks_524 (lv_at hl 6 rfl) ?_
                          obtain ⟨r_52, M_53, h_51, hf⟩ := bm_e hf
                          refine q_callSi (M' := M_53) (As := [.ref (X.2.2 146), .ref (X.2.2 149), .ref (X.2.2 150), .ref (X.2.2 154)]) (rest := [.int 15, .ref (X.2.2 152)]) B hw (c_L_match l _ X fu 149 150 154 M_50 (kw149 _) (kw150 _) (kw154 _) (r_52, M_53) h_51 _) cs_L_303 rfl hl.1 rfl rfl ⟨(Nat.le_of_ble_eq_true rfl), (Nat.le_of_ble_eq_true rfl)⟩ (Nat.le_of_ble_eq_true rfl) ⟨(Nat.le_of_ble_eq_true rfl), (Nat.le_of_ble_eq_true rfl)⟩ dL_asks_526 rfl (fun H locs hw => ?_)
                          refine w_iast B hw (i := 152) (kw152 _) (by decide) dL_asks_529 hf (fun M_54 H locs hw hf => ?_)
                          refine lv_aload hx hb dL_asks_530 (lv_at hl 5 rfl) ?_
                          refine lv_bipush (v := 16) hx hb dL_asks_532 (by decide) ?_
                          refine lv_aload hx hb dL_asks_534 (lv_at hl 1 rfl) ?_
                          refine lv_iconst (v := 5) hx hb dL_asks_536 (by decide) ?_
                          refine w_iald B hw (i := 146) (kw146 _) (by decide) dL_asks_537 ?_
                          refine lv_iconst (v := 1) hx hb dL_asks_538 (by decide) ?_
                          refine nmv_e hf (fun kk => ∀ (H : Heap) (locs : List Loc), HW (LW []) X M_54 s H locs → W p l e rm_L_asks s m args below meth c H locs 14 84 Q (F0 m 550 ls [.int kk, .int 16, .ref (X.2.2 152)])) (fun J => ?_) (fun v_56 hf H locs hw => ?_)
                          · refine lv_icmp_ne (tgt := 546) hx hb dL_asks_539 (by decide) (fun c_55 => ?_) (fun c_55 => ?_)
                            · rw [if_neg (show ¬ ((M_54 146 5) = 1) from c_55)] at J
                              refine lv_aload hx hb dL_asks_546 (lv_at hl 1 rfl) ?_
                              refine lv_iconst (v := 3) hx hb dL_asks_548 (by decide) ?_
                              refine w_iald B hw (i := 146) (kw146 _) (by decide) dL_asks_549 ?_
                              exact J _ _ hw
                            · rw [if_pos (show (M_54 146 5) = 1 from c_55)] at J
                              refine lv_iconst (v := 3) hx hb dL_asks_542 (by decide) ?_
                              refine lv_goto (tgt := 550) hx hb dL_asks_543 (by decide) ?_
                              exact J _ _ hw
                          · refine w_iast B hw (i := 152) (kw152 _) (by decide) dL_asks_550 hf (fun M_57 H locs hw hf => ?_)
                            refine lv_aload_n hx hb dL_asks_551 rfl (lv_at hl 0 rfl) ?_
                            refine lv_iload hx hb dL_asks_552 (lv_at hl 7 rfl) ?_
                            refine lv_iload hx hb dL_asks_554 (lv_at hl 8 rfl) ?_
                            obtain ⟨r_59, M_60, h_58, hf⟩ := bm_e hf
                            refine w_wrap (n := 3) (M' := M_60) (v := r_59) (As := [.ref (X.2.2 0), .int v_2, .int v_4]) (rest := []) B T N9 hw (c_L_ask l hfl _ X fu v_2 v_4 M_57 (r_59, M_60) h_58 _) km_L_291 kt_L_ask ki_L kc_L_ask ⟨by decide +kernel, by decide +kernel, by decide +kernel⟩ rfl hl.1 rfl rfl ⟨(Nat.le_of_ble_eq_true rfl), (Nat.le_of_ble_eq_true rfl)⟩ (Nat.le_of_ble_eq_true rfl) ⟨(Nat.le_of_ble_eq_true rfl), (Nat.le_of_ble_eq_true rfl)⟩ dL_asks_556 rfl (fun H locs hw => ?_)
                            refine W.widen (k := 16) (n := 96) (by omega) (by omega) ?_
                            refine lv_aload hx hb dL_asks_559 (lv_at hl 5 rfl) ?_
                            refine lv_bipush (v := 15) hx hb dL_asks_561 (by decide) ?_
                            refine w_iald B hw (i := 152) (kw152 _) (by decide) dL_asks_563 ?_
                            refine lv_icmp_eq (tgt := 569) hx hb dL_asks_564 (by decide) (fun c_61 => ?_) (fun c_61 => ?_)
                            · have hf := it_e hf c_61
                              refine lv_iconst (v := 0) hx hb dL_asks_569 (by decide) ?_
                              refine lv_istore (lv' := [(21, .int 0), (0, .ref (X.2.2 0)), (7, .ref (X.2.2 146)), (11, .ref (X.2.2 149)), (12, .ref (X.2.2 150)), (13, .ref (X.2.2 151)), (14, .ref (X.2.2 152)), (15, .ref (X.2.2 154)), (16, .int v_2), (17, .int v_4), (18, .int x18_40), (19, .int x19_44), (20, .int x20_45)]) hx hb dL_asks_570 hl (by decide) rfl (fun ls hl => ?_)
                              refine jn_e hf (fun kk => ∀ (M_63 : Mem) (H : Heap) (locs : List Loc) (ls : Array Slot), HW (LW []) X M_63 s H locs → lv_has ls 24 [(0, .ref (X.2.2 0)), (7, .ref (X.2.2 146))] → kk M_63 = some rs → W p l e rm_L_asks s m args below meth c H locs 20 120 Q (F0 m 622 ls [])) ?_ (fun k622_62 J622_62 hf => ?_)
                              · intro M_63 H locs ls hw hl hf
                                refine lv_aload_n hx hb dL_asks_622 rfl (lv_at hl 0 rfl) ?_
                                refine lv_aload hx hb dL_asks_623 (lv_at hl 1 rfl) ?_
                                refine lv_iconst (v := 0) hx hb dL_asks_625 (by decide) ?_
                                refine w_iald B hw (i := 146) (kw146 _) (by decide) dL_asks_626 ?_
                                obtain ⟨r_65, M_66, h_64, hf⟩ := bm_e hf
                                refine w_wrap (n := 2) (M' := M_66) (v := r_65) (As := [.ref (X.2.2 0), .int (M_63 146 0)]) (rest := []) B T N9 hw (c_L_taken l hfl _ X fu (M_63 146 0) M_63 (r_65, M_66) h_64 _) km_L_307 kt_L_taken ki_L kc_L_taken ⟨by decide +kernel, by decide +kernel, by decide +kernel⟩ rfl hl.1 rfl rfl ⟨(Nat.le_of_ble_eq_true rfl), (Nat.le_of_ble_eq_true rfl)⟩ (Nat.le_of_ble_eq_true rfl) ⟨(Nat.le_of_ble_eq_true rfl), (Nat.le_of_ble_eq_true rfl)⟩ dL_asks_627 rfl (fun H locs hw => ?_)
                                refine W.widen (k := 21) (n := 126) (by omega) (by omega) ?_
                                refine lv_sipush (v := (-7100)) hx hb dL_asks_630 (by decide) ?_
                                refine lv_icmp_ne (tgt := 651) hx hb dL_asks_633 (by decide) (fun c_67 => ?_) (fun c_67 => ?_)
                                · have hf := ie_e hf c_67
                                  refine lv_iconst (v := 0) hx hb dL_asks_651 (by decide) ?_
                                  refine W.widen (k := 27) (n := 162) (by omega) (by omega) ?_
                                  cases hf
                                  subst hQ
                                  exact q_zret B hr hlk rfl hw rfl rfl dL_asks_652
                                · have hf := it_e hf c_67
                                  refine lv_aload_n hx hb dL_asks_636 rfl (lv_at hl 0 rfl) ?_
                                  refine lv_iconst (v := (-1)) hx hb dL_asks_637 (by decide) ?_
                                  obtain ⟨r_69, M_70, h_68, hf⟩ := bm_e hf
                                  refine w_wrap (n := 2) (M' := M_70) (v := r_69) (As := [.ref (X.2.2 0), .int (-1)]) (rest := []) B T N9 hw (c_L_taken l hfl _ X fu (-1) M_66 (r_69, M_70) h_68 _) km_L_307 kt_L_taken ki_L kc_L_taken ⟨by decide +kernel, by decide +kernel, by decide +kernel⟩ rfl hl.1 rfl rfl ⟨(Nat.le_of_ble_eq_true rfl), (Nat.le_of_ble_eq_true rfl)⟩ (Nat.le_of_ble_eq_true rfl) ⟨(Nat.le_of_ble_eq_true rfl), (Nat.le_of_ble_eq_true rfl)⟩ dL_asks_638 rfl (fun H locs hw => ?_)
                                  refine W.widen (k := 22) (n := 132) (by omega) (by omega) ?_
                                  refine lv_sipush (v := (-7100)) hx hb dL_asks_641 (by decide) ?_
                                  refine lv_icmp_ne (tgt := 651) hx hb dL_asks_644 (by decide) (fun c_71 => ?_) (fun c_71 => ?_)
                                  · have hf := ie_e hf c_71
                                    refine lv_iconst (v := 0) hx hb dL_asks_651 (by decide) ?_
                                    refine W.widen (k := 27) (n := 162) (by omega) (by omega) ?_
                                    cases hf
                                    subst hQ
                                    exact q_zret B hr hlk rfl hw rfl rfl dL_asks_652
                                  · have hf := it_e hf c_71
                                    refine lv_iconst (v := 1) hx hb dL_asks_647 (by decide) ?_
                                    refine lv_goto (tgt := 652) hx hb dL_asks_648 (by decide) ?_
                                    refine W.widen (k := 27) (n := 162) (by omega) (by omega) ?_
                                    cases hf
                                    subst hQ
                                    exact q_zret B hr hlk rfl hw rfl rfl dL_asks_652
                              have hL_572 : ∀ (n_572 : Nat) (x21_72 : Int32) (M_73 : Mem) (H : Heap) (locs : List Loc) (ls : Array Slot) (c9_572 : Nat), c9_572 + n_572 * 1 = 20 →  HW (LW []) X M_73 s H locs → lv_has ls 24 [(0, .ref (X.2.2 0)), (7, .ref (X.2.2 146)), (13, .ref (X.2.2 151)), (18, .int x18_40), (21, .int x21_72)] → f_L_asks_L572 fu x18_40 k622_62 n_572 x21_72 M_73 = some rs → W p l e rm_L_asks s m args below meth c H locs (c9_572 + 0) (6 * (c9_572 + 0)) Q (F0 m 572 ls []) := by
                                intro n_572
                                induction n_572 with
                                | zero => intro x21_72 M_73 H locs ls c9_572 hc9_572 hw hl hf; exact no_none hf
                                | succ n_572 ih_572 =>
                                  intro x21_72 M_73 H locs ls c9_572 hc9_572 hw hl hf
                                  rw [f_L_asks_L572] at hf
                                  refine lv_iload hx hb dL_asks_572 (lv_at hl 4 rfl) ?_
                                  refine lv_aload hx hb dL_asks_574 (lv_at hl 1 rfl) ?_
                                  refine lv_iconst (v := 0) hx hb dL_asks_576 (by decide) ?_
                                  refine w_iald B hw (i := 146) (kw146 _) (by decide) dL_asks_577 ?_
                                  refine lv_icmp_ge (tgt := 622) hx hb dL_asks_578 (by decide) (fun c_74 => ?_) (fun c_74 => ?_)
                                  · have hf := it_e hf c_74
                                    refine W.widen (k := 20) (n := 120) (by omega) (by omega) ?_
                                    exact J622_62 M_73 _ _ _ hw (lv_sub hl [0, 1] rfl) hf
                                  · have hf := ie_e hf c_74
                                    refine lv_iload hx hb dL_asks_581 (lv_at hl 3 rfl) ?_
                                    refine lv_iconst (v := 2) hx hb dL_asks_583 (by decide) ?_
                                    refine lv_iload hx hb dL_asks_584 (lv_at hl 4 rfl) ?_
                                    refine lv_imul hx hb dL_asks_586 ?_
                                    refine lv_ishr hx hb dL_asks_587 ?_
                                    refine lv_iconst (v := 3) hx hb dL_asks_588 (by decide) ?_
                                    refine lv_iand hx hb dL_asks_589 ?_
                                    refine r_topn hf (fun x22_75 hf => ?_)
                                    refine lv_istore (lv' := [(22, .int x22_75), (0, .ref (X.2.2 0)), (7, .ref (X.2.2 146)), (13, .ref (X.2.2 151)), (18, .int x18_40), (21, .int x21_72)]) hx hb dL_asks_590 hl (by decide) rfl (fun ls hl => ?_)
                                    refine lv_aload_n hx hb dL_asks_592 rfl (lv_at hl 1 rfl) ?_
                                    refine lv_iload hx hb dL_asks_593 (lv_at hl 5 rfl) ?_
                                    obtain ⟨r_77, M_78, h_76, hf⟩ := bm_e hf
                                    refine w_wrap (n := 2) (M' := M_78) (v := r_77) (As := [.ref (X.2.2 0), .int x21_72]) (rest := []) B T N9 hw (c_L_taken l hfl _ X fu x21_72 M_73 (r_77, M_78) h_76 _) km_L_307 kt_L_taken ki_L kc_L_taken ⟨by decide +kernel, by decide +kernel, by decide +kernel⟩ rfl hl.1 rfl rfl ⟨(Nat.le_of_ble_eq_true rfl), (Nat.le_of_ble_eq_true rfl)⟩ (Nat.le_of_ble_eq_true rfl) ⟨by show _ ≤ (27 : Nat); omega, by show _ ≤ (162 : Nat); omega⟩ dL_asks_595 rfl (fun H locs hw => ?_)
                                    refine W.widen (k := (c9_572 + 1)) (n := (6 * (c9_572 + 1))) (by omega) (by omega) ?_
                                    refine lv_bipush (v := 10) hx hb dL_asks_598 (by decide) ?_
                                    refine lv_iload hx hb dL_asks_600 (lv_at hl 0 rfl) ?_
                                    refine lv_imul hx hb dL_asks_602 ?_
                                    refine lv_aload hx hb dL_asks_603 (lv_at hl 3 rfl) ?_
                                    refine lv_iconst (v := 4) hx hb dL_asks_605 (by decide) ?_
                                    refine lv_iload hx hb dL_asks_606 (lv_at hl 0 rfl) ?_
                                    refine lv_imul hx hb dL_asks_608 ?_
                                    obtain ⟨g_79, hf⟩ := grd_e hf
                                    refine w_iald B hw (i := 151) (kw151 _) g_79 dL_asks_609 ?_
                                    refine lv_iadd hx hb dL_asks_610 ?_
                                    refine lv_icmp_eq (tgt := 616) hx hb dL_asks_611 (by decide) (fun c_80 => ?_) (fun c_80 => ?_)
                                    · have hf := it_e hf c_80
                                      refine r_iinc (v := (x21_72 + 1)) hx hb dL_asks_616 hl (k := 5) rfl rfl (by decide) hf (fun x21_81 ls hl hf => ?_)
                                      have hl : lv_has ls 24 [(21, .int x21_81), (22, .int x22_75), (0, .ref (X.2.2 0)), (7, .ref (X.2.2 146)), (13, .ref (X.2.2 151)), (18, .int x18_40)] := hl
                                      refine lv_goto (tgt := 572) hx hb dL_asks_619 (by decide) ?_
                                      refine W.widen (k := (c9_572 + 1)) (n := (6 * (c9_572 + 1))) (by omega) (by omega) ?_
                                      exact ih_572 x21_81 M_78 _ _ _ (c9_572 + 1) (by omega) hw (lv_sub hl [2, 3, 4, 5, 0] rfl) hf
                                    · have hf := ie_e hf c_80
                                      refine lv_iconst (v := 0) hx hb dL_asks_614 (by decide) ?_
                                      refine W.widen (k := 27) (n := 162) (by omega) (by omega) ?_
                                      cases hf
                                      subst hQ
                                      exact q_zret B hr hlk rfl hw rfl rfl dL_asks_615
                              exact hL_572 4 0 M_60 _ _ _ 16 (by omega) hw (lv_sub hl [1, 2, 5, 10, 0] rfl) hf
                            · have hf := ie_e hf c_61
                              refine lv_iconst (v := 0) hx hb dL_asks_567 (by decide) ?_
                              refine W.widen (k := 27) (n := 162) (by omega) (by omega) ?_
                              cases hf
                              subst hQ
                              exact q_zret B hr hlk rfl hw rfl rfl dL_asks_568
                      have hL_404 : ∀ (n_404 : Nat) (x19_82 : Int32) (x20_83 : Int32) (x21_84 : Int32) (H : Heap) (locs : List Loc) (ls : Array Slot), HW (LW []) X M_41 s H locs → lv_has ls 24 [(0, .ref (X.2.2 0)), (7, .ref (X.2.2 146)), (11, .ref (X.2.2 149)), (12, .ref (X.2.2 150)), (13, .ref (X.2.2 151)), (14, .ref (X.2.2 152)), (15, .ref (X.2.2 154)), (16, .int v_2), (17, .int v_4), (18, .int x18_40), (19, .int x19_82), (20, .int x20_83), (21, .int x21_84)] → f_L_asks_L404 fu M_41 k479_43 n_404 x19_82 x20_83 x21_84 = some rs → W p l e rm_L_asks s m args below meth c H locs 14 84 Q (F0 m 404 ls []) := by
                        intro n_404
                        induction n_404 with
                        | zero => intro x19_82 x20_83 x21_84 H locs ls hw hl hf; exact no_none hf
                        | succ n_404 ih_404 =>
                          intro x19_82 x20_83 x21_84 H locs ls hw hl hf
                          rw [f_L_asks_L404] at hf
                          refine lv_iload hx hb dL_asks_404 (lv_at hl 12 rfl) ?_
                          refine lv_aload hx hb dL_asks_406 (lv_at hl 1 rfl) ?_
                          refine lv_iconst (v := 0) hx hb dL_asks_408 (by decide) ?_
                          refine w_iald B hw (i := 146) (kw146 _) (by decide) dL_asks_409 ?_
                          refine lv_icmp_ge (tgt := 479) hx hb dL_asks_410 (by decide) (fun c_85 => ?_) (fun c_85 => ?_)
                          · have hf := it_e hf c_85
                            exact J479_43 x19_82 x20_83 _ _ _ hw (lv_sub hl [0, 1, 2, 3, 4, 5, 6, 7, 8, 9, 10, 11] rfl) hf
                          · have hf := ie_e hf c_85
                            refine lv_aload hx hb dL_asks_413 (lv_at hl 4 rfl) ?_
                            refine lv_iconst (v := 4) hx hb dL_asks_415 (by decide) ?_
                            refine lv_iload hx hb dL_asks_416 (lv_at hl 12 rfl) ?_
                            refine lv_imul hx hb dL_asks_418 ?_
                            refine lv_iconst (v := 2) hx hb dL_asks_419 (by decide) ?_
                            refine lv_iadd hx hb dL_asks_420 ?_
                            obtain ⟨g_86, hf⟩ := grd_e hf
                            refine w_iald B hw (i := 151) (kw151 _) g_86 dL_asks_421 ?_
                            refine lv_iload hx hb dL_asks_422 (lv_at hl 10 rfl) ?_
                            refine nmv_e hf (fun kk => ∀ (H : Heap) (locs : List Loc), HW (LW []) X M_41 s H locs → W p l e rm_L_asks s m args below meth c H locs 14 84 Q (F0 m 441 ls [.int kk])) (fun J => ?_) (fun v_88 hf H locs hw => ?_)
                            · refine lv_icmp_le (tgt := 439) hx hb dL_asks_424 (by decide) (fun c_87 => ?_) (fun c_87 => ?_)
                              · rw [if_pos (show (M_41 151 ((4 * x21_84) + 2).toNatClampNeg) ≤ x19_82 from c_87)] at J
                                refine lv_iload hx hb dL_asks_439 (lv_at hl 10 rfl) ?_
                                exact J _ _ hw
                              · rw [if_neg (show ¬ ((M_41 151 ((4 * x21_84) + 2).toNatClampNeg) ≤ x19_82) from c_87)] at J
                                refine lv_aload hx hb dL_asks_427 (lv_at hl 4 rfl) ?_
                                refine lv_iconst (v := 4) hx hb dL_asks_429 (by decide) ?_
                                refine lv_iload hx hb dL_asks_430 (lv_at hl 12 rfl) ?_
                                refine lv_imul hx hb dL_asks_432 ?_
                                refine lv_iconst (v := 2) hx hb dL_asks_433 (by decide) ?_
                                refine lv_iadd hx hb dL_asks_434 ?_
                                refine w_iald B hw (i := 151) (kw151 _) g_86 dL_asks_435 ?_
                                refine lv_goto (tgt := 441) hx hb dL_asks_436 (by decide) ?_
                                exact J _ _ hw
                            · refine lv_istore (lv' := [(19, .int v_88), (0, .ref (X.2.2 0)), (7, .ref (X.2.2 146)), (11, .ref (X.2.2 149)), (12, .ref (X.2.2 150)), (13, .ref (X.2.2 151)), (14, .ref (X.2.2 152)), (15, .ref (X.2.2 154)), (16, .int v_2), (17, .int v_4), (18, .int x18_40), (20, .int x20_83), (21, .int x21_84)]) hx hb dL_asks_441 hl (by decide) rfl (fun ls hl => ?_)
                              refine lv_aload hx hb dL_asks_443 (lv_at hl 5 rfl) ?_
                              refine lv_iconst (v := 4) hx hb dL_asks_445 (by decide) ?_
                              refine lv_iload hx hb dL_asks_446 (lv_at hl 12 rfl) ?_
                              refine lv_imul hx hb dL_asks_448 ?_
                              refine lv_iconst (v := 3) hx hb dL_asks_449 (by decide) ?_
                              refine lv_iadd hx hb dL_asks_450 ?_
                              obtain ⟨g_89, hf⟩ := grd_e hf
                              refine w_iald B hw (i := 151) (kw151 _) g_89 dL_asks_451 ?_
                              refine lv_iload hx hb dL_asks_452 (lv_at hl 11 rfl) ?_
                              refine lv_icmp_ge (tgt := 469) hx hb dL_asks_454 (by decide) (fun c_90 => ?_) (fun c_90 => ?_)
                              · have hf := it_e hf c_90
                                refine lv_iload hx hb dL_asks_469 (lv_at hl 11 rfl) ?_
                                refine lv_istore (lv' := [(20, .int x20_83), (19, .int v_88), (0, .ref (X.2.2 0)), (7, .ref (X.2.2 146)), (11, .ref (X.2.2 149)), (12, .ref (X.2.2 150)), (13, .ref (X.2.2 151)), (14, .ref (X.2.2 152)), (15, .ref (X.2.2 154)), (16, .int v_2), (17, .int v_4), (18, .int x18_40), (21, .int x21_84)]) hx hb dL_asks_471 hl (by decide) rfl (fun ls hl => ?_)
                                refine r_iinc (v := (x21_84 + 1)) hx hb dL_asks_473 hl (k := 12) rfl rfl (by decide) hf (fun x21_91 ls hl hf => ?_)
                                have hl : lv_has ls 24 [(21, .int x21_91), (20, .int x20_83), (19, .int v_88), (0, .ref (X.2.2 0)), (7, .ref (X.2.2 146)), (11, .ref (X.2.2 149)), (12, .ref (X.2.2 150)), (13, .ref (X.2.2 151)), (14, .ref (X.2.2 152)), (15, .ref (X.2.2 154)), (16, .int v_2), (17, .int v_4), (18, .int x18_40)] := hl
                                refine lv_goto (tgt := 404) hx hb dL_asks_476 (by decide) ?_
                                exact ih_404 v_88 x20_83 x21_91 _ _ _ hw (lv_sub hl [3, 4, 5, 6, 7, 8, 9, 10, 11, 12, 2, 1, 0] rfl) hf
                              · have hf := ie_e hf c_90
                                refine lv_aload hx hb dL_asks_457 (lv_at hl 5 rfl) ?_
                                refine lv_iconst (v := 4) hx hb dL_asks_459 (by decide) ?_
                                refine lv_iload hx hb dL_asks_460 (lv_at hl 12 rfl) ?_
                                refine lv_imul hx hb dL_asks_462 ?_
                                refine lv_iconst (v := 3) hx hb dL_asks_463 (by decide) ?_
                                refine lv_iadd hx hb dL_asks_464 ?_
                                refine w_iald B hw (i := 151) (kw151 _) g_89 dL_asks_465 ?_
                                refine lv_goto (tgt := 471) hx hb dL_asks_466 (by decide) ?_
                                refine r_topn hf (fun x20_92 hf => ?_)
                                refine lv_istore (lv' := [(20, .int x20_92), (19, .int v_88), (0, .ref (X.2.2 0)), (7, .ref (X.2.2 146)), (11, .ref (X.2.2 149)), (12, .ref (X.2.2 150)), (13, .ref (X.2.2 151)), (14, .ref (X.2.2 152)), (15, .ref (X.2.2 154)), (16, .int v_2), (17, .int v_4), (18, .int x18_40), (21, .int x21_84)]) hx hb dL_asks_471 hl (by decide) rfl (fun ls hl => ?_)
                                refine r_iinc (v := (x21_84 + 1)) hx hb dL_asks_473 hl (k := 12) rfl rfl (by decide) hf (fun x21_93 ls hl hf => ?_)
                                have hl : lv_has ls 24 [(21, .int x21_93), (20, .int x20_92), (19, .int v_88), (0, .ref (X.2.2 0)), (7, .ref (X.2.2 146)), (11, .ref (X.2.2 149)), (12, .ref (X.2.2 150)), (13, .ref (X.2.2 151)), (14, .ref (X.2.2 152)), (15, .ref (X.2.2 154)), (16, .int v_2), (17, .int v_4), (18, .int x18_40)] := hl
                                refine lv_goto (tgt := 404) hx hb dL_asks_476 (by decide) ?_
                                exact ih_404 v_88 x20_92 x21_93 _ _ _ hw (lv_sub hl [3, 4, 5, 6, 7, 8, 9, 10, 11, 12, 2, 1, 0] rfl) hf
                      exact hL_404 fu 0 x20_42 0 _ _ _ hw (lv_sub hl [3, 4, 5, 6, 7, 8, 9, 10, 11, 12, 2, 1, 0] rfl) hf
                    have hL_229 : ∀ (n_229 : Nat) (x18_94 : Int32) (x19_95 : Int32) (M_96 : Mem) (H : Heap) (locs : List Loc) (ls : Array Slot) (c9_229 : Nat), c9_229 + n_229 * 2 = 14 →  HW (LW []) X M_96 s H locs → lv_has ls 24 [(0, .ref (X.2.2 0)), (3, .ref (X.2.2 142)), (4, .ref (X.2.2 143)), (5, .ref (X.2.2 144)), (6, .ref (X.2.2 145)), (7, .ref (X.2.2 146)), (8, .ref (X.2.2 147)), (9, .ref (X.2.2 148)), (10, .ref (X.2.2 153)), (11, .ref (X.2.2 149)), (12, .ref (X.2.2 150)), (13, .ref (X.2.2 151)), (14, .ref (X.2.2 152)), (15, .ref (X.2.2 154)), (16, .int v_2), (17, .int v_4), (18, .int x18_94), (19, .int x19_95)] → f_L_asks_L229 fu k392_39 n_229 x18_94 x19_95 M_96 = some rs → W p l e rm_L_asks s m args below meth c H locs (c9_229 + 0) (6 * (c9_229 + 0)) Q (F0 m 229 ls []) := by
                      intro n_229
                      induction n_229 with
                      | zero => intro x18_94 x19_95 M_96 H locs ls c9_229 hc9_229 hw hl hf; exact no_none hf
                      | succ n_229 ih_229 =>
                        intro x18_94 x19_95 M_96 H locs ls c9_229 hc9_229 hw hl hf
                        rw [f_L_asks_L229] at hf
                        refine lv_iload hx hb dL_asks_229 (lv_at hl 17 rfl) ?_
                        refine lv_aload hx hb dL_asks_231 (lv_at hl 5 rfl) ?_
                        refine lv_iconst (v := 0) hx hb dL_asks_233 (by decide) ?_
                        refine w_iald B hw (i := 146) (kw146 _) (by decide) dL_asks_234 ?_
                        refine lv_icmp_ge (tgt := 392) hx hb dL_asks_235 (by decide) (fun c_97 => ?_) (fun c_97 => ?_)
                        · have hf := it_e hf c_97
                          refine W.widen (k := 14) (n := 84) (by omega) (by omega) ?_
                          exact J392_39 x18_94 M_96 _ _ _ hw (lv_sub hl [0, 5, 9, 10, 11, 12, 13, 14, 15, 16] rfl) hf
                        · have hf := ie_e hf c_97
                          refine lv_iconst (v := (-1)) hx hb dL_asks_238 (by decide) ?_
                          refine lv_istore (lv' := [(20, .int (-1)), (0, .ref (X.2.2 0)), (3, .ref (X.2.2 142)), (4, .ref (X.2.2 143)), (5, .ref (X.2.2 144)), (6, .ref (X.2.2 145)), (7, .ref (X.2.2 146)), (8, .ref (X.2.2 147)), (9, .ref (X.2.2 148)), (10, .ref (X.2.2 153)), (11, .ref (X.2.2 149)), (12, .ref (X.2.2 150)), (13, .ref (X.2.2 151)), (14, .ref (X.2.2 152)), (15, .ref (X.2.2 154)), (16, .int v_2), (17, .int v_4), (18, .int x18_94), (19, .int x19_95)]) hx hb dL_asks_239 hl (by decide) rfl (fun ls hl => ?_)
                          refine lv_ldcw (own := RL) (v := 1048576) hx hb B.hown (B.hts _ (big_at 1155 (by decide +kernel) (by decide +kernel))) dL_asks_241 ?_
                          refine lv_istore (lv' := [(21, .int 1048576), (20, .int (-1)), (0, .ref (X.2.2 0)), (3, .ref (X.2.2 142)), (4, .ref (X.2.2 143)), (5, .ref (X.2.2 144)), (6, .ref (X.2.2 145)), (7, .ref (X.2.2 146)), (8, .ref (X.2.2 147)), (9, .ref (X.2.2 148)), (10, .ref (X.2.2 153)), (11, .ref (X.2.2 149)), (12, .ref (X.2.2 150)), (13, .ref (X.2.2 151)), (14, .ref (X.2.2 152)), (15, .ref (X.2.2 154)), (16, .int v_2), (17, .int v_4), (18, .int x18_94), (19, .int x19_95)]) hx hb dL_asks_244 hl (by decide) rfl (fun ls hl => ?_)
                          refine lv_iconst (v := 0) hx hb dL_asks_246 (by decide) ?_
                          refine lv_istore (lv' := [(22, .int 0), (21, .int 1048576), (20, .int (-1)), (0, .ref (X.2.2 0)), (3, .ref (X.2.2 142)), (4, .ref (X.2.2 143)), (5, .ref (X.2.2 144)), (6, .ref (X.2.2 145)), (7, .ref (X.2.2 146)), (8, .ref (X.2.2 147)), (9, .ref (X.2.2 148)), (10, .ref (X.2.2 153)), (11, .ref (X.2.2 149)), (12, .ref (X.2.2 150)), (13, .ref (X.2.2 151)), (14, .ref (X.2.2 152)), (15, .ref (X.2.2 154)), (16, .int v_2), (17, .int v_4), (18, .int x18_94), (19, .int x19_95)]) hx hb dL_asks_247 hl (by decide) rfl (fun ls hl => ?_)
                          refine jn_e hf (fun kk => ∀ (x20_99 : Int32) (H : Heap) (locs : List Loc) (ls : Array Slot), HW (LW []) X M_96 s H locs → lv_has ls 24 [(0, .ref (X.2.2 0)), (3, .ref (X.2.2 142)), (4, .ref (X.2.2 143)), (5, .ref (X.2.2 144)), (6, .ref (X.2.2 145)), (7, .ref (X.2.2 146)), (8, .ref (X.2.2 147)), (9, .ref (X.2.2 148)), (10, .ref (X.2.2 153)), (11, .ref (X.2.2 149)), (12, .ref (X.2.2 150)), (13, .ref (X.2.2 151)), (14, .ref (X.2.2 152)), (15, .ref (X.2.2 154)), (16, .int v_2), (17, .int v_4), (18, .int x18_94), (19, .int x19_95), (20, .int x20_99)] → kk x20_99 = some rs → W p l e rm_L_asks s m args below meth c H locs (c9_229 + 0) (6 * (c9_229 + 0)) Q (F0 m 326 ls [])) ?_ (fun k326_98 J326_98 hf => ?_)
                          · intro x20_99 H locs ls hw hl hf
                            refine lv_aload_n hx hb dL_asks_326 rfl (lv_at hl 1 rfl) ?_
                            refine lv_aload hx hb dL_asks_327 (lv_at hl 2 rfl) ?_
                            refine lv_aload hx hb dL_asks_329 (lv_at hl 3 rfl) ?_
                            refine lv_aload hx hb dL_asks_331 (lv_at hl 4 rfl) ?_
                            refine lv_aload hx hb dL_asks_333 (lv_at hl 5 rfl) ?_
                            refine lv_aload hx hb dL_asks_335 (lv_at hl 6 rfl) ?_
                            refine lv_aload hx hb dL_asks_337 (lv_at hl 7 rfl) ?_
                            refine lv_aload hx hb dL_asks_339 (lv_at hl 8 rfl) ?_
                            refine lv_aload hx hb dL_asks_341 (lv_at hl 9 rfl) ?_
                            refine lv_aload hx hb dL_asks_343 (lv_at hl 10 rfl) ?_
                            refine lv_aload hx hb dL_asks_345 (lv_at hl 11 rfl) ?_
                            refine lv_aload hx hb dL_asks_347 (lv_at hl 12 rfl) ?_
                            refine lv_iload hx hb dL_asks_349 (lv_at hl 18 rfl) ?_
                            obtain ⟨M_101, h_100, hf⟩ := bd_e hf
                            refine wn_callSv (M' := M_101) (As := [.ref (X.2.2 142), .ref (X.2.2 143), .ref (X.2.2 144), .ref (X.2.2 145), .ref (X.2.2 146), .ref (X.2.2 147), .ref (X.2.2 148), .ref (X.2.2 153), .ref (X.2.2 149), .ref (X.2.2 150), .ref (X.2.2 151), .ref (X.2.2 152), .int x20_99]) (rest := []) B T N9 hw (c_L_take l hfl X fu x20_99 M_96 M_101 h_100 _) cs_L_299 rfl hl.1 rfl rfl ⟨(Nat.le_of_ble_eq_true rfl), (Nat.le_of_ble_eq_true rfl)⟩ (Nat.le_of_ble_eq_true rfl) ⟨by show _ ≤ (27 : Nat); omega, by show _ ≤ (162 : Nat); omega⟩ dL_asks_351 rfl (fun H locs hw => ?_)
                            refine W.widen (k := (c9_229 + 2)) (n := (6 * (c9_229 + 2))) (by omega) (by omega) ?_
                            refine lv_iload hx hb dL_asks_354 (lv_at hl 16 rfl) ?_
                            refine lv_iload hx hb dL_asks_356 (lv_at hl 18 rfl) ?_
                            refine lv_iconst (v := 2) hx hb dL_asks_358 (by decide) ?_
                            refine lv_iload hx hb dL_asks_359 (lv_at hl 17 rfl) ?_
                            refine lv_imul hx hb dL_asks_361 ?_
                            refine lv_ishl hx hb dL_asks_362 ?_
                            refine lv_iadd hx hb dL_asks_363 ?_
                            refine r_topn hf (fun x18_102 hf => ?_)
                            refine lv_istore (lv' := [(18, .int x18_102), (0, .ref (X.2.2 0)), (3, .ref (X.2.2 142)), (4, .ref (X.2.2 143)), (5, .ref (X.2.2 144)), (6, .ref (X.2.2 145)), (7, .ref (X.2.2 146)), (8, .ref (X.2.2 147)), (9, .ref (X.2.2 148)), (10, .ref (X.2.2 153)), (11, .ref (X.2.2 149)), (12, .ref (X.2.2 150)), (13, .ref (X.2.2 151)), (14, .ref (X.2.2 152)), (15, .ref (X.2.2 154)), (16, .int v_2), (17, .int v_4), (19, .int x19_95), (20, .int x20_99)]) hx hb dL_asks_364 hl (by decide) rfl (fun ls hl => ?_)
                            refine lv_aload hx hb dL_asks_366 (lv_at hl 13 rfl) ?_
                            refine lv_bipush (v := 11) hx hb dL_asks_368 (by decide) ?_
                            refine lv_dup2_11 hx hb dL_asks_370 rfl rfl ?_
                            refine w_iald B hw (i := 152) (kw152 _) (by decide) dL_asks_371 ?_
                            refine lv_aload hx hb dL_asks_372 (lv_at hl 12 rfl) ?_
                            refine lv_iconst (v := 4) hx hb dL_asks_374 (by decide) ?_
                            refine lv_iload hx hb dL_asks_375 (lv_at hl 18 rfl) ?_
                            refine lv_imul hx hb dL_asks_377 ?_
                            refine lv_iconst (v := 1) hx hb dL_asks_378 (by decide) ?_
                            refine lv_iadd hx hb dL_asks_379 ?_
                            obtain ⟨g_103, hf⟩ := grd_e hf
                            refine w_iald B hw (i := 151) (kw151 _) g_103 dL_asks_380 ?_
                            refine lv_iload hx hb dL_asks_381 (lv_at hl 18 rfl) ?_
                            refine lv_ishl hx hb dL_asks_383 ?_
                            refine lv_ior hx hb dL_asks_384 ?_
                            refine w_iast B hw (i := 152) (kw152 _) (by decide) dL_asks_385 hf (fun M_104 H locs hw hf => ?_)
                            refine r_iinc (v := (x19_95 + 1)) hx hb dL_asks_386 hl (k := 17) rfl rfl (by decide) hf (fun x19_105 ls hl hf => ?_)
                            have hl : lv_has ls 24 [(19, .int x19_105), (18, .int x18_102), (0, .ref (X.2.2 0)), (3, .ref (X.2.2 142)), (4, .ref (X.2.2 143)), (5, .ref (X.2.2 144)), (6, .ref (X.2.2 145)), (7, .ref (X.2.2 146)), (8, .ref (X.2.2 147)), (9, .ref (X.2.2 148)), (10, .ref (X.2.2 153)), (11, .ref (X.2.2 149)), (12, .ref (X.2.2 150)), (13, .ref (X.2.2 151)), (14, .ref (X.2.2 152)), (15, .ref (X.2.2 154)), (16, .int v_2), (17, .int v_4), (20, .int x20_99)] := hl
                            refine lv_goto (tgt := 229) hx hb dL_asks_389 (by decide) ?_
                            refine W.widen (k := (c9_229 + 2)) (n := (6 * (c9_229 + 2))) (by omega) (by omega) ?_
                            exact ih_229 x18_102 x19_105 M_104 _ _ _ (c9_229 + 2) (by omega) hw (lv_sub hl [2, 3, 4, 5, 6, 7, 8, 9, 10, 11, 12, 13, 14, 15, 16, 17, 1, 0] rfl) hf
                          have hL_249 : ∀ (n_249 : Nat) (x20_106 : Int32) (x21_107 : Int32) (x22_108 : Int32) (H : Heap) (locs : List Loc) (ls : Array Slot), HW (LW []) X M_96 s H locs → lv_has ls 24 [(0, .ref (X.2.2 0)), (3, .ref (X.2.2 142)), (4, .ref (X.2.2 143)), (5, .ref (X.2.2 144)), (6, .ref (X.2.2 145)), (7, .ref (X.2.2 146)), (8, .ref (X.2.2 147)), (9, .ref (X.2.2 148)), (10, .ref (X.2.2 153)), (11, .ref (X.2.2 149)), (12, .ref (X.2.2 150)), (13, .ref (X.2.2 151)), (14, .ref (X.2.2 152)), (15, .ref (X.2.2 154)), (16, .int v_2), (17, .int v_4), (18, .int x18_94), (19, .int x19_95), (20, .int x20_106), (21, .int x21_107), (22, .int x22_108)] → f_L_asks_L249 fu M_96 k326_98 n_249 x20_106 x21_107 x22_108 = some rs → W p l e rm_L_asks s m args below meth c H locs (c9_229 + 0) (6 * (c9_229 + 0)) Q (F0 m 249 ls []) := by
                            intro n_249
                            induction n_249 with
                            | zero => intro x20_106 x21_107 x22_108 H locs ls hw hl hf; exact no_none hf
                            | succ n_249 ih_249 =>
                              intro x20_106 x21_107 x22_108 H locs ls hw hl hf
                              rw [f_L_asks_L249] at hf
                              refine lv_iload hx hb dL_asks_249 (lv_at hl 20 rfl) ?_
                              refine lv_aload hx hb dL_asks_251 (lv_at hl 5 rfl) ?_
                              refine lv_iconst (v := 0) hx hb dL_asks_253 (by decide) ?_
                              refine w_iald B hw (i := 146) (kw146 _) (by decide) dL_asks_254 ?_
                              refine lv_icmp_ge (tgt := 326) hx hb dL_asks_255 (by decide) (fun c_109 => ?_) (fun c_109 => ?_)
                              · have hf := it_e hf c_109
                                exact J326_98 x20_106 _ _ _ hw (lv_sub hl [0, 1, 2, 3, 4, 5, 6, 7, 8, 9, 10, 11, 12, 13, 14, 15, 16, 17, 18] rfl) hf
                              · have hf := ie_e hf c_109
                                refine lv_aload hx hb dL_asks_258 (lv_at hl 11 rfl) ?_
                                refine lv_iconst (v := 4) hx hb dL_asks_260 (by decide) ?_
                                refine lv_iload hx hb dL_asks_261 (lv_at hl 20 rfl) ?_
                                refine lv_imul hx hb dL_asks_263 ?_
                                obtain ⟨g_110, hf⟩ := grd_e hf
                                refine w_iald B hw (i := 151) (kw151 _) g_110 dL_asks_264 ?_
                                refine lv_if_lt (tgt := 271) hx hb dL_asks_265 (by decide) (fun c_111 => ?_) (fun c_111 => ?_)
                                · have hf := it_e hf c_111
                                  refine lv_aload hx hb dL_asks_271 (lv_at hl 5 rfl) ?_
                                  refine lv_aload hx hb dL_asks_273 (lv_at hl 8 rfl) ?_
                                  refine lv_iload hx hb dL_asks_275 (lv_at hl 20 rfl) ?_
                                  obtain ⟨r_113, h_112, hf⟩ := bd_e hf
                                  refine q_callSi (M' := M_96) (As := [.ref (X.2.2 146), .ref (X.2.2 153), .int x22_108]) (rest := []) B hw (c_L_guess l _ X fu x22_108 M_96 r_113 h_112 _) cs_L_260 rfl hl.1 rfl rfl ⟨(Nat.le_of_ble_eq_true rfl), (Nat.le_of_ble_eq_true rfl)⟩ (Nat.le_of_ble_eq_true rfl) ⟨by show _ ≤ (27 : Nat); omega, by show _ ≤ (162 : Nat); omega⟩ dL_asks_277 rfl (fun H locs hw => ?_)
                                  refine lv_aload hx hb dL_asks_280 (lv_at hl 5 rfl) ?_
                                  refine lv_aload hx hb dL_asks_282 (lv_at hl 11 rfl) ?_
                                  refine lv_iload hx hb dL_asks_284 (lv_at hl 20 rfl) ?_
                                  obtain ⟨r_115, h_114, hf⟩ := bd_e hf
                                  refine q_callSi (M' := M_96) (As := [.ref (X.2.2 146), .ref (X.2.2 151), .int x22_108]) (rest := [.int r_113]) B hw (c_L_linkOf l _ X fu x22_108 M_96 r_115 h_114 _) cs_L_256 rfl hl.1 rfl rfl ⟨(Nat.le_of_ble_eq_true rfl), (Nat.le_of_ble_eq_true rfl)⟩ (Nat.le_of_ble_eq_true rfl) ⟨by show _ ≤ (27 : Nat); omega, by show _ ≤ (162 : Nat); omega⟩ dL_asks_286 rfl (fun H locs hw => ?_)
                                  refine nmv_e hf (fun kk => ∀ (H : Heap) (locs : List Loc), HW (LW []) X M_96 s H locs → W p l e rm_L_asks s m args below meth c H locs (c9_229 + 0) (6 * (c9_229 + 0)) Q (F0 m 299 ls [.int kk, .int r_113])) (fun J => ?_) (fun v_117 hf H locs hw => ?_)
                                  · refine lv_if_ge (tgt := 298) hx hb dL_asks_289 (by decide) (fun c_116 => ?_) (fun c_116 => ?_)
                                    · rw [if_pos (show 0 ≤ r_115 from c_116)] at J
                                      refine lv_iconst (v := 0) hx hb dL_asks_298 (by decide) ?_
                                      exact J _ _ hw
                                    · rw [if_neg (show ¬ (0 ≤ r_115) from c_116)] at J
                                      refine lv_sipush (v := 1000) hx hb dL_asks_292 (by decide) ?_
                                      refine lv_goto (tgt := 299) hx hb dL_asks_295 (by decide) ?_
                                      exact J _ _ hw
                                  · refine lv_iadd hx hb dL_asks_299 ?_
                                    refine r_topn hf (fun x23_118 hf => ?_)
                                    refine lv_istore (lv' := [(23, .int x23_118), (0, .ref (X.2.2 0)), (3, .ref (X.2.2 142)), (4, .ref (X.2.2 143)), (5, .ref (X.2.2 144)), (6, .ref (X.2.2 145)), (7, .ref (X.2.2 146)), (8, .ref (X.2.2 147)), (9, .ref (X.2.2 148)), (10, .ref (X.2.2 153)), (11, .ref (X.2.2 149)), (12, .ref (X.2.2 150)), (13, .ref (X.2.2 151)), (14, .ref (X.2.2 152)), (15, .ref (X.2.2 154)), (16, .int v_2), (17, .int v_4), (18, .int x18_94), (19, .int x19_95), (20, .int x20_106), (21, .int x21_107), (22, .int x22_108)]) hx hb dL_asks_300 hl (by decide) rfl (fun ls hl => ?_)
                                    refine lv_iload hx hb dL_asks_302 (lv_at hl 0 rfl) ?_
                                    refine lv_iload hx hb dL_asks_304 (lv_at hl 20 rfl) ?_
                                    refine lv_icmp_lt (tgt := 312) hx hb dL_asks_306 (by decide) (fun c_119 => ?_) (fun c_119 => ?_)
                                    · have hf := it_e hf c_119
                                      refine lv_iload hx hb dL_asks_312 (lv_at hl 0 rfl) ?_
                                      refine lv_istore (lv' := [(21, .int x23_118), (23, .int x23_118), (0, .ref (X.2.2 0)), (3, .ref (X.2.2 142)), (4, .ref (X.2.2 143)), (5, .ref (X.2.2 144)), (6, .ref (X.2.2 145)), (7, .ref (X.2.2 146)), (8, .ref (X.2.2 147)), (9, .ref (X.2.2 148)), (10, .ref (X.2.2 153)), (11, .ref (X.2.2 149)), (12, .ref (X.2.2 150)), (13, .ref (X.2.2 151)), (14, .ref (X.2.2 152)), (15, .ref (X.2.2 154)), (16, .int v_2), (17, .int v_4), (18, .int x18_94), (19, .int x19_95), (20, .int x20_106), (22, .int x22_108)]) hx hb dL_asks_314 hl (by decide) rfl (fun ls hl => ?_)
                                      refine lv_iload hx hb dL_asks_316 (lv_at hl 21 rfl) ?_
                                      refine lv_istore (lv' := [(20, .int x22_108), (21, .int x23_118), (23, .int x23_118), (0, .ref (X.2.2 0)), (3, .ref (X.2.2 142)), (4, .ref (X.2.2 143)), (5, .ref (X.2.2 144)), (6, .ref (X.2.2 145)), (7, .ref (X.2.2 146)), (8, .ref (X.2.2 147)), (9, .ref (X.2.2 148)), (10, .ref (X.2.2 153)), (11, .ref (X.2.2 149)), (12, .ref (X.2.2 150)), (13, .ref (X.2.2 151)), (14, .ref (X.2.2 152)), (15, .ref (X.2.2 154)), (16, .int v_2), (17, .int v_4), (18, .int x18_94), (19, .int x19_95), (22, .int x22_108)]) hx hb dL_asks_318 hl (by decide) rfl (fun ls hl => ?_)
                                      refine r_iinc (v := (x22_108 + 1)) hx hb dL_asks_320 hl (k := 21) rfl rfl (by decide) hf (fun x22_120 ls hl hf => ?_)
                                      have hl : lv_has ls 24 [(22, .int x22_120), (20, .int x22_108), (21, .int x23_118), (23, .int x23_118), (0, .ref (X.2.2 0)), (3, .ref (X.2.2 142)), (4, .ref (X.2.2 143)), (5, .ref (X.2.2 144)), (6, .ref (X.2.2 145)), (7, .ref (X.2.2 146)), (8, .ref (X.2.2 147)), (9, .ref (X.2.2 148)), (10, .ref (X.2.2 153)), (11, .ref (X.2.2 149)), (12, .ref (X.2.2 150)), (13, .ref (X.2.2 151)), (14, .ref (X.2.2 152)), (15, .ref (X.2.2 154)), (16, .int v_2), (17, .int v_4), (18, .int x18_94), (19, .int x19_95)] := hl
                                      refine lv_goto (tgt := 249) hx hb dL_asks_323 (by decide) ?_
                                      exact ih_249 x22_108 x23_118 x22_120 _ _ _ hw (lv_sub hl [4, 5, 6, 7, 8, 9, 10, 11, 12, 13, 14, 15, 16, 17, 18, 19, 20, 21, 1, 2, 0] rfl) hf
                                    · have hf := ie_e hf c_119
                                      refine lv_goto (tgt := 320) hx hb dL_asks_309 (by decide) ?_
                                      refine r_iinc (v := (x22_108 + 1)) hx hb dL_asks_320 hl (k := 21) rfl rfl (by decide) hf (fun x22_121 ls hl hf => ?_)
                                      have hl : lv_has ls 24 [(22, .int x22_121), (23, .int x23_118), (0, .ref (X.2.2 0)), (3, .ref (X.2.2 142)), (4, .ref (X.2.2 143)), (5, .ref (X.2.2 144)), (6, .ref (X.2.2 145)), (7, .ref (X.2.2 146)), (8, .ref (X.2.2 147)), (9, .ref (X.2.2 148)), (10, .ref (X.2.2 153)), (11, .ref (X.2.2 149)), (12, .ref (X.2.2 150)), (13, .ref (X.2.2 151)), (14, .ref (X.2.2 152)), (15, .ref (X.2.2 154)), (16, .int v_2), (17, .int v_4), (18, .int x18_94), (19, .int x19_95), (20, .int x20_106), (21, .int x21_107)] := hl
                                      refine lv_goto (tgt := 249) hx hb dL_asks_323 (by decide) ?_
                                      exact ih_249 x20_106 x21_107 x22_121 _ _ _ hw (lv_sub hl [2, 3, 4, 5, 6, 7, 8, 9, 10, 11, 12, 13, 14, 15, 16, 17, 18, 19, 20, 21, 0] rfl) hf
                                · have hf := ie_e hf c_111
                                  refine lv_goto (tgt := 320) hx hb dL_asks_268 (by decide) ?_
                                  refine r_iinc (v := (x22_108 + 1)) hx hb dL_asks_320 hl (k := 20) rfl rfl (by decide) hf (fun x22_122 ls hl hf => ?_)
                                  have hl : lv_has ls 24 [(22, .int x22_122), (0, .ref (X.2.2 0)), (3, .ref (X.2.2 142)), (4, .ref (X.2.2 143)), (5, .ref (X.2.2 144)), (6, .ref (X.2.2 145)), (7, .ref (X.2.2 146)), (8, .ref (X.2.2 147)), (9, .ref (X.2.2 148)), (10, .ref (X.2.2 153)), (11, .ref (X.2.2 149)), (12, .ref (X.2.2 150)), (13, .ref (X.2.2 151)), (14, .ref (X.2.2 152)), (15, .ref (X.2.2 154)), (16, .int v_2), (17, .int v_4), (18, .int x18_94), (19, .int x19_95), (20, .int x20_106), (21, .int x21_107)] := hl
                                  refine lv_goto (tgt := 249) hx hb dL_asks_323 (by decide) ?_
                                  exact ih_249 x20_106 x21_107 x22_122 _ _ _ hw (lv_sub hl [1, 2, 3, 4, 5, 6, 7, 8, 9, 10, 11, 12, 13, 14, 15, 16, 17, 18, 19, 20, 0] rfl) hf
                          exact hL_249 fu (-1) 1048576 0 _ _ _ hw (lv_sub hl [3, 4, 5, 6, 7, 8, 9, 10, 11, 12, 13, 14, 15, 16, 17, 18, 19, 20, 2, 1, 0] rfl) hf
                    exact hL_229 4 0 0 M_38 _ _ _ 6 (by omega) hw (lv_sub hl [2, 3, 4, 5, 6, 7, 8, 9, 10, 11, 12, 13, 14, 15, 16, 17, 1, 0] rfl) hf
                  have hL_203 : ∀ (n_203 : Nat) (x18_123 : Int32) (M_124 : Mem) (H : Heap) (locs : List Loc) (ls : Array Slot), HW (LW []) X M_124 s H locs → lv_has ls 24 [(0, .ref (X.2.2 0)), (3, .ref (X.2.2 142)), (4, .ref (X.2.2 143)), (5, .ref (X.2.2 144)), (6, .ref (X.2.2 145)), (7, .ref (X.2.2 146)), (8, .ref (X.2.2 147)), (9, .ref (X.2.2 148)), (10, .ref (X.2.2 153)), (11, .ref (X.2.2 149)), (12, .ref (X.2.2 150)), (13, .ref (X.2.2 151)), (14, .ref (X.2.2 152)), (15, .ref (X.2.2 154)), (16, .int v_2), (17, .int v_4), (18, .int x18_123)] → f_L_asks_L203 fu k223_37 n_203 x18_123 M_124 = some rs → W p l e rm_L_asks s m args below meth c H locs 6 36 Q (F0 m 203 ls []) := by
                    intro n_203
                    induction n_203 with
                    | zero => intro x18_123 M_124 H locs ls hw hl hf; exact no_none hf
                    | succ n_203 ih_203 =>
                      intro x18_123 M_124 H locs ls hw hl hf
                      rw [f_L_asks_L203] at hf
                      refine lv_iload hx hb dL_asks_203 (lv_at hl 16 rfl) ?_
                      refine lv_iconst (v := 3) hx hb dL_asks_205 (by decide) ?_
                      refine lv_icmp_ge (tgt := 223) hx hb dL_asks_206 (by decide) (fun c_125 => ?_) (fun c_125 => ?_)
                      · have hf := it_e hf c_125
                        exact J223_37 M_124 _ _ _ hw (lv_sub hl [0, 1, 2, 3, 4, 5, 6, 7, 8, 9, 10, 11, 12, 13, 14, 15] rfl) hf
                      · have hf := ie_e hf c_125
                        refine lv_aload hx hb dL_asks_209 (lv_at hl 11 rfl) ?_
                        refine lv_iconst (v := 4) hx hb dL_asks_211 (by decide) ?_
                        refine lv_iload hx hb dL_asks_212 (lv_at hl 16 rfl) ?_
                        refine lv_imul hx hb dL_asks_214 ?_
                        refine lv_iconst (v := (-1)) hx hb dL_asks_215 (by decide) ?_
                        obtain ⟨g_126, hf⟩ := grd_e hf
                        refine w_iast B hw (i := 151) (kw151 _) g_126 dL_asks_216 hf (fun M_127 H locs hw hf => ?_)
                        refine r_iinc (v := (x18_123 + 1)) hx hb dL_asks_217 hl (k := 16) rfl rfl (by decide) hf (fun x18_128 ls hl hf => ?_)
                        have hl : lv_has ls 24 [(18, .int x18_128), (0, .ref (X.2.2 0)), (3, .ref (X.2.2 142)), (4, .ref (X.2.2 143)), (5, .ref (X.2.2 144)), (6, .ref (X.2.2 145)), (7, .ref (X.2.2 146)), (8, .ref (X.2.2 147)), (9, .ref (X.2.2 148)), (10, .ref (X.2.2 153)), (11, .ref (X.2.2 149)), (12, .ref (X.2.2 150)), (13, .ref (X.2.2 151)), (14, .ref (X.2.2 152)), (15, .ref (X.2.2 154)), (16, .int v_2), (17, .int v_4)] := hl
                        refine lv_goto (tgt := 203) hx hb dL_asks_220 (by decide) ?_
                        exact ih_203 x18_128 M_127 _ _ _ hw (lv_sub hl [1, 2, 3, 4, 5, 6, 7, 8, 9, 10, 11, 12, 13, 14, 15, 16, 0] rfl) hf
                  exact hL_203 fu 0 M_36 _ _ _ hw (lv_sub hl [1, 2, 3, 4, 5, 6, 7, 8, 9, 10, 11, 12, 13, 14, 15, 16, 0] rfl) hf
                have hL_181 : ∀ (n_181 : Nat) (x18_129 : Int32) (M_130 : Mem) (H : Heap) (locs : List Loc) (ls : Array Slot), HW (LW []) X M_130 s H locs → lv_has ls 24 [(0, .ref (X.2.2 0)), (3, .ref (X.2.2 142)), (4, .ref (X.2.2 143)), (5, .ref (X.2.2 144)), (6, .ref (X.2.2 145)), (7, .ref (X.2.2 146)), (8, .ref (X.2.2 147)), (9, .ref (X.2.2 148)), (10, .ref (X.2.2 153)), (11, .ref (X.2.2 149)), (12, .ref (X.2.2 150)), (13, .ref (X.2.2 151)), (14, .ref (X.2.2 152)), (15, .ref (X.2.2 154)), (16, .int v_2), (17, .int v_4), (18, .int x18_129)] → f_L_asks_L181 fu k200_35 n_181 x18_129 M_130 = some rs → W p l e rm_L_asks s m args below meth c H locs 6 36 Q (F0 m 181 ls []) := by
                  intro n_181
                  induction n_181 with
                  | zero => intro x18_129 M_130 H locs ls hw hl hf; exact no_none hf
                  | succ n_181 ih_181 =>
                    intro x18_129 M_130 H locs ls hw hl hf
                    rw [f_L_asks_L181] at hf
                    refine lv_iload hx hb dL_asks_181 (lv_at hl 16 rfl) ?_
                    refine lv_bipush (v := 12) hx hb dL_asks_183 (by decide) ?_
                    refine lv_icmp_ge (tgt := 200) hx hb dL_asks_185 (by decide) (fun c_131 => ?_) (fun c_131 => ?_)
                    · have hf := it_e hf c_131
                      exact J200_35 M_130 _ _ _ hw (lv_sub hl [0, 1, 2, 3, 4, 5, 6, 7, 8, 9, 10, 11, 12, 13, 14, 15] rfl) hf
                    · have hf := ie_e hf c_131
                      refine lv_aload hx hb dL_asks_188 (lv_at hl 12 rfl) ?_
                      refine lv_iload hx hb dL_asks_190 (lv_at hl 16 rfl) ?_
                      refine lv_iconst (v := 0) hx hb dL_asks_192 (by decide) ?_
                      obtain ⟨g_132, hf⟩ := grd_e hf
                      refine w_iast B hw (i := 152) (kw152 _) g_132 dL_asks_193 hf (fun M_133 H locs hw hf => ?_)
                      refine r_iinc (v := (x18_129 + 1)) hx hb dL_asks_194 hl (k := 16) rfl rfl (by decide) hf (fun x18_134 ls hl hf => ?_)
                      have hl : lv_has ls 24 [(18, .int x18_134), (0, .ref (X.2.2 0)), (3, .ref (X.2.2 142)), (4, .ref (X.2.2 143)), (5, .ref (X.2.2 144)), (6, .ref (X.2.2 145)), (7, .ref (X.2.2 146)), (8, .ref (X.2.2 147)), (9, .ref (X.2.2 148)), (10, .ref (X.2.2 153)), (11, .ref (X.2.2 149)), (12, .ref (X.2.2 150)), (13, .ref (X.2.2 151)), (14, .ref (X.2.2 152)), (15, .ref (X.2.2 154)), (16, .int v_2), (17, .int v_4)] := hl
                      refine lv_goto (tgt := 181) hx hb dL_asks_197 (by decide) ?_
                      exact ih_181 x18_134 M_133 _ _ _ hw (lv_sub hl [1, 2, 3, 4, 5, 6, 7, 8, 9, 10, 11, 12, 13, 14, 15, 16, 0] rfl) hf
                exact hL_181 fu 7 M_34 _ _ _ hw (lv_sub hl [2, 3, 4, 5, 6, 7, 8, 9, 10, 11, 12, 13, 14, 15, 16, 1, 0] rfl) hf
              · have hf := it_e hf c_31
                exact J114_17 () _ _ _ hw (lv_sub hl [1, 15, 0] rfl) hf
          · have hf := ie_e hf c_16
            refine lv_iconst (v := 0) hx hb dL_asks_98 (by decide) ?_
            refine W.widen (k := 27) (n := 162) (by omega) (by omega) ?_
            cases hf
            subst hQ
            exact q_zret B hr hlk rfl hw rfl rfl dL_asks_99
    refine lv_if_le (tgt := 48) hx hb dL_asks_39 (by decide) (fun c_135 => ?_) (fun c_135 => ?_)
    · have hf := it_e hf c_135
      refine lv_iload_n hx hb dL_asks_48 rfl (lv_at hl 2 rfl) ?_
      refine lv_iconst (v := 3) hx hb dL_asks_49 (by decide) ?_
      refine lv_ishr hx hb dL_asks_50 ?_
      refine lv_bipush (v := 12) hx hb dL_asks_51 (by decide) ?_
      obtain ⟨r_137, h_136, hf⟩ := bd_e hf
      refine q_callSi (M' := M) (As := [.int (p2 >>> (3 &&& 31)), .int 12]) (rest := []) B hw (c_L_low l _ X fu (p2 >>> (3 &&& 31)) 12 M r_137 h_136 _) cs_L_130 rfl hl.1 rfl rfl ⟨(Nat.le_of_ble_eq_true rfl), (Nat.le_of_ble_eq_true rfl)⟩ (Nat.le_of_ble_eq_true rfl) ⟨(Nat.le_of_ble_eq_true rfl), (Nat.le_of_ble_eq_true rfl)⟩ dL_asks_53 rfl (fun H locs hw => ?_)
      exact J56_3 r_137 _ _ _ hw (lv_sub hl [1, 3, 4, 5, 6, 7, 8, 9, 10, 11, 12, 13, 14, 15, 0] rfl) hf
    · have hf := ie_e hf c_135
      refine lv_sipush (v := 200) hx hb dL_asks_42 (by decide) ?_
      refine lv_goto (tgt := 56) hx hb dL_asks_45 (by decide) ?_
      exact J56_3 200 _ _ _ hw (lv_sub hl [1, 3, 4, 5, 6, 7, 8, 9, 10, 11, 12, 13, 14, 15, 0] rfl) hf
  refine lv_if_ne (tgt := 11) hx hb dL_asks_4 (by decide) (fun c_138 => ?_) (fun c_138 => ?_)
  · have hf := ie_e hf c_138
    refine lv_iload_n hx hb dL_asks_11 rfl (lv_at hl 1 rfl) ?_
    refine lv_iconst (v := 3) hx hb dL_asks_12 (by decide) ?_
    refine lv_ishr hx hb dL_asks_13 ?_
    refine lv_iload_n hx hb dL_asks_14 rfl (lv_at hl 1 rfl) ?_
    refine lv_sipush (v := 768) hx hb dL_asks_15 (by decide) ?_
    refine lv_iand hx hb dL_asks_18 ?_
    refine nmv_e hf (fun kk => ∀ (H : Heap) (locs : List Loc), HW (LW []) X M s H locs → W p l e rm_L_asks s m args below meth c H locs 0 0 Q (F0 m 30 ls [.int kk, .int (p1 >>> (3 &&& 31))])) (fun J => ?_) (fun v_140 hf H locs hw => ?_)
    · refine lv_if_ne (tgt := 28) hx hb dL_asks_19 (by decide) (fun c_139 => ?_) (fun c_139 => ?_)
      · rw [if_neg (show ¬ ((p1 &&& 768) = 0) from c_139)] at J
        refine lv_bipush (v := 40) hx hb dL_asks_28 (by decide) ?_
        exact J _ _ hw
      · rw [if_pos (show (p1 &&& 768) = 0 from c_139)] at J
        refine lv_sipush (v := 201) hx hb dL_asks_22 (by decide) ?_
        refine lv_goto (tgt := 30) hx hb dL_asks_25 (by decide) ?_
        exact J _ _ hw
    · obtain ⟨r_142, h_141, hf⟩ := bd_e hf
      refine q_callSi (M' := M) (As := [.int (p1 >>> (3 &&& 31)), .int v_140]) (rest := []) B hw (c_L_low l _ X fu (p1 >>> (3 &&& 31)) v_140 M r_142 h_141 _) cs_L_130 rfl hl.1 rfl rfl ⟨(Nat.le_of_ble_eq_true rfl), (Nat.le_of_ble_eq_true rfl)⟩ (Nat.le_of_ble_eq_true rfl) ⟨(Nat.le_of_ble_eq_true rfl), (Nat.le_of_ble_eq_true rfl)⟩ dL_asks_30 rfl (fun H locs hw => ?_)
      exact J33_1 r_142 _ _ _ hw (lv_sub hl [0, 2, 3, 4, 5, 6, 7, 8, 9, 10, 11, 12, 13, 14, 15] rfl) hf
  · have hf := it_e hf c_138
    refine lv_iconst (v := 0) hx hb dL_asks_7 (by decide) ?_
    refine lv_goto (tgt := 33) hx hb dL_asks_8 (by decide) ?_
    exact J33_1 0 _ _ _ hw (lv_sub hl [0, 2, 3, 4, 5, 6, 7, 8, 9, 10, 11, 12, 13, 14, 15] rfl) hf
