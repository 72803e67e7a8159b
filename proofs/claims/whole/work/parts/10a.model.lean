abbrev rm_X11_thrown : Room := { frames := 0, cells := 0, slots := 0, locals := 0 }
set_option maxRecDepth 100000 in
set_option maxHeartbeats 4000000 in
theorem c_X11_thrown (l : Launch) (X : XT) (fu : Nat) (M : Mem)  (rs : Int32) (hf : f_X11_thrown fu M = some rs) (sz : Nat) : Met l yX11_thrown (wbig yX11_thrown cX11_thrown 1 (some .int)) rm_X11_thrown (va_Pc [.ref (X.2.2 0)] (PW LM X M sz)) (QI LM X M rs sz) 0 0 (AX LM X sz) := by
  refine met_go (L := LM) (M := M) (by decide +kernel) (Nat.le_of_ble_eq_true rfl) ?_
  intro p e s m args below meth c hsz B hr hlk hw ls hl
  subst hsz
  have hx := B.hx
  have hb := B.hb
  have hl : lv_has ls 1 [(0, .ref (X.2.2 0))] := hl
  generalize hQ : MQ below _ args s 0 0 (AX LM X s.heap.size) = Q
  unfold f_X11_thrown at hf
  refine lv_aload_n hx hb dX11_thrown_0 rfl (lv_at hl 0 rfl) ?_
  refine gt_X11_213 B hw dX11_thrown_1 ?_
  cases hf
  subst hQ
  exact q_iret B hr hlk hw rfl rfl dX11_thrown_4
abbrev rm_X11_placeOf : Room := { frames := 0, cells := 0, slots := 0, locals := 0 }
set_option maxRecDepth 100000 in
set_option maxHeartbeats 4000000 in
theorem c_X11_placeOf (l : Launch) (X : XT) (fu : Nat) (p1 : Int32) (p2 : Int32) (M : Mem)  (rs : Int32) (hf : f_X11_placeOf fu p1 p2 M = some rs) (sz : Nat) : Met l yX11_placeOf (wbig yX11_placeOf cX11_placeOf 5 (some .int)) rm_X11_placeOf (va_Pc [.ref (X.2.2 0), .int p1, .int p2] (PW LM X M sz)) (QI LM X M rs sz) 0 0 (AX LM X sz) := by
  refine met_go (L := LM) (M := M) (by decide +kernel) (Nat.le_of_ble_eq_true rfl) ?_
  intro p e s m args below meth c hsz B hr hlk hw ls hl
  subst hsz
  have hx := B.hx
  have hb := B.hb
  have hl : lv_has ls 5 [(0, .ref (X.2.2 0)), (1, .int p1), (2, .int p2)] := hl
  generalize hQ : MQ below _ args s 0 0 (AX LM X s.heap.size) = Q
  unfold f_X11_placeOf at hf
  refine lv_iconst (v := (-1)) hx hb dX11_placeOf_0 (by decide) ?_
  refine lv_istore_n (lv' := [(3, .int (-1)), (0, .ref (X.2.2 0)), (1, .int p1), (2, .int p2)]) hx hb dX11_placeOf_1 rfl hl (by decide) rfl (fun ls hl => ?_)
  refine lv_iconst (v := 0) hx hb dX11_placeOf_2 (by decide) ?_
  refine lv_istore (lv' := [(4, .int 0), (3, .int (-1)), (0, .ref (X.2.2 0)), (1, .int p1), (2, .int p2)]) hx hb dX11_placeOf_3 hl (by decide) rfl (fun ls hl => ?_)
  have hL_5 : ∀ (n_5 : Nat) (x3_1 : Int32) (x4_2 : Int32) (H : Heap) (locs : List Loc) (ls : Array Slot), HW LM X M s H locs → lv_has ls 5 [(0, .ref (X.2.2 0)), (1, .int p1), (2, .int p2), (3, .int x3_1), (4, .int x4_2)] → f_X11_placeOf_L5 fu p1 p2 M n_5 x3_1 x4_2 = some rs → W p l e rm_X11_placeOf s m args below meth c H locs 0 0 Q (F0 m 5 ls []) := by
    intro n_5
    induction n_5 with
    | zero => intro x3_1 x4_2 H locs ls hw hl hf; exact no_none hf
    | succ n_5 ih_5 =>
      intro x3_1 x4_2 H locs ls hw hl hf
      rw [f_X11_placeOf_L5] at hf
      refine lv_iload hx hb dX11_placeOf_5 (lv_at hl 4 rfl) ?_
      refine lv_aload_n hx hb dX11_placeOf_7 rfl (lv_at hl 0 rfl) ?_
      refine gt_X11_7 B hw dX11_placeOf_8 ?_
      refine lv_iload_n hx hb dX11_placeOf_11 rfl (lv_at hl 1 rfl) ?_
      obtain ⟨g_3, hf⟩ := grd_e hf
      refine m_iald B hw (i := 1) rfl g_3 dX11_placeOf_12 ?_
      refine lv_icmp_ge (tgt := 45) hx hb dX11_placeOf_13 (by decide) (fun c_4 => ?_) (fun c_4 => ?_)
      · have hf := it_e hf c_4
        refine lv_iload_n hx hb dX11_placeOf_45 rfl (lv_at hl 3 rfl) ?_
        cases hf
        subst hQ
        exact q_iret B hr hlk hw rfl rfl dX11_placeOf_46
      · have hf := ie_e hf c_4
        refine lv_aload_n hx hb dX11_placeOf_16 rfl (lv_at hl 0 rfl) ?_
        refine gt_X11_13 B hw dX11_placeOf_17 ?_
        refine lv_bipush (v := 12) hx hb dX11_placeOf_20 (by decide) ?_
        refine lv_iload_n hx hb dX11_placeOf_22 rfl (lv_at hl 1 rfl) ?_
        refine lv_imul hx hb dX11_placeOf_23 ?_
        refine lv_iload hx hb dX11_placeOf_24 (lv_at hl 4 rfl) ?_
        refine lv_iadd hx hb dX11_placeOf_26 ?_
        obtain ⟨g_5, hf⟩ := grd_e hf
        refine m_iald B hw (i := 2) rfl g_5 dX11_placeOf_27 ?_
        refine lv_iload_n hx hb dX11_placeOf_28 rfl (lv_at hl 2 rfl) ?_
        refine lv_icmp_ne (tgt := 37) hx hb dX11_placeOf_29 (by decide) (fun c_6 => ?_) (fun c_6 => ?_)
        · have hf := ie_e hf c_6
          refine lv_iload_n hx hb dX11_placeOf_37 rfl (lv_at hl 3 rfl) ?_
          refine lv_istore_n (lv' := [(3, .int x3_1), (0, .ref (X.2.2 0)), (1, .int p1), (2, .int p2), (4, .int x4_2)]) hx hb dX11_placeOf_38 rfl hl (by decide) rfl (fun ls hl => ?_)
          refine r_iinc (v := (x4_2 + 1)) hx hb dX11_placeOf_39 hl (k := 4) rfl rfl (by decide) hf (fun x4_7 ls hl hf => ?_)
          have hl : lv_has ls 5 [(4, .int x4_7), (3, .int x3_1), (0, .ref (X.2.2 0)), (1, .int p1), (2, .int p2)] := hl
          refine lv_goto (tgt := 5) hx hb dX11_placeOf_42 (by decide) ?_
          exact ih_5 x3_1 x4_7 _ _ _ hw (lv_sub hl [2, 3, 4, 1, 0] rfl) hf
        · have hf := it_e hf c_6
          refine lv_iload hx hb dX11_placeOf_32 (lv_at hl 4 rfl) ?_
          refine lv_goto (tgt := 38) hx hb dX11_placeOf_34 (by decide) ?_
          refine lv_istore_n (lv' := [(3, .int x4_2), (0, .ref (X.2.2 0)), (1, .int p1), (2, .int p2), (4, .int x4_2)]) hx hb dX11_placeOf_38 rfl hl (by decide) rfl (fun ls hl => ?_)
          refine r_iinc (v := (x4_2 + 1)) hx hb dX11_placeOf_39 hl (k := 4) rfl rfl (by decide) hf (fun x4_8 ls hl hf => ?_)
          have hl : lv_has ls 5 [(4, .int x4_8), (3, .int x4_2), (0, .ref (X.2.2 0)), (1, .int p1), (2, .int p2)] := hl
          refine lv_goto (tgt := 5) hx hb dX11_placeOf_42 (by decide) ?_
          exact ih_5 x4_2 x4_8 _ _ _ hw (lv_sub hl [2, 3, 4, 1, 0] rfl) hf
  exact hL_5 fu (-1) 0 _ _ _ hw (lv_sub hl [2, 3, 4, 1, 0] rfl) hf
abbrev rm_X11_moves : Room := { frames := 0, cells := 0, slots := 0, locals := 0 }
set_option maxRecDepth 100000 in
set_option maxHeartbeats 4000000 in
theorem c_X11_moves (l : Launch) (X : XT) (fu : Nat) (p1 : Int32) (p2 : Int32) (M : Mem)  (rs : Mem) (hf : f_X11_moves fu p1 p2 M = some rs) (sz : Nat) : Met l yX11_moves (wbig yX11_moves cX11_moves 4 none) rm_X11_moves (va_Pc [.ref (X.2.2 0), .int p1, .int p2] (PW LM X M sz)) (QV LM X rs sz) 0 0 (AX LM X sz) := by
  refine met_go (L := LM) (M := M) (by decide +kernel) (Nat.le_of_ble_eq_true rfl) ?_
  intro p e s m args below meth c hsz B hr hlk hw ls hl
  subst hsz
  have hx := B.hx
  have hb := B.hb
  have hl : lv_has ls 4 [(0, .ref (X.2.2 0)), (1, .int p1), (2, .int p2)] := hl
  generalize hQ : MQ below _ args s 0 0 (AX LM X s.heap.size) = Q
  unfold f_X11_moves at hf
  refine lv_aload_n hx hb dX11_moves_0 rfl (lv_at hl 0 rfl) ?_
  refine gt_X11_102 B hw dX11_moves_1 ?_
  refine lv_iload_n hx hb dX11_moves_4 rfl (lv_at hl 2 rfl) ?_
  refine lv_aload_n hx hb dX11_moves_5 rfl (lv_at hl 0 rfl) ?_
  refine gt_X11_102 B hw dX11_moves_6 ?_
  refine lv_iload_n hx hb dX11_moves_9 rfl (lv_at hl 1 rfl) ?_
  obtain ⟨g_1, hf⟩ := grd_e hf
  refine m_iald B hw (i := 30) rfl g_1 dX11_moves_10 ?_
  obtain ⟨g_2, hf⟩ := grd_e hf
  refine m_iast B hw (i := 30) rfl g_2 dX11_moves_11 hf (fun M_3 H locs hw hf => ?_)
  refine lv_aload_n hx hb dX11_moves_12 rfl (lv_at hl 0 rfl) ?_
  refine gt_X11_105 B hw dX11_moves_13 ?_
  refine lv_iload_n hx hb dX11_moves_16 rfl (lv_at hl 2 rfl) ?_
  refine lv_aload_n hx hb dX11_moves_17 rfl (lv_at hl 0 rfl) ?_
  refine gt_X11_105 B hw dX11_moves_18 ?_
  refine lv_iload_n hx hb dX11_moves_21 rfl (lv_at hl 1 rfl) ?_
  refine m_iald B hw (i := 31) rfl g_1 dX11_moves_22 ?_
  refine m_iast B hw (i := 31) rfl g_2 dX11_moves_23 hf (fun M_4 H locs hw hf => ?_)
  refine lv_aload_n hx hb dX11_moves_24 rfl (lv_at hl 0 rfl) ?_
  refine gt_X11_108 B hw dX11_moves_25 ?_
  refine lv_iload_n hx hb dX11_moves_28 rfl (lv_at hl 2 rfl) ?_
  refine lv_aload_n hx hb dX11_moves_29 rfl (lv_at hl 0 rfl) ?_
  refine gt_X11_108 B hw dX11_moves_30 ?_
  refine lv_iload_n hx hb dX11_moves_33 rfl (lv_at hl 1 rfl) ?_
  refine m_iald B hw (i := 32) rfl g_1 dX11_moves_34 ?_
  refine m_iast B hw (i := 32) rfl g_2 dX11_moves_35 hf (fun M_5 H locs hw hf => ?_)
  refine lv_aload_n hx hb dX11_moves_36 rfl (lv_at hl 0 rfl) ?_
  refine gt_X11_111 B hw dX11_moves_37 ?_
  refine lv_iload_n hx hb dX11_moves_40 rfl (lv_at hl 2 rfl) ?_
  refine lv_aload_n hx hb dX11_moves_41 rfl (lv_at hl 0 rfl) ?_
  refine gt_X11_111 B hw dX11_moves_42 ?_
  refine lv_iload_n hx hb dX11_moves_45 rfl (lv_at hl 1 rfl) ?_
  refine m_iald B hw (i := 33) rfl g_1 dX11_moves_46 ?_
  refine m_iast B hw (i := 33) rfl g_2 dX11_moves_47 hf (fun M_6 H locs hw hf => ?_)
  refine lv_aload_n hx hb dX11_moves_48 rfl (lv_at hl 0 rfl) ?_
  refine gt_X11_114 B hw dX11_moves_49 ?_
  refine lv_iload_n hx hb dX11_moves_52 rfl (lv_at hl 2 rfl) ?_
  refine lv_aload_n hx hb dX11_moves_53 rfl (lv_at hl 0 rfl) ?_
  refine gt_X11_114 B hw dX11_moves_54 ?_
  refine lv_iload_n hx hb dX11_moves_57 rfl (lv_at hl 1 rfl) ?_
  refine m_iald B hw (i := 34) rfl g_1 dX11_moves_58 ?_
  refine m_iast B hw (i := 34) rfl g_2 dX11_moves_59 hf (fun M_7 H locs hw hf => ?_)
  refine lv_aload_n hx hb dX11_moves_60 rfl (lv_at hl 0 rfl) ?_
  refine gt_X11_117 B hw dX11_moves_61 ?_
  refine lv_iload_n hx hb dX11_moves_64 rfl (lv_at hl 2 rfl) ?_
  refine lv_aload_n hx hb dX11_moves_65 rfl (lv_at hl 0 rfl) ?_
  refine gt_X11_117 B hw dX11_moves_66 ?_
  refine lv_iload_n hx hb dX11_moves_69 rfl (lv_at hl 1 rfl) ?_
  refine m_iald B hw (i := 35) rfl g_1 dX11_moves_70 ?_
  refine m_iast B hw (i := 35) rfl g_2 dX11_moves_71 hf (fun M_8 H locs hw hf => ?_)
  refine lv_aload_n hx hb dX11_moves_72 rfl (lv_at hl 0 rfl) ?_
  refine gt_X11_126 B hw dX11_moves_73 ?_
  refine lv_iload_n hx hb dX11_moves_76 rfl (lv_at hl 2 rfl) ?_
  refine lv_aload_n hx hb dX11_moves_77 rfl (lv_at hl 0 rfl) ?_
  refine gt_X11_126 B hw dX11_moves_78 ?_
  refine lv_iload_n hx hb dX11_moves_81 rfl (lv_at hl 1 rfl) ?_
  refine m_iald B hw (i := 38) rfl g_1 dX11_moves_82 ?_
  refine m_iast B hw (i := 38) rfl g_2 dX11_moves_83 hf (fun M_9 H locs hw hf => ?_)
  refine lv_iconst (v := 0) hx hb dX11_moves_84 (by decide) ?_
  refine lv_istore_n (lv' := [(3, .int 0), (0, .ref (X.2.2 0)), (1, .int p1), (2, .int p2)]) hx hb dX11_moves_85 rfl hl (by decide) rfl (fun ls hl => ?_)
  refine jn_e hf (fun kk => ∀ (M_11 : Mem) (H : Heap) (locs : List Loc) (ls : Array Slot), HW LM X M_11 s H locs → lv_has ls 4 [(0, .ref (X.2.2 0)), (1, .int p1), (2, .int p2)] → kk M_11 = some rs → W p l e rm_X11_moves s m args below meth c H locs 0 0 Q (F0 m 120 ls [])) ?_ (fun k120_10 J120_10 hf => ?_)
  · intro M_11 H locs ls hw hl hf
    refine lv_iconst (v := 0) hx hb dX11_moves_120 (by decide) ?_
    refine lv_istore_n (lv' := [(3, .int 0), (0, .ref (X.2.2 0)), (1, .int p1), (2, .int p2)]) hx hb dX11_moves_121 rfl hl (by decide) rfl (fun ls hl => ?_)
    refine jn_e hf (fun kk => ∀ (M_13 : Mem) (H : Heap) (locs : List Loc) (ls : Array Slot), HW LM X M_13 s H locs → lv_has ls 4 [(0, .ref (X.2.2 0)), (1, .int p1), (2, .int p2)] → kk M_13 = some rs → W p l e rm_X11_moves s m args below meth c H locs 0 0 Q (F0 m 156 ls [])) ?_ (fun k156_12 J156_12 hf => ?_)
    · intro M_13 H locs ls hw hl hf
      refine lv_iconst (v := 0) hx hb dX11_moves_156 (by decide) ?_
      refine lv_istore_n (lv' := [(3, .int 0), (0, .ref (X.2.2 0)), (1, .int p1), (2, .int p2)]) hx hb dX11_moves_157 rfl hl (by decide) rfl (fun ls hl => ?_)
      have hL_158 : ∀ (n_158 : Nat) (x3_14 : Int32) (M_15 : Mem) (H : Heap) (locs : List Loc) (ls : Array Slot), HW LM X M_15 s H locs → lv_has ls 4 [(0, .ref (X.2.2 0)), (1, .int p1), (2, .int p2), (3, .int x3_14)] → f_X11_moves_L158 fu p1 p2 n_158 x3_14 M_15 = some rs → W p l e rm_X11_moves s m args below meth c H locs 0 0 Q (F0 m 158 ls []) := by
        intro n_158
        induction n_158 with
        | zero => intro x3_14 M_15 H locs ls hw hl hf; exact no_none hf
        | succ n_158 ih_158 =>
          intro x3_14 M_15 H locs ls hw hl hf
          rw [f_X11_moves_L158] at hf
          refine lv_iload_n hx hb dX11_moves_158 rfl (lv_at hl 3 rfl) ?_
          refine lv_iconst (v := 4) hx hb dX11_moves_159 (by decide) ?_
          refine lv_icmp_ge (tgt := 229) hx hb dX11_moves_160 (by decide) (fun c_16 => ?_) (fun c_16 => ?_)
          · have hf := it_e hf c_16
            cases hf
            subst hQ
            exact q_vret B hr hlk hw rfl dX11_moves_229
          · have hf := ie_e hf c_16
            refine lv_aload_n hx hb dX11_moves_163 rfl (lv_at hl 0 rfl) ?_
            refine gt_X11_129 B hw dX11_moves_164 ?_
            refine lv_iconst (v := 4) hx hb dX11_moves_167 (by decide) ?_
            refine lv_iload_n hx hb dX11_moves_168 rfl (lv_at hl 2 rfl) ?_
            refine lv_imul hx hb dX11_moves_169 ?_
            refine lv_iload_n hx hb dX11_moves_170 rfl (lv_at hl 3 rfl) ?_
            refine lv_iadd hx hb dX11_moves_171 ?_
            refine lv_aload_n hx hb dX11_moves_172 rfl (lv_at hl 0 rfl) ?_
            refine gt_X11_129 B hw dX11_moves_173 ?_
            refine lv_iconst (v := 4) hx hb dX11_moves_176 (by decide) ?_
            refine lv_iload_n hx hb dX11_moves_177 rfl (lv_at hl 1 rfl) ?_
            refine lv_imul hx hb dX11_moves_178 ?_
            refine lv_iload_n hx hb dX11_moves_179 rfl (lv_at hl 3 rfl) ?_
            refine lv_iadd hx hb dX11_moves_180 ?_
            obtain ⟨g_17, hf⟩ := grd_e hf
            refine m_iald B hw (i := 39) rfl g_17 dX11_moves_181 ?_
            obtain ⟨g_18, hf⟩ := grd_e hf
            refine m_iast B hw (i := 39) rfl g_18 dX11_moves_182 hf (fun M_19 H locs hw hf => ?_)
            refine lv_aload_n hx hb dX11_moves_183 rfl (lv_at hl 0 rfl) ?_
            refine gt_X11_132 B hw dX11_moves_184 ?_
            refine lv_iconst (v := 4) hx hb dX11_moves_187 (by decide) ?_
            refine lv_iload_n hx hb dX11_moves_188 rfl (lv_at hl 2 rfl) ?_
            refine lv_imul hx hb dX11_moves_189 ?_
            refine lv_iload_n hx hb dX11_moves_190 rfl (lv_at hl 3 rfl) ?_
            refine lv_iadd hx hb dX11_moves_191 ?_
            refine lv_aload_n hx hb dX11_moves_192 rfl (lv_at hl 0 rfl) ?_
            refine gt_X11_132 B hw dX11_moves_193 ?_
            refine lv_iconst (v := 4) hx hb dX11_moves_196 (by decide) ?_
            refine lv_iload_n hx hb dX11_moves_197 rfl (lv_at hl 1 rfl) ?_
            refine lv_imul hx hb dX11_moves_198 ?_
            refine lv_iload_n hx hb dX11_moves_199 rfl (lv_at hl 3 rfl) ?_
            refine lv_iadd hx hb dX11_moves_200 ?_
            refine m_iald B hw (i := 40) rfl g_17 dX11_moves_201 ?_
            refine m_iast B hw (i := 40) rfl g_18 dX11_moves_202 hf (fun M_20 H locs hw hf => ?_)
            refine lv_aload_n hx hb dX11_moves_203 rfl (lv_at hl 0 rfl) ?_
            refine gt_X11_135 B hw dX11_moves_204 ?_
            refine lv_iconst (v := 4) hx hb dX11_moves_207 (by decide) ?_
            refine lv_iload_n hx hb dX11_moves_208 rfl (lv_at hl 2 rfl) ?_
            refine lv_imul hx hb dX11_moves_209 ?_
            refine lv_iload_n hx hb dX11_moves_210 rfl (lv_at hl 3 rfl) ?_
            refine lv_iadd hx hb dX11_moves_211 ?_
            refine lv_aload_n hx hb dX11_moves_212 rfl (lv_at hl 0 rfl) ?_
            refine gt_X11_135 B hw dX11_moves_213 ?_
            refine lv_iconst (v := 4) hx hb dX11_moves_216 (by decide) ?_
            refine lv_iload_n hx hb dX11_moves_217 rfl (lv_at hl 1 rfl) ?_
            refine lv_imul hx hb dX11_moves_218 ?_
            refine lv_iload_n hx hb dX11_moves_219 rfl (lv_at hl 3 rfl) ?_
            refine lv_iadd hx hb dX11_moves_220 ?_
            refine m_iald B hw (i := 41) rfl g_17 dX11_moves_221 ?_
            refine m_iast B hw (i := 41) rfl g_18 dX11_moves_222 hf (fun M_21 H locs hw hf => ?_)
            refine r_iinc (v := (x3_14 + 1)) hx hb dX11_moves_223 hl (k := 3) rfl rfl (by decide) hf (fun x3_22 ls hl hf => ?_)
            have hl : lv_has ls 4 [(3, .int x3_22), (0, .ref (X.2.2 0)), (1, .int p1), (2, .int p2)] := hl
            refine lv_goto (tgt := 158) hx hb dX11_moves_226 (by decide) ?_
            exact ih_158 x3_22 M_21 _ _ _ hw (lv_sub hl [1, 2, 3, 0] rfl) hf
      exact hL_158 fu 0 M_13 _ _ _ hw (lv_sub hl [1, 2, 3, 0] rfl) hf
    have hL_122 : ∀ (n_122 : Nat) (x3_23 : Int32) (M_24 : Mem) (H : Heap) (locs : List Loc) (ls : Array Slot), HW LM X M_24 s H locs → lv_has ls 4 [(0, .ref (X.2.2 0)), (1, .int p1), (2, .int p2), (3, .int x3_23)] → f_X11_moves_L122 fu p1 p2 k156_12 n_122 x3_23 M_24 = some rs → W p l e rm_X11_moves s m args below meth c H locs 0 0 Q (F0 m 122 ls []) := by
      intro n_122
      induction n_122 with
      | zero => intro x3_23 M_24 H locs ls hw hl hf; exact no_none hf
      | succ n_122 ih_122 =>
        intro x3_23 M_24 H locs ls hw hl hf
        rw [f_X11_moves_L122] at hf
        refine lv_iload_n hx hb dX11_moves_122 rfl (lv_at hl 3 rfl) ?_
        refine lv_bipush (v := 48) hx hb dX11_moves_123 (by decide) ?_
        refine lv_icmp_ge (tgt := 156) hx hb dX11_moves_125 (by decide) (fun c_25 => ?_) (fun c_25 => ?_)
        · have hf := it_e hf c_25
          exact J156_12 M_24 _ _ _ hw (lv_sub hl [0, 1, 2] rfl) hf
        · have hf := ie_e hf c_25
          refine lv_aload_n hx hb dX11_moves_128 rfl (lv_at hl 0 rfl) ?_
          refine gt_X11_123 B hw dX11_moves_129 ?_
          refine lv_bipush (v := 48) hx hb dX11_moves_132 (by decide) ?_
          refine lv_iload_n hx hb dX11_moves_134 rfl (lv_at hl 2 rfl) ?_
          refine lv_imul hx hb dX11_moves_135 ?_
          refine lv_iload_n hx hb dX11_moves_136 rfl (lv_at hl 3 rfl) ?_
          refine lv_iadd hx hb dX11_moves_137 ?_
          refine lv_aload_n hx hb dX11_moves_138 rfl (lv_at hl 0 rfl) ?_
          refine gt_X11_123 B hw dX11_moves_139 ?_
          refine lv_bipush (v := 48) hx hb dX11_moves_142 (by decide) ?_
          refine lv_iload_n hx hb dX11_moves_144 rfl (lv_at hl 1 rfl) ?_
          refine lv_imul hx hb dX11_moves_145 ?_
          refine lv_iload_n hx hb dX11_moves_146 rfl (lv_at hl 3 rfl) ?_
          refine lv_iadd hx hb dX11_moves_147 ?_
          obtain ⟨g_26, hf⟩ := grd_e hf
          refine m_iald B hw (i := 37) rfl g_26 dX11_moves_148 ?_
          obtain ⟨g_27, hf⟩ := grd_e hf
          refine m_iast B hw (i := 37) rfl g_27 dX11_moves_149 hf (fun M_28 H locs hw hf => ?_)
          refine r_iinc (v := (x3_23 + 1)) hx hb dX11_moves_150 hl (k := 3) rfl rfl (by decide) hf (fun x3_29 ls hl hf => ?_)
          have hl : lv_has ls 4 [(3, .int x3_29), (0, .ref (X.2.2 0)), (1, .int p1), (2, .int p2)] := hl
          refine lv_goto (tgt := 122) hx hb dX11_moves_153 (by decide) ?_
          exact ih_122 x3_29 M_28 _ _ _ hw (lv_sub hl [1, 2, 3, 0] rfl) hf
    exact hL_122 fu 0 M_11 _ _ _ hw (lv_sub hl [1, 2, 3, 0] rfl) hf
  have hL_86 : ∀ (n_86 : Nat) (x3_30 : Int32) (M_31 : Mem) (H : Heap) (locs : List Loc) (ls : Array Slot), HW LM X M_31 s H locs → lv_has ls 4 [(0, .ref (X.2.2 0)), (1, .int p1), (2, .int p2), (3, .int x3_30)] → f_X11_moves_L86 fu p1 p2 k120_10 n_86 x3_30 M_31 = some rs → W p l e rm_X11_moves s m args below meth c H locs 0 0 Q (F0 m 86 ls []) := by
    intro n_86
    induction n_86 with
    | zero => intro x3_30 M_31 H locs ls hw hl hf; exact no_none hf
    | succ n_86 ih_86 =>
      intro x3_30 M_31 H locs ls hw hl hf
      rw [f_X11_moves_L86] at hf
      refine lv_iload_n hx hb dX11_moves_86 rfl (lv_at hl 3 rfl) ?_
      refine lv_bipush (v := 12) hx hb dX11_moves_87 (by decide) ?_
      refine lv_icmp_ge (tgt := 120) hx hb dX11_moves_89 (by decide) (fun c_32 => ?_) (fun c_32 => ?_)
      · have hf := it_e hf c_32
        exact J120_10 M_31 _ _ _ hw (lv_sub hl [0, 1, 2] rfl) hf
      · have hf := ie_e hf c_32
        refine lv_aload_n hx hb dX11_moves_92 rfl (lv_at hl 0 rfl) ?_
        refine gt_X11_120 B hw dX11_moves_93 ?_
        refine lv_bipush (v := 12) hx hb dX11_moves_96 (by decide) ?_
        refine lv_iload_n hx hb dX11_moves_98 rfl (lv_at hl 2 rfl) ?_
        refine lv_imul hx hb dX11_moves_99 ?_
        refine lv_iload_n hx hb dX11_moves_100 rfl (lv_at hl 3 rfl) ?_
        refine lv_iadd hx hb dX11_moves_101 ?_
        refine lv_aload_n hx hb dX11_moves_102 rfl (lv_at hl 0 rfl) ?_
        refine gt_X11_120 B hw dX11_moves_103 ?_
        refine lv_bipush (v := 12) hx hb dX11_moves_106 (by decide) ?_
        refine lv_iload_n hx hb dX11_moves_108 rfl (lv_at hl 1 rfl) ?_
        refine lv_imul hx hb dX11_moves_109 ?_
        refine lv_iload_n hx hb dX11_moves_110 rfl (lv_at hl 3 rfl) ?_
        refine lv_iadd hx hb dX11_moves_111 ?_
        obtain ⟨g_33, hf⟩ := grd_e hf
        refine m_iald B hw (i := 36) rfl g_33 dX11_moves_112 ?_
        obtain ⟨g_34, hf⟩ := grd_e hf
        refine m_iast B hw (i := 36) rfl g_34 dX11_moves_113 hf (fun M_35 H locs hw hf => ?_)
        refine r_iinc (v := (x3_30 + 1)) hx hb dX11_moves_114 hl (k := 3) rfl rfl (by decide) hf (fun x3_36 ls hl hf => ?_)
        have hl : lv_has ls 4 [(3, .int x3_36), (0, .ref (X.2.2 0)), (1, .int p1), (2, .int p2)] := hl
        refine lv_goto (tgt := 86) hx hb dX11_moves_117 (by decide) ?_
        exact ih_86 x3_36 M_35 _ _ _ hw (lv_sub hl [1, 2, 3, 0] rfl) hf
  exact hL_86 fu 0 M_9 _ _ _ hw (lv_sub hl [1, 2, 3, 0] rfl) hf
abbrev rm_X11_drops : Room := { frames := 1, cells := 0, slots := 0, locals := 23 }
set_option maxRecDepth 100000 in
set_option maxHeartbeats 4000000 in
theorem c_X11_drops (l : Launch) (X : XT) (fu : Nat) (M : Mem)  (rs : Mem) (hf : f_X11_drops fu M = some rs) (sz : Nat) : Met l yX11_drops (wbig yX11_drops cX11_drops 4 none) rm_X11_drops (va_Pc [.ref (X.2.2 0)] (PW LM X M sz)) (QV LM X rs sz) 0 0 (AX LM X sz) := by
  refine met_go (L := LM) (M := M) (by decide +kernel) (Nat.le_of_ble_eq_true rfl) ?_
  intro p e s m args below meth c hsz B hr hlk hw ls hl
  subst hsz
  have hx := B.hx
  have hb := B.hb
  have hl : lv_has ls 4 [(0, .ref (X.2.2 0))] := hl
  generalize hQ : MQ below _ args s 0 0 (AX LM X s.heap.size) = Q
  unfold f_X11_drops at hf
  refine lv_iconst (v := 0) hx hb dX11_drops_0 (by decide) ?_
  refine lv_istore_n (lv' := [(1, .int 0), (0, .ref (X.2.2 0))]) hx hb dX11_drops_1 rfl hl (by decide) rfl (fun ls hl => ?_)
  refine lv_iconst (v := 0) hx hb dX11_drops_2 (by decide) ?_
  refine lv_istore_n (lv' := [(2, .int 0), (1, .int 0), (0, .ref (X.2.2 0))]) hx hb dX11_drops_3 rfl hl (by decide) rfl (fun ls hl => ?_)
  refine jn_e hf (fun kk => ∀ (x1_2 : Int32) (M_3 : Mem) (H : Heap) (locs : List Loc) (ls : Array Slot), HW LM X M_3 s H locs → lv_has ls 4 [(0, .ref (X.2.2 0)), (1, .int x1_2)] → kk x1_2 M_3 = some rs → W p l e rm_X11_drops s m args below meth c H locs 0 0 Q (F0 m 88 ls [])) ?_ (fun k88_1 J88_1 hf => ?_)
  · intro x1_2 M_3 H locs ls hw hl hf
    refine lv_aload_n hx hb dX11_drops_88 rfl (lv_at hl 0 rfl) ?_
    refine lv_iload_n hx hb dX11_drops_89 rfl (lv_at hl 1 rfl) ?_
    refine pt_X11_232 B hw dX11_drops_90 hf (fun M_4 H locs hw hf => ?_)
    cases hf
    subst hQ
    exact q_vret B hr hlk hw rfl dX11_drops_93
  have hL_4 : ∀ (n_4 : Nat) (x1_5 : Int32) (x2_6 : Int32) (M_7 : Mem) (H : Heap) (locs : List Loc) (ls : Array Slot), HW LM X M_7 s H locs → lv_has ls 4 [(0, .ref (X.2.2 0)), (1, .int x1_5), (2, .int x2_6)] → f_X11_drops_L4 fu k88_1 n_4 x1_5 x2_6 M_7 = some rs → W p l e rm_X11_drops s m args below meth c H locs 0 0 Q (F0 m 4 ls []) := by
    intro n_4
    induction n_4 with
    | zero => intro x1_5 x2_6 M_7 H locs ls hw hl hf; exact no_none hf
    | succ n_4 ih_4 =>
      intro x1_5 x2_6 M_7 H locs ls hw hl hf
      rw [f_X11_drops_L4] at hf
      refine lv_iload_n hx hb dX11_drops_4 rfl (lv_at hl 2 rfl) ?_
      refine lv_aload_n hx hb dX11_drops_5 rfl (lv_at hl 0 rfl) ?_
      refine gt_X11_232 B hw dX11_drops_6 ?_
      refine lv_icmp_ge (tgt := 88) hx hb dX11_drops_9 (by decide) (fun c_8 => ?_) (fun c_8 => ?_)
      · have hf := it_e hf c_8
        exact J88_1 x1_5 M_7 _ _ _ hw (lv_sub hl [0, 1] rfl) hf
      · have hf := ie_e hf c_8
        refine lv_aload_n hx hb dX11_drops_12 rfl (lv_at hl 0 rfl) ?_
        refine gt_X11_114 B hw dX11_drops_13 ?_
        refine lv_iload_n hx hb dX11_drops_16 rfl (lv_at hl 2 rfl) ?_
        obtain ⟨g_9, hf⟩ := grd_e hf
        refine m_iald B hw (i := 34) rfl g_9 dX11_drops_17 ?_
        refine lv_iconst (v := (-1)) hx hb dX11_drops_18 (by decide) ?_
        refine jn_e hf (fun kk => ∀ (v_11 : Int32) (H : Heap) (locs : List Loc) (ls : Array Slot), HW LM X M_7 s H locs → lv_has ls 4 [(0, .ref (X.2.2 0)), (1, .int x1_5), (2, .int x2_6)] → kk v_11 = some rs → W p l e rm_X11_drops s m args below meth c H locs 0 0 Q (F0 m 68 ls [.int v_11])) ?_ (fun k68_10 J68_10 hf => ?_)
        · intro v_11 H locs ls hw hl hf
          refine lv_istore_n (lv' := [(3, .int v_11), (0, .ref (X.2.2 0)), (1, .int x1_5), (2, .int x2_6)]) hx hb dX11_drops_68 rfl hl (by decide) rfl (fun ls hl => ?_)
          refine lv_iload_n hx hb dX11_drops_69 rfl (lv_at hl 0 rfl) ?_
          refine lv_if_ne (tgt := 82) hx hb dX11_drops_70 (by decide) (fun c_12 => ?_) (fun c_12 => ?_)
          · have hf := ie_e hf c_12
            refine r_iinc (v := (x2_6 + 1)) hx hb dX11_drops_82 hl (k := 3) rfl rfl (by decide) hf (fun x2_13 ls hl hf => ?_)
            have hl : lv_has ls 4 [(2, .int x2_13), (3, .int v_11), (0, .ref (X.2.2 0)), (1, .int x1_5)] := hl
            refine lv_goto (tgt := 4) hx hb dX11_drops_85 (by decide) ?_
            exact ih_4 x1_5 x2_13 M_7 _ _ _ hw (lv_sub hl [2, 3, 0] rfl) hf
          · have hf := it_e hf c_12
            refine lv_aload_n hx hb dX11_drops_73 rfl (lv_at hl 1 rfl) ?_
            refine lv_iload_n hx hb dX11_drops_74 rfl (lv_at hl 3 rfl) ?_
            refine lv_iload_n hx hb dX11_drops_75 rfl (lv_at hl 2 rfl) ?_
            obtain ⟨M_15, h_14, hf⟩ := bd_e hf
            refine q_callVv (M' := M_15) (i := 0) (As := [.int x2_6, .int x1_5]) (rest := []) B hw (c_X11_moves l X fu x2_6 x1_5 M_7 M_15 h_14 _) cv_X11_238 (rc_11 B hw) rfl hl.1 rfl rfl ⟨Nat.le_of_ble_eq_true rfl, Nat.le_of_ble_eq_true rfl⟩ (Nat.le_of_ble_eq_true rfl) ⟨Nat.le_of_ble_eq_true rfl, Nat.le_of_ble_eq_true rfl⟩ dX11_drops_76 rfl (fun H locs hw => ?_)
            refine r_iinc (v := (x1_5 + 1)) hx hb dX11_drops_79 hl (k := 2) rfl rfl (by decide) hf (fun x1_16 ls hl hf => ?_)
            have hl : lv_has ls 4 [(1, .int x1_16), (3, .int v_11), (0, .ref (X.2.2 0)), (2, .int x2_6)] := hl
            refine r_iinc (v := (x2_6 + 1)) hx hb dX11_drops_82 hl (k := 3) rfl rfl (by decide) hf (fun x2_17 ls hl hf => ?_)
            have hl : lv_has ls 4 [(2, .int x2_17), (1, .int x1_16), (3, .int v_11), (0, .ref (X.2.2 0))] := hl
            refine lv_goto (tgt := 4) hx hb dX11_drops_85 (by decide) ?_
            exact ih_4 x1_16 x2_17 M_15 _ _ _ hw (lv_sub hl [3, 1, 0] rfl) hf
        refine jn_e hf (fun kk => ∀ (_ : Unit) (H : Heap) (locs : List Loc) (ls : Array Slot), HW LM X M_7 s H locs → lv_has ls 4 [(0, .ref (X.2.2 0)), (1, .int x1_5), (2, .int x2_6)] → kk () = some rs → W p l e rm_X11_drops s m args below meth c H locs 0 0 Q (F0 m 63 ls [])) ?_ (fun k63_18 J63_18 hf => ?_)
        · intro _ H locs ls hw hl hf
          refine lv_iconst (v := 1) hx hb dX11_drops_63 (by decide) ?_
          refine lv_goto (tgt := 68) hx hb dX11_drops_64 (by decide) ?_
          exact J68_10 1 _ _ _ hw (lv_sub hl [0, 1, 2] rfl) hf
        refine jn_e hf (fun kk => ∀ (_ : Unit) (H : Heap) (locs : List Loc) (ls : Array Slot), HW LM X M_7 s H locs → lv_has ls 4 [(0, .ref (X.2.2 0)), (1, .int x1_5), (2, .int x2_6)] → kk () = some rs → W p l e rm_X11_drops s m args below meth c H locs 0 0 Q (F0 m 35 ls [])) ?_ (fun k35_19 J35_19 hf => ?_)
        · intro _ H locs ls hw hl hf
          refine lv_aload_n hx hb dX11_drops_35 rfl (lv_at hl 0 rfl) ?_
          refine gt_X11_235 B hw dX11_drops_36 ?_
          refine lv_aload_n hx hb dX11_drops_39 rfl (lv_at hl 0 rfl) ?_
          refine gt_X11_105 B hw dX11_drops_40 ?_
          refine lv_iload_n hx hb dX11_drops_43 rfl (lv_at hl 2 rfl) ?_
          refine m_iald B hw (i := 31) rfl g_9 dX11_drops_44 ?_
          refine lv_isub hx hb dX11_drops_45 ?_
          refine lv_aload_n hx hb dX11_drops_46 rfl (lv_at hl 0 rfl) ?_
          refine gt_X11_37 B hw dX11_drops_47 ?_
          refine lv_aload_n hx hb dX11_drops_50 rfl (lv_at hl 0 rfl) ?_
          refine gt_X11_102 B hw dX11_drops_51 ?_
          refine lv_iload_n hx hb dX11_drops_54 rfl (lv_at hl 2 rfl) ?_
          refine m_iald B hw (i := 30) rfl g_9 dX11_drops_55 ?_
          refine q_callSi (M' := M_7) (As := [.int (M_7 30 x2_6.toNatClampNeg)]) (rest := [.ref (X.2.2 10), .int ((M_7 0 8) - (M_7 31 x2_6.toNatClampNeg))]) B hw (c_X11_storeOf l X (M_7 30 x2_6.toNatClampNeg) _ rfl M_7 _) cs_X11_220 rfl hl.1 rfl rfl ⟨Nat.le_of_ble_eq_true rfl, Nat.le_of_ble_eq_true rfl⟩ (Nat.le_of_ble_eq_true rfl) ⟨Nat.le_of_ble_eq_true rfl, Nat.le_of_ble_eq_true rfl⟩ dX11_drops_56 rfl (fun H locs hw => ?_)
          obtain ⟨g_20, hf⟩ := grd_e hf
          refine m_iald B hw (i := 10) rfl g_20 dX11_drops_59 ?_
          refine lv_icmp_le (tgt := 67) hx hb dX11_drops_60 (by decide) (fun c_21 => ?_) (fun c_21 => ?_)
          · have hf := it_e hf c_21
            refine lv_iconst (v := 0) hx hb dX11_drops_67 (by decide) ?_
            exact J68_10 0 _ _ _ hw (lv_sub hl [0, 1, 2] rfl) hf
          · have hf := ie_e hf c_21
            exact J63_18 () _ _ _ hw (lv_sub hl [0, 1, 2] rfl) hf
        refine lv_icmp_eq (tgt := 35) hx hb dX11_drops_19 (by decide) (fun c_22 => ?_) (fun c_22 => ?_)
        · have hf := it_e hf c_22
          exact J35_19 () _ _ _ hw (lv_sub hl [0, 1, 2] rfl) hf
        · have hf := ie_e hf c_22
          refine lv_aload_n hx hb dX11_drops_22 rfl (lv_at hl 0 rfl) ?_
          refine gt_X11_235 B hw dX11_drops_23 ?_
          refine lv_aload_n hx hb dX11_drops_26 rfl (lv_at hl 0 rfl) ?_
          refine gt_X11_114 B hw dX11_drops_27 ?_
          refine lv_iload_n hx hb dX11_drops_30 rfl (lv_at hl 2 rfl) ?_
          refine m_iald B hw (i := 34) rfl g_9 dX11_drops_31 ?_
          refine lv_icmp_ge (tgt := 63) hx hb dX11_drops_32 (by decide) (fun c_23 => ?_) (fun c_23 => ?_)
          · have hf := it_e hf c_23
            exact J63_18 () _ _ _ hw (lv_sub hl [0, 1, 2] rfl) hf
          · have hf := ie_e hf c_23
            exact J35_19 () _ _ _ hw (lv_sub hl [0, 1, 2] rfl) hf
  exact hL_4 fu 0 0 M _ _ _ hw (lv_sub hl [2, 1, 0] rfl) hf
abbrev rm_X11_writes : Room := { frames := 2, cells := 0, slots := 0, locals := 46 }
set_option maxRecDepth 100000 in
set_option maxHeartbeats 4000000 in
theorem c_X11_writes (l : Launch) (X : XT) (fu : Nat) (p1 : Int32) (M : Mem)  (rs : Mem) (hf : f_X11_writes fu p1 M = some rs) (sz : Nat) : Met l yX11_writes (wbig yX11_writes cX11_writes 4 none) rm_X11_writes (va_Pc [.ref (X.2.2 0), .int p1] (PW LM X M sz)) (QV LM X rs sz) 0 0 (AX LM X sz) := by
  refine met_go (L := LM) (M := M) (by decide +kernel) (Nat.le_of_ble_eq_true rfl) ?_
  intro p e s m args below meth c hsz B hr hlk hw ls hl
  subst hsz
  have hx := B.hx
  have hb := B.hb
  have hl : lv_has ls 4 [(0, .ref (X.2.2 0)), (1, .int p1)] := hl
  generalize hQ : MQ below _ args s 0 0 (AX LM X s.heap.size) = Q
  unfold f_X11_writes at hf
  refine lv_aload_n hx hb dX11_writes_0 rfl (lv_at hl 0 rfl) ?_
  refine lv_dup hx hb dX11_writes_1 rfl ?_
  refine gt_X11_242 B hw dX11_writes_2 ?_
  refine lv_iconst (v := 1) hx hb dX11_writes_5 (by decide) ?_
  refine lv_iadd hx hb dX11_writes_6 ?_
  refine pt_X11_242 B hw dX11_writes_7 hf (fun M_1 H locs hw hf => ?_)
  refine lv_aload_n hx hb dX11_writes_10 rfl (lv_at hl 0 rfl) ?_
  refine gt_X11_22 B hw dX11_writes_11 ?_
  refine lv_iload_n hx hb dX11_writes_14 rfl (lv_at hl 1 rfl) ?_
  refine lv_aload_n hx hb dX11_writes_15 rfl (lv_at hl 0 rfl) ?_
  refine gt_X11_242 B hw dX11_writes_16 ?_
  obtain ⟨g_2, hf⟩ := grd_e hf
  refine m_iast B hw (i := 5) rfl g_2 dX11_writes_19 hf (fun M_3 H locs hw hf => ?_)
  refine lv_iconst (v := 0) hx hb dX11_writes_20 (by decide) ?_
  refine lv_istore_n (lv' := [(2, .int 0), (0, .ref (X.2.2 0)), (1, .int p1)]) hx hb dX11_writes_21 rfl hl (by decide) rfl (fun ls hl => ?_)
  refine jn_e hf (fun kk => ∀ (M_5 : Mem) (H : Heap) (locs : List Loc) (ls : Array Slot), HW LM X M_5 s H locs → lv_has ls 4 [(0, .ref (X.2.2 0))] → kk M_5 = some rs → W p l e rm_X11_writes s m args below meth c H locs 0 0 Q (F0 m 128 ls [])) ?_ (fun k128_4 J128_4 hf => ?_)
  · intro M_5 H locs ls hw hl hf
    refine lv_aload_n hx hb dX11_writes_128 rfl (lv_at hl 0 rfl) ?_
    obtain ⟨M_7, h_6, hf⟩ := bd_e hf
    refine q_callVv (M' := M_7) (i := 0) (As := []) (rest := []) B hw (c_X11_drops l X fu M_5 M_7 h_6 _) cv_X11_245 (rc_11 B hw) rfl hl.1 rfl rfl ⟨Nat.le_of_ble_eq_true rfl, Nat.le_of_ble_eq_true rfl⟩ (Nat.le_of_ble_eq_true rfl) ⟨Nat.le_of_ble_eq_true rfl, Nat.le_of_ble_eq_true rfl⟩ dX11_writes_129 rfl (fun H locs hw => ?_)
    cases hf
    subst hQ
    exact q_vret B hr hlk hw rfl dX11_writes_132
  have hL_22 : ∀ (n_22 : Nat) (x2_8 : Int32) (M_9 : Mem) (H : Heap) (locs : List Loc) (ls : Array Slot), HW LM X M_9 s H locs → lv_has ls 4 [(0, .ref (X.2.2 0)), (1, .int p1), (2, .int x2_8)] → f_X11_writes_L22 fu p1 k128_4 n_22 x2_8 M_9 = some rs → W p l e rm_X11_writes s m args below meth c H locs 0 0 Q (F0 m 22 ls []) := by
    intro n_22
    induction n_22 with
    | zero => intro x2_8 M_9 H locs ls hw hl hf; exact no_none hf
    | succ n_22 ih_22 =>
      intro x2_8 M_9 H locs ls hw hl hf
      rw [f_X11_writes_L22] at hf
      refine lv_iload_n hx hb dX11_writes_22 rfl (lv_at hl 2 rfl) ?_
      refine lv_aload_n hx hb dX11_writes_23 rfl (lv_at hl 0 rfl) ?_
      refine gt_X11_232 B hw dX11_writes_24 ?_
      refine lv_icmp_ge (tgt := 128) hx hb dX11_writes_27 (by decide) (fun c_10 => ?_) (fun c_10 => ?_)
      · have hf := it_e hf c_10
        exact J128_4 M_9 _ _ _ hw (lv_sub hl [0] rfl) hf
      · have hf := ie_e hf c_10
        refine lv_aload_n hx hb dX11_writes_30 rfl (lv_at hl 0 rfl) ?_
        refine gt_X11_102 B hw dX11_writes_31 ?_
        refine lv_iload_n hx hb dX11_writes_34 rfl (lv_at hl 2 rfl) ?_
        obtain ⟨g_11, hf⟩ := grd_e hf
        refine m_iald B hw (i := 30) rfl g_11 dX11_writes_35 ?_
        refine lv_iload_n hx hb dX11_writes_36 rfl (lv_at hl 1 rfl) ?_
        refine lv_icmp_ne (tgt := 122) hx hb dX11_writes_37 (by decide) (fun c_12 => ?_) (fun c_12 => ?_)
        · have hf := ie_e hf c_12
          refine r_iinc (v := (x2_8 + 1)) hx hb dX11_writes_122 hl (k := 2) rfl rfl (by decide) hf (fun x2_13 ls hl hf => ?_)
          have hl : lv_has ls 4 [(2, .int x2_13), (0, .ref (X.2.2 0)), (1, .int p1)] := hl
          refine lv_goto (tgt := 22) hx hb dX11_writes_125 (by decide) ?_
          exact ih_22 x2_13 M_9 _ _ _ hw (lv_sub hl [1, 2, 0] rfl) hf
        · have hf := it_e hf c_12
          refine lv_aload_n hx hb dX11_writes_40 rfl (lv_at hl 0 rfl) ?_
          refine gt_X11_235 B hw dX11_writes_41 ?_
          refine lv_aload_n hx hb dX11_writes_44 rfl (lv_at hl 0 rfl) ?_
          refine gt_X11_28 B hw dX11_writes_45 ?_
          refine lv_iload_n hx hb dX11_writes_48 rfl (lv_at hl 1 rfl) ?_
          refine q_callSi (M' := M_9) (As := [.int p1]) (rest := [.ref (X.2.2 7), .int (M_9 0 8)]) B hw (c_X11_storeOf l X p1 _ rfl M_9 _) cs_X11_220 rfl hl.1 rfl rfl ⟨Nat.le_of_ble_eq_true rfl, Nat.le_of_ble_eq_true rfl⟩ (Nat.le_of_ble_eq_true rfl) ⟨Nat.le_of_ble_eq_true rfl, Nat.le_of_ble_eq_true rfl⟩ dX11_writes_49 rfl (fun H locs hw => ?_)
          obtain ⟨g_14, hf⟩ := grd_e hf
          refine m_iald B hw (i := 7) rfl g_14 dX11_writes_52 ?_
          refine lv_iadd hx hb dX11_writes_53 ?_
          refine r_topn hf (fun x3_15 hf => ?_)
          refine lv_istore_n (lv' := [(3, .int x3_15), (0, .ref (X.2.2 0)), (1, .int p1), (2, .int x2_8)]) hx hb dX11_writes_54 rfl hl (by decide) rfl (fun ls hl => ?_)
          refine lv_aload_n hx hb dX11_writes_55 rfl (lv_at hl 1 rfl) ?_
          refine gt_X11_111 B hw dX11_writes_56 ?_
          refine lv_iload_n hx hb dX11_writes_59 rfl (lv_at hl 3 rfl) ?_
          refine lv_aload_n hx hb dX11_writes_60 rfl (lv_at hl 1 rfl) ?_
          refine gt_X11_111 B hw dX11_writes_61 ?_
          refine lv_iload_n hx hb dX11_writes_64 rfl (lv_at hl 3 rfl) ?_
          refine m_iald B hw (i := 33) rfl g_11 dX11_writes_65 ?_
          refine lv_iconst (v := (-1)) hx hb dX11_writes_66 (by decide) ?_
          refine nmv_e hf (fun kk => ∀ (H : Heap) (locs : List Loc), HW LM X M_9 s H locs → W p l e rm_X11_writes s m args below meth c H locs 0 0 Q (F0 m 85 ls [.int kk, .int x2_8, .ref (X.2.2 33)])) (fun J => ?_) (fun v_17 hf H locs hw => ?_)
          · refine lv_icmp_ne (tgt := 79) hx hb dX11_writes_67 (by decide) (fun c_16 => ?_) (fun c_16 => ?_)
            · rw [if_neg c_16] at J
              refine lv_aload_n hx hb dX11_writes_79 rfl (lv_at hl 1 rfl) ?_
              refine gt_X11_111 B hw dX11_writes_80 ?_
              refine lv_iload_n hx hb dX11_writes_83 rfl (lv_at hl 3 rfl) ?_
              refine m_iald B hw (i := 33) rfl g_11 dX11_writes_84 ?_
              exact J _ _ hw
            · rw [if_pos c_16] at J
              refine lv_aload_n hx hb dX11_writes_70 rfl (lv_at hl 1 rfl) ?_
              refine gt_X11_242 B hw dX11_writes_71 ?_
              refine lv_iconst (v := 1) hx hb dX11_writes_74 (by decide) ?_
              refine lv_isub hx hb dX11_writes_75 ?_
              refine lv_goto (tgt := 85) hx hb dX11_writes_76 (by decide) ?_
              exact J _ _ hw
          · refine m_iast B hw (i := 33) rfl g_11 dX11_writes_85 hf (fun M_18 H locs hw hf => ?_)
            refine lv_aload_n hx hb dX11_writes_86 rfl (lv_at hl 1 rfl) ?_
            refine gt_X11_114 B hw dX11_writes_87 ?_
            refine lv_iload_n hx hb dX11_writes_90 rfl (lv_at hl 3 rfl) ?_
            refine lv_aload_n hx hb dX11_writes_91 rfl (lv_at hl 1 rfl) ?_
            refine gt_X11_114 B hw dX11_writes_92 ?_
            refine lv_iload_n hx hb dX11_writes_95 rfl (lv_at hl 3 rfl) ?_
            refine m_iald B hw (i := 34) rfl g_11 dX11_writes_96 ?_
            refine lv_iconst (v := (-1)) hx hb dX11_writes_97 (by decide) ?_
            refine nmv_e hf (fun kk => ∀ (H : Heap) (locs : List Loc), HW LM X M_18 s H locs → W p l e rm_X11_writes s m args below meth c H locs 0 0 Q (F0 m 121 ls [.int kk, .int x2_8, .ref (X.2.2 34)])) (fun J => ?_) (fun v_21 hf H locs hw => ?_)
            · refine lv_icmp_eq (tgt := 111) hx hb dX11_writes_98 (by decide) (fun c_19 => ?_) (fun c_19 => ?_)
              · rw [if_pos c_19] at J
                refine lv_iload_n hx hb dX11_writes_111 rfl (lv_at hl 0 rfl) ?_
                refine lv_goto (tgt := 121) hx hb dX11_writes_112 (by decide) ?_
                exact J _ _ hw
              · rw [if_neg c_19] at J
                refine lv_iload_n hx hb dX11_writes_101 rfl (lv_at hl 0 rfl) ?_
                refine lv_aload_n hx hb dX11_writes_102 rfl (lv_at hl 1 rfl) ?_
                refine gt_X11_114 B hw dX11_writes_103 ?_
                refine lv_iload_n hx hb dX11_writes_106 rfl (lv_at hl 3 rfl) ?_
                refine m_iald B hw (i := 34) rfl g_11 dX11_writes_107 ?_
                refine lv_icmp_ge (tgt := 115) hx hb dX11_writes_108 (by decide) (fun c_20 => ?_) (fun c_20 => ?_)
                · rw [if_pos c_20] at J
                  refine lv_aload_n hx hb dX11_writes_115 rfl (lv_at hl 1 rfl) ?_
                  refine gt_X11_114 B hw dX11_writes_116 ?_
                  refine lv_iload_n hx hb dX11_writes_119 rfl (lv_at hl 3 rfl) ?_
                  refine m_iald B hw (i := 34) rfl g_11 dX11_writes_120 ?_
                  exact J _ _ hw
                · rw [if_neg c_20] at J
                  refine lv_iload_n hx hb dX11_writes_111 rfl (lv_at hl 0 rfl) ?_
                  refine lv_goto (tgt := 121) hx hb dX11_writes_112 (by decide) ?_
                  exact J _ _ hw
            · refine m_iast B hw (i := 34) rfl g_11 dX11_writes_121 hf (fun M_22 H locs hw hf => ?_)
              refine r_iinc (v := (x2_8 + 1)) hx hb dX11_writes_122 hl (k := 3) rfl rfl (by decide) hf (fun x2_23 ls hl hf => ?_)
              have hl : lv_has ls 4 [(2, .int x2_23), (3, .int x3_15), (0, .ref (X.2.2 0)), (1, .int p1)] := hl
              refine lv_goto (tgt := 22) hx hb dX11_writes_125 (by decide) ?_
              exact ih_22 x2_23 M_22 _ _ _ hw (lv_sub hl [2, 3, 0] rfl) hf
  exact hL_22 fu 0 M_3 _ _ _ hw (lv_sub hl [1, 2, 0] rfl) hf
abbrev rm_X11_inserts : Room := { frames := 3, cells := 0, slots := 0, locals := 69 }
set_option maxRecDepth 100000 in
set_option maxHeartbeats 4000000 in
theorem c_X11_inserts (l : Launch) (X : XT) (fu : Nat) (p1 : Int32) (p2 : Int32) (p3 : Int32) (p4 : Int32) (p5 : Int32) (p6 : Int32) (M : Mem)  (rs : Mem) (hf : f_X11_inserts fu p1 p2 p3 p4 p5 p6 M = some rs) (sz : Nat) : Met l yX11_inserts (wbig yX11_inserts cX11_inserts 10 none) rm_X11_inserts (va_Pc [.ref (X.2.2 0), .int p1, .int p2, .int p3, .int p4, .int p5, .int p6] (PW LM X M sz)) (QV LM X rs sz) 0 0 (AX LM X sz) := by
  refine met_go (L := LM) (M := M) (by decide +kernel) (Nat.le_of_ble_eq_true rfl) ?_
  intro p e s m args below meth c hsz B hr hlk hw ls hl
  subst hsz
  have hx := B.hx
  have hb := B.hb
  have hl : lv_has ls 10 [(0, .ref (X.2.2 0)), (1, .int p1), (2, .int p2), (3, .int p3), (4, .int p4), (5, .int p5), (6, .int p6)] := hl
  generalize hQ : MQ below _ args s 0 0 (AX LM X s.heap.size) = Q
  unfold f_X11_inserts at hf
  refine lv_aload_n hx hb dX11_inserts_0 rfl (lv_at hl 0 rfl) ?_
  refine gt_X11_7 B hw dX11_inserts_1 ?_
  refine lv_iload_n hx hb dX11_inserts_4 rfl (lv_at hl 1 rfl) ?_
  obtain ⟨g_1, hf⟩ := grd_e hf
  refine m_iald B hw (i := 1) rfl g_1 dX11_inserts_5 ?_
  refine r_topn hf (fun x7_2 hf => ?_)
  refine lv_istore (lv' := [(7, .int x7_2), (0, .ref (X.2.2 0)), (1, .int p1), (2, .int p2), (3, .int p3), (4, .int p4), (5, .int p5), (6, .int p6)]) hx hb dX11_inserts_6 hl (by decide) rfl (fun ls hl => ?_)
  refine jn_e hf (fun kk => ∀ (x7_4 : Int32) (M_5 : Mem) (H : Heap) (locs : List Loc) (ls : Array Slot), HW LM X M_5 s H locs → lv_has ls 10 [(0, .ref (X.2.2 0)), (1, .int p1), (2, .int p2), (3, .int p3), (4, .int p4), (5, .int p5), (6, .int p6), (7, .int x7_4)] → kk x7_4 M_5 = some rs → W p l e rm_X11_inserts s m args below meth c H locs 0 0 Q (F0 m 103 ls [])) ?_ (fun k103_3 J103_3 hf => ?_)
  · intro x7_4 M_5 H locs ls hw hl hf
    refine lv_bipush (v := 12) hx hb dX11_inserts_103 (by decide) ?_
    refine lv_iload_n hx hb dX11_inserts_105 rfl (lv_at hl 1 rfl) ?_
    refine lv_imul hx hb dX11_inserts_106 ?_
    refine lv_iload hx hb dX11_inserts_107 (lv_at hl 7 rfl) ?_
    refine lv_iadd hx hb dX11_inserts_109 ?_
    refine r_topn hf (fun x8_6 hf => ?_)
    refine lv_istore (lv' := [(8, .int x8_6), (0, .ref (X.2.2 0)), (1, .int p1), (2, .int p2), (3, .int p3), (4, .int p4), (5, .int p5), (6, .int p6), (7, .int x7_4)]) hx hb dX11_inserts_110 hl (by decide) rfl (fun ls hl => ?_)
    refine lv_aload_n hx hb dX11_inserts_112 rfl (lv_at hl 1 rfl) ?_
    refine gt_X11_13 B hw dX11_inserts_113 ?_
    refine lv_iload hx hb dX11_inserts_116 (lv_at hl 0 rfl) ?_
    refine lv_iload_n hx hb dX11_inserts_118 rfl (lv_at hl 3 rfl) ?_
    obtain ⟨g_7, hf⟩ := grd_e hf
    refine m_iast B hw (i := 2) rfl g_7 dX11_inserts_119 hf (fun M_8 H locs hw hf => ?_)
    refine lv_aload_n hx hb dX11_inserts_120 rfl (lv_at hl 1 rfl) ?_
    refine gt_X11_16 B hw dX11_inserts_121 ?_
    refine lv_iconst (v := 4) hx hb dX11_inserts_124 (by decide) ?_
    refine lv_iload hx hb dX11_inserts_125 (lv_at hl 0 rfl) ?_
    refine lv_imul hx hb dX11_inserts_127 ?_
    refine lv_iload_n hx hb dX11_inserts_128 rfl (lv_at hl 4 rfl) ?_
    obtain ⟨g_9, hf⟩ := grd_e hf
    refine m_iast B hw (i := 3) rfl g_9 dX11_inserts_129 hf (fun M_10 H locs hw hf => ?_)
    refine lv_aload_n hx hb dX11_inserts_130 rfl (lv_at hl 1 rfl) ?_
    refine gt_X11_16 B hw dX11_inserts_131 ?_
    refine lv_iconst (v := 4) hx hb dX11_inserts_134 (by decide) ?_
    refine lv_iload hx hb dX11_inserts_135 (lv_at hl 0 rfl) ?_
    refine lv_imul hx hb dX11_inserts_137 ?_
    refine lv_iconst (v := 1) hx hb dX11_inserts_138 (by decide) ?_
    refine lv_iadd hx hb dX11_inserts_139 ?_
    refine lv_iload hx hb dX11_inserts_140 (lv_at hl 5 rfl) ?_
    obtain ⟨g_11, hf⟩ := grd_e hf
    refine m_iast B hw (i := 3) rfl g_11 dX11_inserts_142 hf (fun M_12 H locs hw hf => ?_)
    refine lv_aload_n hx hb dX11_inserts_143 rfl (lv_at hl 1 rfl) ?_
    refine gt_X11_16 B hw dX11_inserts_144 ?_
    refine lv_iconst (v := 4) hx hb dX11_inserts_147 (by decide) ?_
    refine lv_iload hx hb dX11_inserts_148 (lv_at hl 0 rfl) ?_
    refine lv_imul hx hb dX11_inserts_150 ?_
    refine lv_iconst (v := 2) hx hb dX11_inserts_151 (by decide) ?_
    refine lv_iadd hx hb dX11_inserts_152 ?_
    refine lv_iload hx hb dX11_inserts_153 (lv_at hl 6 rfl) ?_
    obtain ⟨g_13, hf⟩ := grd_e hf
    refine m_iast B hw (i := 3) rfl g_13 dX11_inserts_155 hf (fun M_14 H locs hw hf => ?_)
    refine lv_aload_n hx hb dX11_inserts_156 rfl (lv_at hl 1 rfl) ?_
    refine gt_X11_16 B hw dX11_inserts_157 ?_
    refine lv_iconst (v := 4) hx hb dX11_inserts_160 (by decide) ?_
    refine lv_iload hx hb dX11_inserts_161 (lv_at hl 0 rfl) ?_
    refine lv_imul hx hb dX11_inserts_163 ?_
    refine lv_iconst (v := 3) hx hb dX11_inserts_164 (by decide) ?_
    refine lv_iadd hx hb dX11_inserts_165 ?_
    refine lv_iload hx hb dX11_inserts_166 (lv_at hl 7 rfl) ?_
    obtain ⟨g_15, hf⟩ := grd_e hf
    refine m_iast B hw (i := 3) rfl g_15 dX11_inserts_168 hf (fun M_16 H locs hw hf => ?_)
    refine lv_aload_n hx hb dX11_inserts_169 rfl (lv_at hl 1 rfl) ?_
    refine gt_X11_7 B hw dX11_inserts_170 ?_
    refine lv_iload_n hx hb dX11_inserts_173 rfl (lv_at hl 2 rfl) ?_
    refine lv_dup2_11 hx hb dX11_inserts_174 rfl rfl ?_
    refine m_iald B hw (i := 1) rfl g_1 dX11_inserts_175 ?_
    refine lv_iconst (v := 1) hx hb dX11_inserts_176 (by decide) ?_
    refine lv_iadd hx hb dX11_inserts_177 ?_
    refine m_iast B hw (i := 1) rfl g_1 dX11_inserts_178 hf (fun M_17 H locs hw hf => ?_)
    refine lv_aload_n hx hb dX11_inserts_179 rfl (lv_at hl 1 rfl) ?_
    refine lv_iload_n hx hb dX11_inserts_180 rfl (lv_at hl 2 rfl) ?_
    obtain ⟨M_19, h_18, hf⟩ := bd_e hf
    refine q_callVv (M' := M_19) (i := 0) (As := [.int p1]) (rest := []) B hw (c_X11_writes l X fu p1 M_17 M_19 h_18 _) cv_X11_248 (rc_11 B hw) rfl hl.1 rfl rfl ⟨Nat.le_of_ble_eq_true rfl, Nat.le_of_ble_eq_true rfl⟩ (Nat.le_of_ble_eq_true rfl) ⟨Nat.le_of_ble_eq_true rfl, Nat.le_of_ble_eq_true rfl⟩ dX11_inserts_181 rfl (fun H locs hw => ?_)
    cases hf
    subst hQ
    exact q_vret B hr hlk hw rfl dX11_inserts_184
  have hL_8 : ∀ (n_8 : Nat) (x7_20 : Int32) (M_21 : Mem) (H : Heap) (locs : List Loc) (ls : Array Slot), HW LM X M_21 s H locs → lv_has ls 10 [(0, .ref (X.2.2 0)), (1, .int p1), (2, .int p2), (3, .int p3), (4, .int p4), (5, .int p5), (6, .int p6), (7, .int x7_20)] → f_X11_inserts_L8 fu p1 p2 k103_3 n_8 x7_20 M_21 = some rs → W p l e rm_X11_inserts s m args below meth c H locs 0 0 Q (F0 m 8 ls []) := by
    intro n_8
    induction n_8 with
    | zero => intro x7_20 M_21 H locs ls hw hl hf; exact no_none hf
    | succ n_8 ih_8 =>
      intro x7_20 M_21 H locs ls hw hl hf
      rw [f_X11_inserts_L8] at hf
      refine lv_iload hx hb dX11_inserts_8 (lv_at hl 7 rfl) ?_
      refine lv_if_le (tgt := 103) hx hb dX11_inserts_10 (by decide) (fun c_22 => ?_) (fun c_22 => ?_)
      · have hf := it_e hf c_22
        exact J103_3 x7_20 M_21 _ _ _ hw (lv_sub hl [0, 1, 2, 3, 4, 5, 6, 7] rfl) hf
      · have hf := ie_e hf c_22
        refine lv_aload_n hx hb dX11_inserts_13 rfl (lv_at hl 0 rfl) ?_
        refine gt_X11_13 B hw dX11_inserts_14 ?_
        refine lv_bipush (v := 12) hx hb dX11_inserts_17 (by decide) ?_
        refine lv_iload_n hx hb dX11_inserts_19 rfl (lv_at hl 1 rfl) ?_
        refine lv_imul hx hb dX11_inserts_20 ?_
        refine lv_iload hx hb dX11_inserts_21 (lv_at hl 7 rfl) ?_
        refine lv_iadd hx hb dX11_inserts_23 ?_
        refine lv_iconst (v := 1) hx hb dX11_inserts_24 (by decide) ?_
        refine lv_isub hx hb dX11_inserts_25 ?_
        obtain ⟨g_23, hf⟩ := grd_e hf
        refine m_iald B hw (i := 2) rfl g_23 dX11_inserts_26 ?_
        refine lv_iload_n hx hb dX11_inserts_27 rfl (lv_at hl 2 rfl) ?_
        refine lv_icmp_le (tgt := 103) hx hb dX11_inserts_28 (by decide) (fun c_24 => ?_) (fun c_24 => ?_)
        · have hf := it_e hf c_24
          exact J103_3 x7_20 M_21 _ _ _ hw (lv_sub hl [0, 1, 2, 3, 4, 5, 6, 7] rfl) hf
        · have hf := ie_e hf c_24
          refine lv_bipush (v := 12) hx hb dX11_inserts_31 (by decide) ?_
          refine lv_iload_n hx hb dX11_inserts_33 rfl (lv_at hl 1 rfl) ?_
          refine lv_imul hx hb dX11_inserts_34 ?_
          refine lv_iload hx hb dX11_inserts_35 (lv_at hl 7 rfl) ?_
          refine lv_iadd hx hb dX11_inserts_37 ?_
          refine r_topn hf (fun x8_25 hf => ?_)
          refine lv_istore (lv' := [(8, .int x8_25), (0, .ref (X.2.2 0)), (1, .int p1), (2, .int p2), (3, .int p3), (4, .int p4), (5, .int p5), (6, .int p6), (7, .int x7_20)]) hx hb dX11_inserts_38 hl (by decide) rfl (fun ls hl => ?_)
          refine lv_aload_n hx hb dX11_inserts_40 rfl (lv_at hl 1 rfl) ?_
          refine gt_X11_13 B hw dX11_inserts_41 ?_
          refine lv_iload hx hb dX11_inserts_44 (lv_at hl 0 rfl) ?_
          refine lv_aload_n hx hb dX11_inserts_46 rfl (lv_at hl 1 rfl) ?_
          refine gt_X11_13 B hw dX11_inserts_47 ?_
          refine lv_iload hx hb dX11_inserts_50 (lv_at hl 0 rfl) ?_
          refine lv_iconst (v := 1) hx hb dX11_inserts_52 (by decide) ?_
          refine lv_isub hx hb dX11_inserts_53 ?_
          obtain ⟨g_26, hf⟩ := grd_e hf
          refine m_iald B hw (i := 2) rfl g_26 dX11_inserts_54 ?_
          obtain ⟨g_27, hf⟩ := grd_e hf
          refine m_iast B hw (i := 2) rfl g_27 dX11_inserts_55 hf (fun M_28 H locs hw hf => ?_)
          refine lv_iconst (v := 0) hx hb dX11_inserts_56 (by decide) ?_
          refine lv_istore (lv' := [(9, .int 0), (8, .int x8_25), (0, .ref (X.2.2 0)), (1, .int p1), (2, .int p2), (3, .int p3), (4, .int p4), (5, .int p5), (6, .int p6), (7, .int x7_20)]) hx hb dX11_inserts_57 hl (by decide) rfl (fun ls hl => ?_)
          refine jn_e hf (fun kk => ∀ (M_30 : Mem) (H : Heap) (locs : List Loc) (ls : Array Slot), HW LM X M_30 s H locs → lv_has ls 10 [(0, .ref (X.2.2 0)), (1, .int p1), (2, .int p2), (3, .int p3), (4, .int p4), (5, .int p5), (6, .int p6), (7, .int x7_20)] → kk M_30 = some rs → W p l e rm_X11_inserts s m args below meth c H locs 0 0 Q (F0 m 97 ls [])) ?_ (fun k97_29 J97_29 hf => ?_)
          · intro M_30 H locs ls hw hl hf
            refine r_iinc (v := (x7_20 + (-1))) hx hb dX11_inserts_97 hl (k := 7) rfl rfl (by decide) hf (fun x7_31 ls hl hf => ?_)
            have hl : lv_has ls 10 [(7, .int x7_31), (0, .ref (X.2.2 0)), (1, .int p1), (2, .int p2), (3, .int p3), (4, .int p4), (5, .int p5), (6, .int p6)] := hl
            refine lv_goto (tgt := 8) hx hb dX11_inserts_100 (by decide) ?_
            exact ih_8 x7_31 M_30 _ _ _ hw (lv_sub hl [1, 2, 3, 4, 5, 6, 7, 0] rfl) hf
          have hL_59 : ∀ (n_59 : Nat) (x9_32 : Int32) (M_33 : Mem) (H : Heap) (locs : List Loc) (ls : Array Slot), HW LM X M_33 s H locs → lv_has ls 10 [(0, .ref (X.2.2 0)), (1, .int p1), (2, .int p2), (3, .int p3), (4, .int p4), (5, .int p5), (6, .int p6), (7, .int x7_20), (8, .int x8_25), (9, .int x9_32)] → f_X11_inserts_L59 fu x8_25 k97_29 n_59 x9_32 M_33 = some rs → W p l e rm_X11_inserts s m args below meth c H locs 0 0 Q (F0 m 59 ls []) := by
            intro n_59
            induction n_59 with
            | zero => intro x9_32 M_33 H locs ls hw hl hf; exact no_none hf
            | succ n_59 ih_59 =>
              intro x9_32 M_33 H locs ls hw hl hf
              rw [f_X11_inserts_L59] at hf
              refine lv_iload hx hb dX11_inserts_59 (lv_at hl 9 rfl) ?_
              refine lv_iconst (v := 4) hx hb dX11_inserts_61 (by decide) ?_
              refine lv_icmp_ge (tgt := 97) hx hb dX11_inserts_62 (by decide) (fun c_34 => ?_) (fun c_34 => ?_)
              · have hf := it_e hf c_34
                exact J97_29 M_33 _ _ _ hw (lv_sub hl [0, 1, 2, 3, 4, 5, 6, 7] rfl) hf
              · have hf := ie_e hf c_34
                refine lv_aload_n hx hb dX11_inserts_65 rfl (lv_at hl 0 rfl) ?_
                refine gt_X11_16 B hw dX11_inserts_66 ?_
                refine lv_iconst (v := 4) hx hb dX11_inserts_69 (by decide) ?_
                refine lv_iload hx hb dX11_inserts_70 (lv_at hl 8 rfl) ?_
                refine lv_imul hx hb dX11_inserts_72 ?_
                refine lv_iload hx hb dX11_inserts_73 (lv_at hl 9 rfl) ?_
                refine lv_iadd hx hb dX11_inserts_75 ?_
                refine lv_aload_n hx hb dX11_inserts_76 rfl (lv_at hl 0 rfl) ?_
                refine gt_X11_16 B hw dX11_inserts_77 ?_
                refine lv_iconst (v := 4) hx hb dX11_inserts_80 (by decide) ?_
                refine lv_iload hx hb dX11_inserts_81 (lv_at hl 8 rfl) ?_
                refine lv_iconst (v := 1) hx hb dX11_inserts_83 (by decide) ?_
                refine lv_isub hx hb dX11_inserts_84 ?_
                refine lv_imul hx hb dX11_inserts_85 ?_
                refine lv_iload hx hb dX11_inserts_86 (lv_at hl 9 rfl) ?_
                refine lv_iadd hx hb dX11_inserts_88 ?_
                obtain ⟨g_35, hf⟩ := grd_e hf
                refine m_iald B hw (i := 3) rfl g_35 dX11_inserts_89 ?_
                obtain ⟨g_36, hf⟩ := grd_e hf
                refine m_iast B hw (i := 3) rfl g_36 dX11_inserts_90 hf (fun M_37 H locs hw hf => ?_)
                refine r_iinc (v := (x9_32 + 1)) hx hb dX11_inserts_91 hl (k := 9) rfl rfl (by decide) hf (fun x9_38 ls hl hf => ?_)
                have hl : lv_has ls 10 [(9, .int x9_38), (0, .ref (X.2.2 0)), (1, .int p1), (2, .int p2), (3, .int p3), (4, .int p4), (5, .int p5), (6, .int p6), (7, .int x7_20), (8, .int x8_25)] := hl
                refine lv_goto (tgt := 59) hx hb dX11_inserts_94 (by decide) ?_
                exact ih_59 x9_38 M_37 _ _ _ hw (lv_sub hl [1, 2, 3, 4, 5, 6, 7, 8, 9, 0] rfl) hf
          exact hL_59 fu 0 M_28 _ _ _ hw (lv_sub hl [2, 3, 4, 5, 6, 7, 8, 9, 1, 0] rfl) hf
  exact hL_8 fu x7_2 M _ _ _ hw (lv_sub hl [1, 2, 3, 4, 5, 6, 7, 0] rfl) hf
abbrev rm_X11_takesOut : Room := { frames := 3, cells := 0, slots := 0, locals := 69 }
set_option maxRecDepth 100000 in
set_option maxHeartbeats 4000000 in
theorem c_X11_takesOut (l : Launch) (X : XT) (fu : Nat) (p1 : Int32) (p2 : Int32) (M : Mem)  (rs : Mem) (hf : f_X11_takesOut fu p1 p2 M = some rs) (sz : Nat) : Met l yX11_takesOut (wbig yX11_takesOut cX11_takesOut 7 none) rm_X11_takesOut (va_Pc [.ref (X.2.2 0), .int p1, .int p2] (PW LM X M sz)) (QV LM X rs sz) 0 0 (AX LM X sz) := by
  refine met_go (L := LM) (M := M) (by decide +kernel) (Nat.le_of_ble_eq_true rfl) ?_
  intro p e s m args below meth c hsz B hr hlk hw ls hl
  subst hsz
  have hx := B.hx
  have hb := B.hb
  have hl : lv_has ls 7 [(0, .ref (X.2.2 0)), (1, .int p1), (2, .int p2)] := hl
  generalize hQ : MQ below _ args s 0 0 (AX LM X s.heap.size) = Q
  unfold f_X11_takesOut at hf
  refine lv_aload_n hx hb dX11_takesOut_0 rfl (lv_at hl 0 rfl) ?_
  refine lv_iload_n hx hb dX11_takesOut_1 rfl (lv_at hl 1 rfl) ?_
  refine lv_iload_n hx hb dX11_takesOut_2 rfl (lv_at hl 2 rfl) ?_
  obtain ⟨r_2, h_1, hf⟩ := bd_e hf
  refine q_callVi (M' := M) (i := 0) (As := [.int p1, .int p2]) (rest := []) B hw (c_X11_placeOf l X fu p1 p2 M r_2 h_1 _) cv_X11_252 (rc_11 B hw) rfl hl.1 rfl rfl ⟨Nat.le_of_ble_eq_true rfl, Nat.le_of_ble_eq_true rfl⟩ (Nat.le_of_ble_eq_true rfl) ⟨Nat.le_of_ble_eq_true rfl, Nat.le_of_ble_eq_true rfl⟩ dX11_takesOut_3 rfl (fun H locs hw => ?_)
  refine lv_istore_n (lv' := [(3, .int r_2), (0, .ref (X.2.2 0)), (1, .int p1), (2, .int p2)]) hx hb dX11_takesOut_6 rfl hl (by decide) rfl (fun ls hl => ?_)
  refine lv_aload_n hx hb dX11_takesOut_7 rfl (lv_at hl 1 rfl) ?_
  refine gt_X11_7 B hw dX11_takesOut_8 ?_
  refine lv_iload_n hx hb dX11_takesOut_11 rfl (lv_at hl 2 rfl) ?_
  refine lv_dup2_11 hx hb dX11_takesOut_12 rfl rfl ?_
  obtain ⟨g_3, hf⟩ := grd_e hf
  refine m_iald B hw (i := 1) rfl g_3 dX11_takesOut_13 ?_
  refine lv_iconst (v := 1) hx hb dX11_takesOut_14 (by decide) ?_
  refine lv_isub hx hb dX11_takesOut_15 ?_
  refine m_iast B hw (i := 1) rfl g_3 dX11_takesOut_16 hf (fun M_4 H locs hw hf => ?_)
  refine lv_iload_n hx hb dX11_takesOut_17 rfl (lv_at hl 0 rfl) ?_
  refine lv_istore (lv' := [(4, .int r_2), (3, .int r_2), (0, .ref (X.2.2 0)), (1, .int p1), (2, .int p2)]) hx hb dX11_takesOut_18 hl (by decide) rfl (fun ls hl => ?_)
  refine jn_e hf (fun kk => ∀ (M_6 : Mem) (H : Heap) (locs : List Loc) (ls : Array Slot), HW LM X M_6 s H locs → lv_has ls 7 [(0, .ref (X.2.2 0)), (1, .int p1)] → kk M_6 = some rs → W p l e rm_X11_takesOut s m args below meth c H locs 0 0 Q (F0 m 103 ls [])) ?_ (fun k103_5 J103_5 hf => ?_)
  · intro M_6 H locs ls hw hl hf
    refine lv_aload_n hx hb dX11_takesOut_103 rfl (lv_at hl 0 rfl) ?_
    refine lv_iload_n hx hb dX11_takesOut_104 rfl (lv_at hl 1 rfl) ?_
    obtain ⟨M_8, h_7, hf⟩ := bd_e hf
    refine q_callVv (M' := M_8) (i := 0) (As := [.int p1]) (rest := []) B hw (c_X11_writes l X fu p1 M_6 M_8 h_7 _) cv_X11_248 (rc_11 B hw) rfl hl.1 rfl rfl ⟨Nat.le_of_ble_eq_true rfl, Nat.le_of_ble_eq_true rfl⟩ (Nat.le_of_ble_eq_true rfl) ⟨Nat.le_of_ble_eq_true rfl, Nat.le_of_ble_eq_true rfl⟩ dX11_takesOut_105 rfl (fun H locs hw => ?_)
    cases hf
    subst hQ
    exact q_vret B hr hlk hw rfl dX11_takesOut_108
  have hL_20 : ∀ (n_20 : Nat) (x4_9 : Int32) (M_10 : Mem) (H : Heap) (locs : List Loc) (ls : Array Slot), HW LM X M_10 s H locs → lv_has ls 7 [(0, .ref (X.2.2 0)), (1, .int p1), (4, .int x4_9)] → f_X11_takesOut_L20 fu p1 k103_5 n_20 x4_9 M_10 = some rs → W p l e rm_X11_takesOut s m args below meth c H locs 0 0 Q (F0 m 20 ls []) := by
    intro n_20
    induction n_20 with
    | zero => intro x4_9 M_10 H locs ls hw hl hf; exact no_none hf
    | succ n_20 ih_20 =>
      intro x4_9 M_10 H locs ls hw hl hf
      rw [f_X11_takesOut_L20] at hf
      refine lv_iload hx hb dX11_takesOut_20 (lv_at hl 2 rfl) ?_
      refine lv_aload_n hx hb dX11_takesOut_22 rfl (lv_at hl 0 rfl) ?_
      refine gt_X11_7 B hw dX11_takesOut_23 ?_
      refine lv_iload_n hx hb dX11_takesOut_26 rfl (lv_at hl 1 rfl) ?_
      obtain ⟨g_11, hf⟩ := grd_e hf
      refine m_iald B hw (i := 1) rfl g_11 dX11_takesOut_27 ?_
      refine lv_icmp_ge (tgt := 103) hx hb dX11_takesOut_28 (by decide) (fun c_12 => ?_) (fun c_12 => ?_)
      · have hf := it_e hf c_12
        exact J103_5 M_10 _ _ _ hw (lv_sub hl [0, 1] rfl) hf
      · have hf := ie_e hf c_12
        refine lv_bipush (v := 12) hx hb dX11_takesOut_31 (by decide) ?_
        refine lv_iload_n hx hb dX11_takesOut_33 rfl (lv_at hl 1 rfl) ?_
        refine lv_imul hx hb dX11_takesOut_34 ?_
        refine lv_iload hx hb dX11_takesOut_35 (lv_at hl 2 rfl) ?_
        refine lv_iadd hx hb dX11_takesOut_37 ?_
        refine r_topn hf (fun x5_13 hf => ?_)
        refine lv_istore (lv' := [(5, .int x5_13), (0, .ref (X.2.2 0)), (1, .int p1), (4, .int x4_9)]) hx hb dX11_takesOut_38 hl (by decide) rfl (fun ls hl => ?_)
        refine lv_aload_n hx hb dX11_takesOut_40 rfl (lv_at hl 1 rfl) ?_
        refine gt_X11_13 B hw dX11_takesOut_41 ?_
        refine lv_iload hx hb dX11_takesOut_44 (lv_at hl 0 rfl) ?_
        refine lv_aload_n hx hb dX11_takesOut_46 rfl (lv_at hl 1 rfl) ?_
        refine gt_X11_13 B hw dX11_takesOut_47 ?_
        refine lv_iload hx hb dX11_takesOut_50 (lv_at hl 0 rfl) ?_
        refine lv_iconst (v := 1) hx hb dX11_takesOut_52 (by decide) ?_
        refine lv_iadd hx hb dX11_takesOut_53 ?_
        obtain ⟨g_14, hf⟩ := grd_e hf
        refine m_iald B hw (i := 2) rfl g_14 dX11_takesOut_54 ?_
        obtain ⟨g_15, hf⟩ := grd_e hf
        refine m_iast B hw (i := 2) rfl g_15 dX11_takesOut_55 hf (fun M_16 H locs hw hf => ?_)
        refine lv_iconst (v := 0) hx hb dX11_takesOut_56 (by decide) ?_
        refine lv_istore (lv' := [(6, .int 0), (5, .int x5_13), (0, .ref (X.2.2 0)), (1, .int p1), (4, .int x4_9)]) hx hb dX11_takesOut_57 hl (by decide) rfl (fun ls hl => ?_)
        refine jn_e hf (fun kk => ∀ (M_18 : Mem) (H : Heap) (locs : List Loc) (ls : Array Slot), HW LM X M_18 s H locs → lv_has ls 7 [(0, .ref (X.2.2 0)), (1, .int p1), (4, .int x4_9)] → kk M_18 = some rs → W p l e rm_X11_takesOut s m args below meth c H locs 0 0 Q (F0 m 97 ls [])) ?_ (fun k97_17 J97_17 hf => ?_)
        · intro M_18 H locs ls hw hl hf
          refine r_iinc (v := (x4_9 + 1)) hx hb dX11_takesOut_97 hl (k := 2) rfl rfl (by decide) hf (fun x4_19 ls hl hf => ?_)
          have hl : lv_has ls 7 [(4, .int x4_19), (0, .ref (X.2.2 0)), (1, .int p1)] := hl
          refine lv_goto (tgt := 20) hx hb dX11_takesOut_100 (by decide) ?_
          exact ih_20 x4_19 M_18 _ _ _ hw (lv_sub hl [1, 2, 0] rfl) hf
        have hL_59 : ∀ (n_59 : Nat) (x6_20 : Int32) (M_21 : Mem) (H : Heap) (locs : List Loc) (ls : Array Slot), HW LM X M_21 s H locs → lv_has ls 7 [(0, .ref (X.2.2 0)), (1, .int p1), (4, .int x4_9), (5, .int x5_13), (6, .int x6_20)] → f_X11_takesOut_L59 fu x5_13 k97_17 n_59 x6_20 M_21 = some rs → W p l e rm_X11_takesOut s m args below meth c H locs 0 0 Q (F0 m 59 ls []) := by
          intro n_59
          induction n_59 with
          | zero => intro x6_20 M_21 H locs ls hw hl hf; exact no_none hf
          | succ n_59 ih_59 =>
            intro x6_20 M_21 H locs ls hw hl hf
            rw [f_X11_takesOut_L59] at hf
            refine lv_iload hx hb dX11_takesOut_59 (lv_at hl 4 rfl) ?_
            refine lv_iconst (v := 4) hx hb dX11_takesOut_61 (by decide) ?_
            refine lv_icmp_ge (tgt := 97) hx hb dX11_takesOut_62 (by decide) (fun c_22 => ?_) (fun c_22 => ?_)
            · have hf := it_e hf c_22
              exact J97_17 M_21 _ _ _ hw (lv_sub hl [0, 1, 2] rfl) hf
            · have hf := ie_e hf c_22
              refine lv_aload_n hx hb dX11_takesOut_65 rfl (lv_at hl 0 rfl) ?_
              refine gt_X11_16 B hw dX11_takesOut_66 ?_
              refine lv_iconst (v := 4) hx hb dX11_takesOut_69 (by decide) ?_
              refine lv_iload hx hb dX11_takesOut_70 (lv_at hl 3 rfl) ?_
              refine lv_imul hx hb dX11_takesOut_72 ?_
              refine lv_iload hx hb dX11_takesOut_73 (lv_at hl 4 rfl) ?_
              refine lv_iadd hx hb dX11_takesOut_75 ?_
              refine lv_aload_n hx hb dX11_takesOut_76 rfl (lv_at hl 0 rfl) ?_
              refine gt_X11_16 B hw dX11_takesOut_77 ?_
              refine lv_iconst (v := 4) hx hb dX11_takesOut_80 (by decide) ?_
              refine lv_iload hx hb dX11_takesOut_81 (lv_at hl 3 rfl) ?_
              refine lv_iconst (v := 1) hx hb dX11_takesOut_83 (by decide) ?_
              refine lv_iadd hx hb dX11_takesOut_84 ?_
              refine lv_imul hx hb dX11_takesOut_85 ?_
              refine lv_iload hx hb dX11_takesOut_86 (lv_at hl 4 rfl) ?_
              refine lv_iadd hx hb dX11_takesOut_88 ?_
              obtain ⟨g_23, hf⟩ := grd_e hf
              refine m_iald B hw (i := 3) rfl g_23 dX11_takesOut_89 ?_
              obtain ⟨g_24, hf⟩ := grd_e hf
              refine m_iast B hw (i := 3) rfl g_24 dX11_takesOut_90 hf (fun M_25 H locs hw hf => ?_)
              refine r_iinc (v := (x6_20 + 1)) hx hb dX11_takesOut_91 hl (k := 4) rfl rfl (by decide) hf (fun x6_26 ls hl hf => ?_)
              have hl : lv_has ls 7 [(6, .int x6_26), (0, .ref (X.2.2 0)), (1, .int p1), (4, .int x4_9), (5, .int x5_13)] := hl
              refine lv_goto (tgt := 59) hx hb dX11_takesOut_94 (by decide) ?_
              exact ih_59 x6_26 M_25 _ _ _ hw (lv_sub hl [1, 2, 3, 4, 0] rfl) hf
        exact hL_59 fu 0 M_16 _ _ _ hw (lv_sub hl [2, 3, 4, 1, 0] rfl) hf
  exact hL_20 fu r_2 M_4 _ _ _ hw (lv_sub hl [2, 3, 0] rfl) hf
abbrev rm_X11_kept : Room := { frames := 2, cells := 0, slots := 0, locals := 42 }
set_option maxRecDepth 100000 in
set_option maxHeartbeats 4000000 in
theorem c_X11_kept (l : Launch) (X : XT) (fu : Nat) (p1 : Int32) (p2 : Int32) (p3 : Int32) (M : Mem)  (rs : (Int32 × Mem)) (hf : f_X11_kept fu p1 p2 p3 M = some rs) (sz : Nat) : Met l yX11_kept (wbig yX11_kept cX11_kept 5 (some .int)) rm_X11_kept (va_Pc [.ref (X.2.2 0), .int p1, .int p2, .int p3] (PW LM X M sz)) (QI LM X rs.2 rs.1 sz) 0 0 (AX LM X sz) := by
  refine met_go (L := LM) (M := M) (by decide +kernel) (Nat.le_of_ble_eq_true rfl) ?_
  intro p e s m args below meth c hsz B hr hlk hw ls hl
  subst hsz
  have hx := B.hx
  have hb := B.hb
  have hl : lv_has ls 5 [(0, .ref (X.2.2 0)), (1, .int p1), (2, .int p2), (3, .int p3)] := hl
  generalize hQ : MQ below _ args s 0 0 (AX LM X s.heap.size) = Q
  unfold f_X11_kept at hf
  refine lv_iload_n hx hb dX11_kept_0 rfl (lv_at hl 1 rfl) ?_
  refine q_callSi (M' := M) (As := [.int p1]) (rest := []) B hw (c_X11_storeOf l X p1 _ rfl M _) cs_X11_220 rfl hl.1 rfl rfl ⟨Nat.le_of_ble_eq_true rfl, Nat.le_of_ble_eq_true rfl⟩ (Nat.le_of_ble_eq_true rfl) ⟨Nat.le_of_ble_eq_true rfl, Nat.le_of_ble_eq_true rfl⟩ dX11_kept_1 rfl (fun H locs hw => ?_)
  refine lv_iconst (v := 1) hx hb dX11_kept_4 (by decide) ?_
  refine lv_icmp_ne (tgt := 20) hx hb dX11_kept_5 (by decide) (fun c_1 => ?_) (fun c_1 => ?_)
  · have hf := ie_e hf c_1
    refine lv_iload_n hx hb dX11_kept_20 rfl (lv_at hl 3 rfl) ?_
    cases hf
    subst hQ
    exact q_iret B hr hlk hw rfl rfl dX11_kept_21
  · have hf := it_e hf c_1
    refine lv_iload_n hx hb dX11_kept_8 rfl (lv_at hl 2 rfl) ?_
    refine lv_iconst (v := 1) hx hb dX11_kept_9 (by decide) ?_
    refine lv_icmp_ne (tgt := 20) hx hb dX11_kept_10 (by decide) (fun c_2 => ?_) (fun c_2 => ?_)
    · have hf := ie_e hf c_2
      refine lv_iload_n hx hb dX11_kept_20 rfl (lv_at hl 3 rfl) ?_
      cases hf
      subst hQ
      exact q_iret B hr hlk hw rfl rfl dX11_kept_21
    · have hf := it_e hf c_2
      refine lv_iload_n hx hb dX11_kept_13 rfl (lv_at hl 3 rfl) ?_
      refine q_callSi (M' := M) (As := [.int p3]) (rest := []) B hw (c_X11_isNumber l X p3 _ rfl M _) cs_X11_228 rfl hl.1 rfl rfl ⟨Nat.le_of_ble_eq_true rfl, Nat.le_of_ble_eq_true rfl⟩ (Nat.le_of_ble_eq_true rfl) ⟨Nat.le_of_ble_eq_true rfl, Nat.le_of_ble_eq_true rfl⟩ dX11_kept_14 rfl (fun H locs hw => ?_)
      refine lv_if_ne (tgt := 22) hx hb dX11_kept_17 (by decide) (fun c_3 => ?_) (fun c_3 => ?_)
      · have hf := ie_e hf c_3
        refine lv_iload_n hx hb dX11_kept_22 rfl (lv_at hl 3 rfl) ?_
        refine nmv_e hf (fun kk => ∀ (H : Heap) (locs : List Loc), HW LM X M s H locs → W p l e rm_X11_kept s m args below meth c H locs 0 0 Q (F0 m 42 ls [.int kk])) (fun J => ?_) (fun v_6 hf H locs hw => ?_)
        · refine lv_if_ge (tgt := 30) hx hb dX11_kept_23 (by decide) (fun c_4 => ?_) (fun c_4 => ?_)
          · rw [if_pos c_4] at J
            refine lv_iload_n hx hb dX11_kept_30 rfl (lv_at hl 3 rfl) ?_
            refine lv_bipush (v := 99) hx hb dX11_kept_31 (by decide) ?_
            refine lv_icmp_le (tgt := 41) hx hb dX11_kept_33 (by decide) (fun c_5 => ?_) (fun c_5 => ?_)
            · rw [if_pos c_5] at J
              refine lv_iload_n hx hb dX11_kept_41 rfl (lv_at hl 3 rfl) ?_
              exact J _ _ hw
            · rw [if_neg c_5] at J
              refine lv_bipush (v := 99) hx hb dX11_kept_36 (by decide) ?_
              refine lv_goto (tgt := 42) hx hb dX11_kept_38 (by decide) ?_
              exact J _ _ hw
          · rw [if_neg c_4] at J
            refine lv_iconst (v := 0) hx hb dX11_kept_26 (by decide) ?_
            refine lv_goto (tgt := 42) hx hb dX11_kept_27 (by decide) ?_
            exact J _ _ hw
        · refine lv_istore (lv' := [(4, .int v_6), (0, .ref (X.2.2 0)), (1, .int p1), (2, .int p2), (3, .int p3)]) hx hb dX11_kept_42 hl (by decide) rfl (fun ls hl => ?_)
          refine lv_aload_n hx hb dX11_kept_44 rfl (lv_at hl 1 rfl) ?_
          refine lv_dup hx hb dX11_kept_45 rfl ?_
          refine gt_X11_256 B hw dX11_kept_46 ?_
          refine lv_iload hx hb dX11_kept_49 (lv_at hl 0 rfl) ?_
          refine lv_iload_n hx hb dX11_kept_51 rfl (lv_at hl 4 rfl) ?_
          refine nmv_e hf (fun kk => ∀ (H : Heap) (locs : List Loc), HW LM X M s H locs → W p l e rm_X11_kept s m args below meth c H locs 0 0 Q (F0 m 60 ls [.int kk, .int (M 0 6), .ref (X.2.2 0)])) (fun J => ?_) (fun v_8 hf H locs hw => ?_)
          · refine lv_icmp_ne (tgt := 59) hx hb dX11_kept_52 (by decide) (fun c_7 => ?_) (fun c_7 => ?_)
            · rw [if_neg c_7] at J
              refine lv_iconst (v := 1) hx hb dX11_kept_59 (by decide) ?_
              exact J _ _ hw
            · rw [if_pos c_7] at J
              refine lv_iconst (v := 0) hx hb dX11_kept_55 (by decide) ?_
              refine lv_goto (tgt := 60) hx hb dX11_kept_56 (by decide) ?_
              exact J _ _ hw
          · refine lv_iadd hx hb dX11_kept_60 ?_
            refine pt_X11_256 B hw dX11_kept_61 hf (fun M_9 H locs hw hf => ?_)
            refine lv_iload hx hb dX11_kept_64 (lv_at hl 0 rfl) ?_
            cases hf
            subst hQ
            exact q_iret B hr hlk hw rfl rfl dX11_kept_66
      · have hf := it_e hf c_3
        refine lv_iload_n hx hb dX11_kept_20 rfl (lv_at hl 3 rfl) ?_
        cases hf
        subst hQ
        exact q_iret B hr hlk hw rfl rfl dX11_kept_21
abbrev rm_X11_canAdd : Room := { frames := 3, cells := 0, slots := 0, locals := 65 }
set_option maxRecDepth 100000 in
set_option maxHeartbeats 4000000 in
theorem c_X11_canAdd (l : Launch) (X : XT) (fu : Nat) (p1 : Int32) (p2 : Int32) (p3 : Int32) (p4 : Int32) (p5 : Int32) (M : Mem)  (rs : Int32) (hf : f_X11_canAdd fu p1 p2 p3 p4 p5 M = some rs) (sz : Nat) : Met l yX11_canAdd (wbig yX11_canAdd cX11_canAdd 6 (some .int)) rm_X11_canAdd (va_Pc [.ref (X.2.2 0), .int p1, .int p2, .int p3, .int p4, .int p5] (PW LM X M sz)) (QI LM X M rs sz) 0 0 (AX LM X sz) := by
  refine met_go (L := LM) (M := M) (by decide +kernel) (Nat.le_of_ble_eq_true rfl) ?_
  intro p e s m args below meth c hsz B hr hlk hw ls hl
  subst hsz
  have hx := B.hx
  have hb := B.hb
  have hl : lv_has ls 6 [(0, .ref (X.2.2 0)), (1, .int p1), (2, .int p2), (3, .int p3), (4, .int p4), (5, .int p5)] := hl
  generalize hQ : MQ below _ args s 0 0 (AX LM X s.heap.size) = Q
  unfold f_X11_canAdd at hf
  refine lv_iload_n hx hb dX11_canAdd_0 rfl (lv_at hl 1 rfl) ?_
  refine lv_iconst (v := 0) hx hb dX11_canAdd_1 (by decide) ?_
  refine lv_iload_n hx hb dX11_canAdd_2 rfl (lv_at hl 2 rfl) ?_
  refine q_callSi (M' := M) (As := [.int p1, .int 0, .int p2]) (rest := []) B hw (c_X11_isCell l X p1 0 p2 _ rfl M _) cs_X11_259 rfl hl.1 rfl rfl ⟨Nat.le_of_ble_eq_true rfl, Nat.le_of_ble_eq_true rfl⟩ (Nat.le_of_ble_eq_true rfl) ⟨Nat.le_of_ble_eq_true rfl, Nat.le_of_ble_eq_true rfl⟩ dX11_canAdd_3 rfl (fun H locs hw => ?_)
  refine lv_if_eq (tgt := 38) hx hb dX11_canAdd_6 (by decide) (fun c_1 => ?_) (fun c_1 => ?_)
  · have hf := it_e hf c_1
    refine lv_iconst (v := 2) hx hb dX11_canAdd_38 (by decide) ?_
    cases hf
    subst hQ
    exact q_iret B hr hlk hw rfl rfl dX11_canAdd_39
  · have hf := ie_e hf c_1
    refine lv_iload_n hx hb dX11_canAdd_9 rfl (lv_at hl 1 rfl) ?_
    refine lv_iconst (v := 1) hx hb dX11_canAdd_10 (by decide) ?_
    refine lv_iload_n hx hb dX11_canAdd_11 rfl (lv_at hl 3 rfl) ?_
    refine q_callSi (M' := M) (As := [.int p1, .int 1, .int p3]) (rest := []) B hw (c_X11_isCell l X p1 1 p3 _ rfl M _) cs_X11_259 rfl hl.1 rfl rfl ⟨Nat.le_of_ble_eq_true rfl, Nat.le_of_ble_eq_true rfl⟩ (Nat.le_of_ble_eq_true rfl) ⟨Nat.le_of_ble_eq_true rfl, Nat.le_of_ble_eq_true rfl⟩ dX11_canAdd_12 rfl (fun H locs hw => ?_)
    refine lv_if_eq (tgt := 38) hx hb dX11_canAdd_15 (by decide) (fun c_2 => ?_) (fun c_2 => ?_)
    · have hf := it_e hf c_2
      refine lv_iconst (v := 2) hx hb dX11_canAdd_38 (by decide) ?_
      cases hf
      subst hQ
      exact q_iret B hr hlk hw rfl rfl dX11_canAdd_39
    · have hf := ie_e hf c_2
      refine lv_iload_n hx hb dX11_canAdd_18 rfl (lv_at hl 1 rfl) ?_
      refine lv_iconst (v := 2) hx hb dX11_canAdd_19 (by decide) ?_
      refine lv_iload hx hb dX11_canAdd_20 (lv_at hl 4 rfl) ?_
      refine q_callSi (M' := M) (As := [.int p1, .int 2, .int p4]) (rest := []) B hw (c_X11_isCell l X p1 2 p4 _ rfl M _) cs_X11_259 rfl hl.1 rfl rfl ⟨Nat.le_of_ble_eq_true rfl, Nat.le_of_ble_eq_true rfl⟩ (Nat.le_of_ble_eq_true rfl) ⟨Nat.le_of_ble_eq_true rfl, Nat.le_of_ble_eq_true rfl⟩ dX11_canAdd_22 rfl (fun H locs hw => ?_)
      refine lv_if_eq (tgt := 38) hx hb dX11_canAdd_25 (by decide) (fun c_3 => ?_) (fun c_3 => ?_)
      · have hf := it_e hf c_3
        refine lv_iconst (v := 2) hx hb dX11_canAdd_38 (by decide) ?_
        cases hf
        subst hQ
        exact q_iret B hr hlk hw rfl rfl dX11_canAdd_39
      · have hf := ie_e hf c_3
        refine lv_iload_n hx hb dX11_canAdd_28 rfl (lv_at hl 1 rfl) ?_
        refine lv_iconst (v := 3) hx hb dX11_canAdd_29 (by decide) ?_
        refine lv_iload hx hb dX11_canAdd_30 (lv_at hl 5 rfl) ?_
        refine q_callSi (M' := M) (As := [.int p1, .int 3, .int p5]) (rest := []) B hw (c_X11_isCell l X p1 3 p5 _ rfl M _) cs_X11_259 rfl hl.1 rfl rfl ⟨Nat.le_of_ble_eq_true rfl, Nat.le_of_ble_eq_true rfl⟩ (Nat.le_of_ble_eq_true rfl) ⟨Nat.le_of_ble_eq_true rfl, Nat.le_of_ble_eq_true rfl⟩ dX11_canAdd_32 rfl (fun H locs hw => ?_)
        refine lv_if_ne (tgt := 40) hx hb dX11_canAdd_35 (by decide) (fun c_4 => ?_) (fun c_4 => ?_)
        · have hf := ie_e hf c_4
          refine lv_aload_n hx hb dX11_canAdd_40 rfl (lv_at hl 0 rfl) ?_
          refine gt_X11_7 B hw dX11_canAdd_41 ?_
          refine lv_iload_n hx hb dX11_canAdd_44 rfl (lv_at hl 1 rfl) ?_
          obtain ⟨g_5, hf⟩ := grd_e hf
          refine m_iald B hw (i := 1) rfl g_5 dX11_canAdd_45 ?_
          refine lv_bipush (v := 12) hx hb dX11_canAdd_46 (by decide) ?_
          refine lv_icmp_eq (tgt := 82) hx hb dX11_canAdd_48 (by decide) (fun c_6 => ?_) (fun c_6 => ?_)
          · have hf := it_e hf c_6
            refine lv_iconst (v := 3) hx hb dX11_canAdd_82 (by decide) ?_
            refine lv_goto (tgt := 87) hx hb dX11_canAdd_83 (by decide) ?_
            cases hf
            subst hQ
            exact q_iret B hr hlk hw rfl rfl dX11_canAdd_87
          · have hf := ie_e hf c_6
            refine lv_iload_n hx hb dX11_canAdd_51 rfl (lv_at hl 1 rfl) ?_
            refine lv_iconst (v := 1) hx hb dX11_canAdd_52 (by decide) ?_
            refine jn_e hf (fun kk => ∀ (_ : Unit) (H : Heap) (locs : List Loc) (ls : Array Slot), HW LM X M s H locs → lv_has ls 6 [(0, .ref (X.2.2 0)), (1, .int p1)] → kk () = some rs → W p l e rm_X11_canAdd s m args below meth c H locs 0 0 Q (F0 m 66 ls [])) ?_ (fun k66_7 J66_7 hf => ?_)
            · intro _ H locs ls hw hl hf
              refine lv_iload_n hx hb dX11_canAdd_66 rfl (lv_at hl 1 rfl) ?_
              refine lv_iconst (v := 2) hx hb dX11_canAdd_67 (by decide) ?_
              refine lv_icmp_ge (tgt := 86) hx hb dX11_canAdd_68 (by decide) (fun c_8 => ?_) (fun c_8 => ?_)
              · have hf := it_e hf c_8
                refine lv_iconst (v := 0) hx hb dX11_canAdd_86 (by decide) ?_
                cases hf
                subst hQ
                exact q_iret B hr hlk hw rfl rfl dX11_canAdd_87
              · have hf := ie_e hf c_8
                refine lv_aload_n hx hb dX11_canAdd_71 rfl (lv_at hl 0 rfl) ?_
                refine gt_X11_19 B hw dX11_canAdd_72 ?_
                refine lv_iload_n hx hb dX11_canAdd_75 rfl (lv_at hl 1 rfl) ?_
                refine m_iald B hw (i := 4) rfl g_5 dX11_canAdd_76 ?_
                refine lv_bipush (v := 60) hx hb dX11_canAdd_77 (by decide) ?_
                refine lv_icmp_ne (tgt := 86) hx hb dX11_canAdd_79 (by decide) (fun c_9 => ?_) (fun c_9 => ?_)
                · have hf := ie_e hf c_9
                  refine lv_iconst (v := 0) hx hb dX11_canAdd_86 (by decide) ?_
                  cases hf
                  subst hQ
                  exact q_iret B hr hlk hw rfl rfl dX11_canAdd_87
                · have hf := it_e hf c_9
                  refine lv_iconst (v := 3) hx hb dX11_canAdd_82 (by decide) ?_
                  refine lv_goto (tgt := 87) hx hb dX11_canAdd_83 (by decide) ?_
                  cases hf
                  subst hQ
                  exact q_iret B hr hlk hw rfl rfl dX11_canAdd_87
            refine lv_icmp_le (tgt := 66) hx hb dX11_canAdd_53 (by decide) (fun c_10 => ?_) (fun c_10 => ?_)
            · have hf := it_e hf c_10
              exact J66_7 () _ _ _ hw (lv_sub hl [0, 1] rfl) hf
            · have hf := ie_e hf c_10
              refine lv_aload_n hx hb dX11_canAdd_56 rfl (lv_at hl 0 rfl) ?_
              refine lv_iload_n hx hb dX11_canAdd_57 rfl (lv_at hl 1 rfl) ?_
              refine lv_iload_n hx hb dX11_canAdd_58 rfl (lv_at hl 2 rfl) ?_
              obtain ⟨r_12, h_11, hf⟩ := bd_e hf
              refine q_callVi (M' := M) (i := 0) (As := [.int p1, .int p2]) (rest := []) B hw (c_X11_placeOf l X fu p1 p2 M r_12 h_11 _) cv_X11_252 (rc_11 B hw) rfl hl.1 rfl rfl ⟨Nat.le_of_ble_eq_true rfl, Nat.le_of_ble_eq_true rfl⟩ (Nat.le_of_ble_eq_true rfl) ⟨Nat.le_of_ble_eq_true rfl, Nat.le_of_ble_eq_true rfl⟩ dX11_canAdd_59 rfl (fun H locs hw => ?_)
              refine lv_iconst (v := (-1)) hx hb dX11_canAdd_62 (by decide) ?_
              refine lv_icmp_ne (tgt := 82) hx hb dX11_canAdd_63 (by decide) (fun c_13 => ?_) (fun c_13 => ?_)
              · have hf := ie_e hf c_13
                refine lv_iconst (v := 3) hx hb dX11_canAdd_82 (by decide) ?_
                refine lv_goto (tgt := 87) hx hb dX11_canAdd_83 (by decide) ?_
                cases hf
                subst hQ
                exact q_iret B hr hlk hw rfl rfl dX11_canAdd_87
              · have hf := it_e hf c_13
                exact J66_7 () _ _ _ hw (lv_sub hl [0, 1] rfl) hf
        · have hf := it_e hf c_4
          refine lv_iconst (v := 2) hx hb dX11_canAdd_38 (by decide) ?_
          cases hf
          subst hQ
          exact q_iret B hr hlk hw rfl rfl dX11_canAdd_39
abbrev rm_X11_adds : Room := { frames := 4, cells := 0, slots := 0, locals := 98 }
set_option maxRecDepth 100000 in
set_option maxHeartbeats 4000000 in
theorem c_X11_adds (l : Launch) (X : XT) (fu : Nat) (p1 : Int32) (p2 : Int32) (p3 : Int32) (p4 : Int32) (p5 : Int32) (M : Mem)  (rs : (Int32 × Mem)) (hf : f_X11_adds fu p1 p2 p3 p4 p5 M = some rs) (sz : Nat) : Met l yX11_adds (wbig yX11_adds cX11_adds 7 (some .int)) rm_X11_adds (va_Pc [.ref (X.2.2 0), .int p1, .int p2, .int p3, .int p4, .int p5] (PW LM X M sz)) (QI LM X rs.2 rs.1 sz) 0 0 (AX LM X sz) := by
  refine met_go (L := LM) (M := M) (by decide +kernel) (Nat.le_of_ble_eq_true rfl) ?_
  intro p e s m args below meth c hsz B hr hlk hw ls hl
  subst hsz
  have hx := B.hx
  have hb := B.hb
  have hl : lv_has ls 7 [(0, .ref (X.2.2 0)), (1, .int p1), (2, .int p2), (3, .int p3), (4, .int p4), (5, .int p5)] := hl
  generalize hQ : MQ below _ args s 0 0 (AX LM X s.heap.size) = Q
  unfold f_X11_adds at hf
  refine lv_iload_n hx hb dX11_adds_0 rfl (lv_at hl 1 rfl) ?_
  refine lv_iconst (v := 1) hx hb dX11_adds_1 (by decide) ?_
  refine jn_e hf (fun kk => ∀ (v_2 : Int32) (H : Heap) (locs : List Loc) (ls : Array Slot), HW LM X M s H locs → lv_has ls 7 [(0, .ref (X.2.2 0)), (1, .int p1), (2, .int p2), (3, .int p3), (4, .int p4), (5, .int p5)] → kk v_2 = some rs → W p l e rm_X11_adds s m args below meth c H locs 0 0 Q (F0 m 15 ls [.int v_2])) ?_ (fun k15_1 J15_1 hf => ?_)
  · intro v_2 H locs ls hw hl hf
    refine lv_istore (lv' := [(6, .int v_2), (0, .ref (X.2.2 0)), (1, .int p1), (2, .int p2), (3, .int p3), (4, .int p4), (5, .int p5)]) hx hb dX11_adds_15 hl (by decide) rfl (fun ls hl => ?_)
    refine lv_aload_n hx hb dX11_adds_17 rfl (lv_at hl 1 rfl) ?_
    refine gt_X11_19 B hw dX11_adds_18 ?_
    refine lv_iload_n hx hb dX11_adds_21 rfl (lv_at hl 2 rfl) ?_
    refine lv_dup2_11 hx hb dX11_adds_22 rfl rfl ?_
    obtain ⟨g_3, hf⟩ := grd_e hf
    refine m_iald B hw (i := 4) rfl g_3 dX11_adds_23 ?_
    refine lv_iload_n hx hb dX11_adds_24 rfl (lv_at hl 2 rfl) ?_
    refine lv_iconst (v := 1) hx hb dX11_adds_25 (by decide) ?_
    refine nmv_e hf (fun kk => ∀ (H : Heap) (locs : List Loc), HW LM X M s H locs → W p l e rm_X11_adds s m args below meth c H locs 0 0 Q (F0 m 34 ls [.int kk, .int (M 4 p1.toNatClampNeg), .int p1, .ref (X.2.2 4)])) (fun J => ?_) (fun v_5 hf H locs hw => ?_)
    · refine lv_icmp_le (tgt := 33) hx hb dX11_adds_26 (by decide) (fun c_4 => ?_) (fun c_4 => ?_)
      · rw [if_pos c_4] at J
        refine lv_iconst (v := 1) hx hb dX11_adds_33 (by decide) ?_
        exact J _ _ hw
      · rw [if_neg c_4] at J
        refine lv_iconst (v := 0) hx hb dX11_adds_29 (by decide) ?_
        refine lv_goto (tgt := 34) hx hb dX11_adds_30 (by decide) ?_
        exact J _ _ hw
    · refine lv_iadd hx hb dX11_adds_34 ?_
      refine m_iast B hw (i := 4) rfl g_3 dX11_adds_35 hf (fun M_6 H locs hw hf => ?_)
      refine lv_aload_n hx hb dX11_adds_36 rfl (lv_at hl 1 rfl) ?_
      refine lv_iload_n hx hb dX11_adds_37 rfl (lv_at hl 2 rfl) ?_
      refine lv_iload hx hb dX11_adds_38 (lv_at hl 0 rfl) ?_
      refine lv_iload_n hx hb dX11_adds_40 rfl (lv_at hl 3 rfl) ?_
      refine lv_aload_n hx hb dX11_adds_41 rfl (lv_at hl 1 rfl) ?_
      refine lv_iload_n hx hb dX11_adds_42 rfl (lv_at hl 2 rfl) ?_
      refine lv_iconst (v := 1) hx hb dX11_adds_43 (by decide) ?_
      refine lv_iload_n hx hb dX11_adds_44 rfl (lv_at hl 4 rfl) ?_
      obtain ⟨r_8, M_9, h_7, hf⟩ := bm_e hf
      refine q_callVi (M' := M_9) (i := 0) (As := [.int p1, .int 1, .int p3]) (rest := [.int p2, .int v_2, .int p1, .ref (X.2.2 0)]) B hw (c_X11_kept l X fu p1 1 p3 M_6 (r_8, M_9) h_7 _) cv_X11_262 (rc_11 B hw) rfl hl.1 rfl rfl ⟨Nat.le_of_ble_eq_true rfl, Nat.le_of_ble_eq_true rfl⟩ (Nat.le_of_ble_eq_true rfl) ⟨Nat.le_of_ble_eq_true rfl, Nat.le_of_ble_eq_true rfl⟩ dX11_adds_45 rfl (fun H locs hw => ?_)
      refine lv_iload hx hb dX11_adds_48 (lv_at hl 5 rfl) ?_
      refine lv_iload hx hb dX11_adds_50 (lv_at hl 6 rfl) ?_
      obtain ⟨M_11, h_10, hf⟩ := bd_e hf
      refine q_callVv (M' := M_11) (i := 0) (As := [.int p1, .int v_2, .int p2, .int r_8, .int p4, .int p5]) (rest := []) B hw (c_X11_inserts l X fu p1 v_2 p2 r_8 p4 p5 M_9 M_11 h_10 _) cv_X11_266 (rc_11 B hw) rfl hl.1 rfl rfl ⟨Nat.le_of_ble_eq_true rfl, Nat.le_of_ble_eq_true rfl⟩ (Nat.le_of_ble_eq_true rfl) ⟨Nat.le_of_ble_eq_true rfl, Nat.le_of_ble_eq_true rfl⟩ dX11_adds_52 rfl (fun H locs hw => ?_)
      refine lv_iload hx hb dX11_adds_55 (lv_at hl 0 rfl) ?_
      cases hf
      subst hQ
      exact q_iret B hr hlk hw rfl rfl dX11_adds_57
  refine lv_icmp_le (tgt := 9) hx hb dX11_adds_2 (by decide) (fun c_12 => ?_) (fun c_12 => ?_)
  · have hf := it_e hf c_12
    refine lv_aload_n hx hb dX11_adds_9 rfl (lv_at hl 0 rfl) ?_
    refine gt_X11_19 B hw dX11_adds_10 ?_
    refine lv_iload_n hx hb dX11_adds_13 rfl (lv_at hl 1 rfl) ?_
    obtain ⟨g_13, hf⟩ := grd_e hf
    refine m_iald B hw (i := 4) rfl g_13 dX11_adds_14 ?_
    exact J15_1 (M 4 p1.toNatClampNeg) _ _ _ hw (lv_sub hl [0, 1, 2, 3, 4, 5] rfl) hf
  · have hf := ie_e hf c_12
    refine lv_iload_n hx hb dX11_adds_5 rfl (lv_at hl 2 rfl) ?_
    refine lv_goto (tgt := 15) hx hb dX11_adds_6 (by decide) ?_
    exact J15_1 p2 _ _ _ hw (lv_sub hl [0, 1, 2, 3, 4, 5] rfl) hf
abbrev rm_X11_add : Room := { frames := 5, cells := 0, slots := 0, locals := 124 }
set_option maxRecDepth 100000 in
set_option maxHeartbeats 4000000 in
theorem c_X11_add (l : Launch) (X : XT) (fu : Nat) (p1 : Int32) (p2 : Int32) (p3 : Int32) (p4 : Int32) (p5 : Int32) (M : Mem)  (rs : (Int32 × Mem)) (hf : f_X11_add fu p1 p2 p3 p4 p5 M = some rs) (sz : Nat) : Met l yX11_add (wbig yX11_add cX11_add 6 (some .int)) rm_X11_add (va_Pc [.ref (X.2.2 0), .int p1, .int p2, .int p3, .int p4, .int p5] (PW LM X M sz)) (QI LM X rs.2 rs.1 sz) 0 0 (AX LM X sz) := by
  refine met_go (L := LM) (M := M) (by decide +kernel) (Nat.le_of_ble_eq_true rfl) ?_
  intro p e s m args below meth c hsz B hr hlk hw ls hl
  subst hsz
  have hx := B.hx
  have hb := B.hb
  have hl : lv_has ls 6 [(0, .ref (X.2.2 0)), (1, .int p1), (2, .int p2), (3, .int p3), (4, .int p4), (5, .int p5)] := hl
  generalize hQ : MQ below _ args s 0 0 (AX LM X s.heap.size) = Q
  unfold f_X11_add at hf
  refine lv_aload_n hx hb dX11_add_0 rfl (lv_at hl 0 rfl) ?_
  refine lv_iload_n hx hb dX11_add_1 rfl (lv_at hl 1 rfl) ?_
  refine q_callSi (M' := M) (As := [.int p1]) (rest := [.ref (X.2.2 0)]) B hw (c_X11_isSource l X p1 _ rfl M _) cs_X11_270 rfl hl.1 rfl rfl ⟨Nat.le_of_ble_eq_true rfl, Nat.le_of_ble_eq_true rfl⟩ (Nat.le_of_ble_eq_true rfl) ⟨Nat.le_of_ble_eq_true rfl, Nat.le_of_ble_eq_true rfl⟩ dX11_add_2 rfl (fun H locs hw => ?_)
  refine jn_e hf (fun kk => ∀ (v_2 : Int32) (H : Heap) (locs : List Loc) (ls : Array Slot), HW LM X M s H locs → lv_has ls 6 [(0, .ref (X.2.2 0)), (1, .int p1), (2, .int p2), (3, .int p3), (4, .int p4), (5, .int p5)] → kk v_2 = some rs → W p l e rm_X11_add s m args below meth c H locs 0 0 Q (F0 m 23 ls [.int v_2, .ref (X.2.2 0)])) ?_ (fun k23_1 J23_1 hf => ?_)
  · intro v_2 H locs ls hw hl hf
    refine pt_X11_213 B hw dX11_add_23 hf (fun M_3 H locs hw hf => ?_)
    refine lv_aload_n hx hb dX11_add_26 rfl (lv_at hl 0 rfl) ?_
    refine gt_X11_213 B hw dX11_add_27 ?_
    refine lv_if_le (tgt := 37) hx hb dX11_add_30 (by decide) (fun c_4 => ?_) (fun c_4 => ?_)
    · have hf := it_e hf c_4
      refine lv_aload_n hx hb dX11_add_37 rfl (lv_at hl 0 rfl) ?_
      refine lv_iload_n hx hb dX11_add_38 rfl (lv_at hl 1 rfl) ?_
      refine lv_iload_n hx hb dX11_add_39 rfl (lv_at hl 2 rfl) ?_
      refine lv_iload_n hx hb dX11_add_40 rfl (lv_at hl 3 rfl) ?_
      refine lv_iload hx hb dX11_add_41 (lv_at hl 4 rfl) ?_
      refine lv_iload hx hb dX11_add_43 (lv_at hl 5 rfl) ?_
      obtain ⟨r_6, M_7, h_5, hf⟩ := bm_e hf
      refine q_callVi (M' := M_7) (i := 0) (As := [.int p1, .int p2, .int p3, .int p4, .int p5]) (rest := []) B hw (c_X11_adds l X fu p1 p2 p3 p4 p5 M_3 (r_6, M_7) h_5 _) cv_X11_277 (rc_11 B hw) rfl hl.1 rfl rfl ⟨Nat.le_of_ble_eq_true rfl, Nat.le_of_ble_eq_true rfl⟩ (Nat.le_of_ble_eq_true rfl) ⟨Nat.le_of_ble_eq_true rfl, Nat.le_of_ble_eq_true rfl⟩ dX11_add_45 rfl (fun H locs hw => ?_)
      cases hf
      subst hQ
      exact q_iret B hr hlk hw rfl rfl dX11_add_48
    · have hf := ie_e hf c_4
      refine lv_iconst (v := 0) hx hb dX11_add_33 (by decide) ?_
      refine lv_goto (tgt := 48) hx hb dX11_add_34 (by decide) ?_
      cases hf
      subst hQ
      exact q_iret B hr hlk hw rfl rfl dX11_add_48
  refine lv_if_ne (tgt := 12) hx hb dX11_add_5 (by decide) (fun c_8 => ?_) (fun c_8 => ?_)
  · have hf := ie_e hf c_8
    refine lv_aload_n hx hb dX11_add_12 rfl (lv_at hl 0 rfl) ?_
    refine lv_iload_n hx hb dX11_add_13 rfl (lv_at hl 1 rfl) ?_
    refine lv_iload_n hx hb dX11_add_14 rfl (lv_at hl 2 rfl) ?_
    refine lv_iload_n hx hb dX11_add_15 rfl (lv_at hl 3 rfl) ?_
    refine lv_iload hx hb dX11_add_16 (lv_at hl 4 rfl) ?_
    refine lv_iload hx hb dX11_add_18 (lv_at hl 5 rfl) ?_
    obtain ⟨r_10, h_9, hf⟩ := bd_e hf
    refine q_callVi (M' := M) (i := 0) (As := [.int p1, .int p2, .int p3, .int p4, .int p5]) (rest := [.ref (X.2.2 0)]) B hw (c_X11_canAdd l X fu p1 p2 p3 p4 p5 M r_10 h_9 _) cv_X11_273 (rc_11 B hw) rfl hl.1 rfl rfl ⟨Nat.le_of_ble_eq_true rfl, Nat.le_of_ble_eq_true rfl⟩ (Nat.le_of_ble_eq_true rfl) ⟨Nat.le_of_ble_eq_true rfl, Nat.le_of_ble_eq_true rfl⟩ dX11_add_20 rfl (fun H locs hw => ?_)
    exact J23_1 r_10 _ _ _ hw (lv_sub hl [0, 1, 2, 3, 4, 5] rfl) hf
  · have hf := it_e hf c_8
    refine lv_iconst (v := 1) hx hb dX11_add_8 (by decide) ?_
    refine lv_goto (tgt := 23) hx hb dX11_add_9 (by decide) ?_
    exact J23_1 1 _ _ _ hw (lv_sub hl [0, 1, 2, 3, 4, 5] rfl) hf
abbrev rm_X11_canChange : Room := { frames := 3, cells := 0, slots := 0, locals := 65 }
set_option maxRecDepth 100000 in
set_option maxHeartbeats 4000000 in
theorem c_X11_canChange (l : Launch) (X : XT) (fu : Nat) (p1 : Int32) (p2 : Int32) (p3 : Int32) (p4 : Int32) (M : Mem)  (rs : Int32) (hf : f_X11_canChange fu p1 p2 p3 p4 M = some rs) (sz : Nat) : Met l yX11_canChange (wbig yX11_canChange cX11_canChange 5 (some .int)) rm_X11_canChange (va_Pc [.ref (X.2.2 0), .int p1, .int p2, .int p3, .int p4] (PW LM X M sz)) (QI LM X M rs sz) 0 0 (AX LM X sz) := by
  refine met_go (L := LM) (M := M) (by decide +kernel) (Nat.le_of_ble_eq_true rfl) ?_
  intro p e s m args below meth c hsz B hr hlk hw ls hl
  subst hsz
  have hx := B.hx
  have hb := B.hb
  have hl : lv_has ls 5 [(0, .ref (X.2.2 0)), (1, .int p1), (2, .int p2), (3, .int p3), (4, .int p4)] := hl
  generalize hQ : MQ below _ args s 0 0 (AX LM X s.heap.size) = Q
  unfold f_X11_canChange at hf
  refine lv_aload_n hx hb dX11_canChange_0 rfl (lv_at hl 0 rfl) ?_
  refine lv_iload_n hx hb dX11_canChange_1 rfl (lv_at hl 1 rfl) ?_
  refine lv_iload_n hx hb dX11_canChange_2 rfl (lv_at hl 2 rfl) ?_
  obtain ⟨r_2, h_1, hf⟩ := bd_e hf
  refine q_callVi (M' := M) (i := 0) (As := [.int p1, .int p2]) (rest := []) B hw (c_X11_placeOf l X fu p1 p2 M r_2 h_1 _) cv_X11_252 (rc_11 B hw) rfl hl.1 rfl rfl ⟨Nat.le_of_ble_eq_true rfl, Nat.le_of_ble_eq_true rfl⟩ (Nat.le_of_ble_eq_true rfl) ⟨Nat.le_of_ble_eq_true rfl, Nat.le_of_ble_eq_true rfl⟩ dX11_canChange_3 rfl (fun H locs hw => ?_)
  refine lv_iconst (v := (-1)) hx hb dX11_canChange_6 (by decide) ?_
  refine lv_icmp_eq (tgt := 18) hx hb dX11_canChange_7 (by decide) (fun c_3 => ?_) (fun c_3 => ?_)
  · have hf := it_e hf c_3
    refine lv_iconst (v := 1) hx hb dX11_canChange_18 (by decide) ?_
    cases hf
    subst hQ
    exact q_iret B hr hlk hw rfl rfl dX11_canChange_19
  · have hf := ie_e hf c_3
    refine lv_iload_n hx hb dX11_canChange_10 rfl (lv_at hl 1 rfl) ?_
    refine lv_iload_n hx hb dX11_canChange_11 rfl (lv_at hl 3 rfl) ?_
    refine q_callSi (M' := M) (As := [.int p1, .int p3]) (rest := []) B hw (c_X11_isColumn l X p1 p3 _ rfl M _) cs_X11_224 rfl hl.1 rfl rfl ⟨Nat.le_of_ble_eq_true rfl, Nat.le_of_ble_eq_true rfl⟩ (Nat.le_of_ble_eq_true rfl) ⟨Nat.le_of_ble_eq_true rfl, Nat.le_of_ble_eq_true rfl⟩ dX11_canChange_12 rfl (fun H locs hw => ?_)
    refine lv_if_ne (tgt := 20) hx hb dX11_canChange_15 (by decide) (fun c_4 => ?_) (fun c_4 => ?_)
    · have hf := ie_e hf c_4
      refine lv_iload_n hx hb dX11_canChange_20 rfl (lv_at hl 1 rfl) ?_
      refine lv_iconst (v := 1) hx hb dX11_canChange_21 (by decide) ?_
      refine jn_e hf (fun kk => ∀ (_ : Unit) (H : Heap) (locs : List Loc) (ls : Array Slot), HW LM X M s H locs → lv_has ls 5 [(1, .int p1), (3, .int p3), (4, .int p4)] → kk () = some rs → W p l e rm_X11_canChange s m args below meth c H locs 0 0 Q (F0 m 29 ls [])) ?_ (fun k29_5 J29_5 hf => ?_)
      · intro _ H locs ls hw hl hf
        refine lv_iload_n hx hb dX11_canChange_29 rfl (lv_at hl 0 rfl) ?_
        refine lv_iload_n hx hb dX11_canChange_30 rfl (lv_at hl 1 rfl) ?_
        refine lv_iload hx hb dX11_canChange_31 (lv_at hl 2 rfl) ?_
        refine q_callSi (M' := M) (As := [.int p1, .int p3, .int p4]) (rest := []) B hw (c_X11_isCell l X p1 p3 p4 _ rfl M _) cs_X11_259 rfl hl.1 rfl rfl ⟨Nat.le_of_ble_eq_true rfl, Nat.le_of_ble_eq_true rfl⟩ (Nat.le_of_ble_eq_true rfl) ⟨Nat.le_of_ble_eq_true rfl, Nat.le_of_ble_eq_true rfl⟩ dX11_canChange_33 rfl (fun H locs hw => ?_)
        refine lv_if_ne (tgt := 43) hx hb dX11_canChange_36 (by decide) (fun c_6 => ?_) (fun c_6 => ?_)
        · have hf := ie_e hf c_6
          refine lv_iconst (v := 0) hx hb dX11_canChange_43 (by decide) ?_
          cases hf
          subst hQ
          exact q_iret B hr hlk hw rfl rfl dX11_canChange_44
        · have hf := it_e hf c_6
          refine lv_iconst (v := 2) hx hb dX11_canChange_39 (by decide) ?_
          refine lv_goto (tgt := 44) hx hb dX11_canChange_40 (by decide) ?_
          cases hf
          subst hQ
          exact q_iret B hr hlk hw rfl rfl dX11_canChange_44
      refine lv_icmp_le (tgt := 29) hx hb dX11_canChange_22 (by decide) (fun c_7 => ?_) (fun c_7 => ?_)
      · have hf := it_e hf c_7
        exact J29_5 () _ _ _ hw (lv_sub hl [1, 3, 4] rfl) hf
      · have hf := ie_e hf c_7
        refine lv_iload_n hx hb dX11_canChange_25 rfl (lv_at hl 3 rfl) ?_
        refine lv_if_eq (tgt := 39) hx hb dX11_canChange_26 (by decide) (fun c_8 => ?_) (fun c_8 => ?_)
        · have hf := it_e hf c_8
          refine lv_iconst (v := 2) hx hb dX11_canChange_39 (by decide) ?_
          refine lv_goto (tgt := 44) hx hb dX11_canChange_40 (by decide) ?_
          cases hf
          subst hQ
          exact q_iret B hr hlk hw rfl rfl dX11_canChange_44
        · have hf := ie_e hf c_8
          exact J29_5 () _ _ _ hw (lv_sub hl [1, 3, 4] rfl) hf
    · have hf := it_e hf c_4
      refine lv_iconst (v := 1) hx hb dX11_canChange_18 (by decide) ?_
      cases hf
      subst hQ
      exact q_iret B hr hlk hw rfl rfl dX11_canChange_19
abbrev rm_X11_puts : Room := { frames := 3, cells := 0, slots := 0, locals := 69 }
set_option maxRecDepth 100000 in
set_option maxHeartbeats 4000000 in
theorem c_X11_puts (l : Launch) (X : XT) (fu : Nat) (p1 : Int32) (p2 : Int32) (p3 : Int32) (p4 : Int32) (M : Mem)  (rs : (Int32 × Mem)) (hf : f_X11_puts fu p1 p2 p3 p4 M = some rs) (sz : Nat) : Met l yX11_puts (wbig yX11_puts cX11_puts 7 (some .int)) rm_X11_puts (va_Pc [.ref (X.2.2 0), .int p1, .int p2, .int p3, .int p4] (PW LM X M sz)) (QI LM X rs.2 rs.1 sz) 0 0 (AX LM X sz) := by
  refine met_go (L := LM) (M := M) (by decide +kernel) (Nat.le_of_ble_eq_true rfl) ?_
  intro p e s m args below meth c hsz B hr hlk hw ls hl
  subst hsz
  have hx := B.hx
  have hb := B.hb
  have hl : lv_has ls 7 [(0, .ref (X.2.2 0)), (1, .int p1), (2, .int p2), (3, .int p3), (4, .int p4)] := hl
  generalize hQ : MQ below _ args s 0 0 (AX LM X s.heap.size) = Q
  unfold f_X11_puts at hf
  refine lv_iconst (v := 4) hx hb dX11_puts_0 (by decide) ?_
  refine lv_bipush (v := 12) hx hb dX11_puts_1 (by decide) ?_
  refine lv_iload_n hx hb dX11_puts_3 rfl (lv_at hl 1 rfl) ?_
  refine lv_imul hx hb dX11_puts_4 ?_
  refine lv_aload_n hx hb dX11_puts_5 rfl (lv_at hl 0 rfl) ?_
  refine lv_iload_n hx hb dX11_puts_6 rfl (lv_at hl 1 rfl) ?_
  refine lv_iload_n hx hb dX11_puts_7 rfl (lv_at hl 2 rfl) ?_
  obtain ⟨r_2, h_1, hf⟩ := bd_e hf
  refine q_callVi (M' := M) (i := 0) (As := [.int p1, .int p2]) (rest := [.int (12 * p1), .int 4]) B hw (c_X11_placeOf l X fu p1 p2 M r_2 h_1 _) cv_X11_252 (rc_11 B hw) rfl hl.1 rfl rfl ⟨Nat.le_of_ble_eq_true rfl, Nat.le_of_ble_eq_true rfl⟩ (Nat.le_of_ble_eq_true rfl) ⟨Nat.le_of_ble_eq_true rfl, Nat.le_of_ble_eq_true rfl⟩ dX11_puts_8 rfl (fun H locs hw => ?_)
  refine lv_iadd hx hb dX11_puts_11 ?_
  refine lv_imul hx hb dX11_puts_12 ?_
  refine lv_iload_n hx hb dX11_puts_13 rfl (lv_at hl 3 rfl) ?_
  refine lv_iadd hx hb dX11_puts_14 ?_
  refine r_topn hf (fun x5_3 hf => ?_)
  refine lv_istore (lv' := [(5, .int x5_3), (0, .ref (X.2.2 0)), (1, .int p1), (2, .int p2), (3, .int p3), (4, .int p4)]) hx hb dX11_puts_15 hl (by decide) rfl (fun ls hl => ?_)
  refine lv_aload_n hx hb dX11_puts_17 rfl (lv_at hl 1 rfl) ?_
  refine gt_X11_16 B hw dX11_puts_18 ?_
  refine lv_iload hx hb dX11_puts_21 (lv_at hl 0 rfl) ?_
  obtain ⟨g_4, hf⟩ := grd_e hf
  refine m_iald B hw (i := 3) rfl g_4 dX11_puts_23 ?_
  refine r_topn hf (fun x6_5 hf => ?_)
  refine lv_istore (lv' := [(6, .int x6_5), (5, .int x5_3), (0, .ref (X.2.2 0)), (1, .int p1), (2, .int p2), (3, .int p3), (4, .int p4)]) hx hb dX11_puts_24 hl (by decide) rfl (fun ls hl => ?_)
  refine lv_aload_n hx hb dX11_puts_26 rfl (lv_at hl 2 rfl) ?_
  refine gt_X11_16 B hw dX11_puts_27 ?_
  refine lv_iload hx hb dX11_puts_30 (lv_at hl 1 rfl) ?_
  refine lv_iload hx hb dX11_puts_32 (lv_at hl 6 rfl) ?_
  refine m_iast B hw (i := 3) rfl g_4 dX11_puts_34 hf (fun M_6 H locs hw hf => ?_)
  refine lv_aload_n hx hb dX11_puts_35 rfl (lv_at hl 2 rfl) ?_
  refine lv_iload_n hx hb dX11_puts_36 rfl (lv_at hl 3 rfl) ?_
  obtain ⟨M_8, h_7, hf⟩ := bd_e hf
  refine q_callVv (M' := M_8) (i := 0) (As := [.int p1]) (rest := []) B hw (c_X11_writes l X fu p1 M_6 M_8 h_7 _) cv_X11_248 (rc_11 B hw) rfl hl.1 rfl rfl ⟨Nat.le_of_ble_eq_true rfl, Nat.le_of_ble_eq_true rfl⟩ (Nat.le_of_ble_eq_true rfl) ⟨Nat.le_of_ble_eq_true rfl, Nat.le_of_ble_eq_true rfl⟩ dX11_puts_37 rfl (fun H locs hw => ?_)
  refine lv_iload hx hb dX11_puts_40 (lv_at hl 0 rfl) ?_
  cases hf
  subst hQ
  exact q_iret B hr hlk hw rfl rfl dX11_puts_42
abbrev rm_X11_change : Room := { frames := 4, cells := 0, slots := 0, locals := 95 }
set_option maxRecDepth 100000 in
set_option maxHeartbeats 4000000 in
theorem c_X11_change (l : Launch) (X : XT) (fu : Nat) (p1 : Int32) (p2 : Int32) (p3 : Int32) (p4 : Int32) (M : Mem)  (rs : (Int32 × Mem)) (hf : f_X11_change fu p1 p2 p3 p4 M = some rs) (sz : Nat) : Met l yX11_change (wbig yX11_change cX11_change 5 (some .int)) rm_X11_change (va_Pc [.ref (X.2.2 0), .int p1, .int p2, .int p3, .int p4] (PW LM X M sz)) (QI LM X rs.2 rs.1 sz) 0 0 (AX LM X sz) := by
  refine met_go (L := LM) (M := M) (by decide +kernel) (Nat.le_of_ble_eq_true rfl) ?_
  intro p e s m args below meth c hsz B hr hlk hw ls hl
  subst hsz
  have hx := B.hx
  have hb := B.hb
  have hl : lv_has ls 5 [(0, .ref (X.2.2 0)), (1, .int p1), (2, .int p2), (3, .int p3), (4, .int p4)] := hl
  generalize hQ : MQ below _ args s 0 0 (AX LM X s.heap.size) = Q
  unfold f_X11_change at hf
  refine lv_aload_n hx hb dX11_change_0 rfl (lv_at hl 0 rfl) ?_
  refine lv_iload_n hx hb dX11_change_1 rfl (lv_at hl 1 rfl) ?_
  refine q_callSi (M' := M) (As := [.int p1]) (rest := [.ref (X.2.2 0)]) B hw (c_X11_isSource l X p1 _ rfl M _) cs_X11_270 rfl hl.1 rfl rfl ⟨Nat.le_of_ble_eq_true rfl, Nat.le_of_ble_eq_true rfl⟩ (Nat.le_of_ble_eq_true rfl) ⟨Nat.le_of_ble_eq_true rfl, Nat.le_of_ble_eq_true rfl⟩ dX11_change_2 rfl (fun H locs hw => ?_)
  refine jn_e hf (fun kk => ∀ (v_2 : Int32) (H : Heap) (locs : List Loc) (ls : Array Slot), HW LM X M s H locs → lv_has ls 5 [(0, .ref (X.2.2 0)), (1, .int p1), (2, .int p2), (3, .int p3), (4, .int p4)] → kk v_2 = some rs → W p l e rm_X11_change s m args below meth c H locs 0 0 Q (F0 m 21 ls [.int v_2, .ref (X.2.2 0)])) ?_ (fun k21_1 J21_1 hf => ?_)
  · intro v_2 H locs ls hw hl hf
    refine pt_X11_213 B hw dX11_change_21 hf (fun M_3 H locs hw hf => ?_)
    refine lv_aload_n hx hb dX11_change_24 rfl (lv_at hl 0 rfl) ?_
    refine gt_X11_213 B hw dX11_change_25 ?_
    refine lv_if_le (tgt := 35) hx hb dX11_change_28 (by decide) (fun c_4 => ?_) (fun c_4 => ?_)
    · have hf := it_e hf c_4
      refine lv_aload_n hx hb dX11_change_35 rfl (lv_at hl 0 rfl) ?_
      refine lv_iload_n hx hb dX11_change_36 rfl (lv_at hl 1 rfl) ?_
      refine lv_iload_n hx hb dX11_change_37 rfl (lv_at hl 2 rfl) ?_
      refine lv_iload_n hx hb dX11_change_38 rfl (lv_at hl 3 rfl) ?_
      refine lv_aload_n hx hb dX11_change_39 rfl (lv_at hl 0 rfl) ?_
      refine lv_iload_n hx hb dX11_change_40 rfl (lv_at hl 1 rfl) ?_
      refine lv_iload_n hx hb dX11_change_41 rfl (lv_at hl 3 rfl) ?_
      refine lv_iload hx hb dX11_change_42 (lv_at hl 4 rfl) ?_
      obtain ⟨r_6, M_7, h_5, hf⟩ := bm_e hf
      refine q_callVi (M' := M_7) (i := 0) (As := [.int p1, .int p3, .int p4]) (rest := [.int p3, .int p2, .int p1, .ref (X.2.2 0)]) B hw (c_X11_kept l X fu p1 p3 p4 M_3 (r_6, M_7) h_5 _) cv_X11_262 (rc_11 B hw) rfl hl.1 rfl rfl ⟨Nat.le_of_ble_eq_true rfl, Nat.le_of_ble_eq_true rfl⟩ (Nat.le_of_ble_eq_true rfl) ⟨Nat.le_of_ble_eq_true rfl, Nat.le_of_ble_eq_true rfl⟩ dX11_change_44 rfl (fun H locs hw => ?_)
      obtain ⟨r_9, M_10, h_8, hf⟩ := bm_e hf
      refine q_callVi (M' := M_10) (i := 0) (As := [.int p1, .int p2, .int p3, .int r_6]) (rest := []) B hw (c_X11_puts l X fu p1 p2 p3 r_6 M_7 (r_9, M_10) h_8 _) cv_X11_284 (rc_11 B hw) rfl hl.1 rfl rfl ⟨Nat.le_of_ble_eq_true rfl, Nat.le_of_ble_eq_true rfl⟩ (Nat.le_of_ble_eq_true rfl) ⟨Nat.le_of_ble_eq_true rfl, Nat.le_of_ble_eq_true rfl⟩ dX11_change_47 rfl (fun H locs hw => ?_)
      cases hf
      subst hQ
      exact q_iret B hr hlk hw rfl rfl dX11_change_50
    · have hf := ie_e hf c_4
      refine lv_iconst (v := 0) hx hb dX11_change_31 (by decide) ?_
      refine lv_goto (tgt := 50) hx hb dX11_change_32 (by decide) ?_
      cases hf
      subst hQ
      exact q_iret B hr hlk hw rfl rfl dX11_change_50
  refine lv_if_ne (tgt := 12) hx hb dX11_change_5 (by decide) (fun c_11 => ?_) (fun c_11 => ?_)
  · have hf := ie_e hf c_11
    refine lv_aload_n hx hb dX11_change_12 rfl (lv_at hl 0 rfl) ?_
    refine lv_iload_n hx hb dX11_change_13 rfl (lv_at hl 1 rfl) ?_
    refine lv_iload_n hx hb dX11_change_14 rfl (lv_at hl 2 rfl) ?_
    refine lv_iload_n hx hb dX11_change_15 rfl (lv_at hl 3 rfl) ?_
    refine lv_iload hx hb dX11_change_16 (lv_at hl 4 rfl) ?_
    obtain ⟨r_13, h_12, hf⟩ := bd_e hf
    refine q_callVi (M' := M) (i := 0) (As := [.int p1, .int p2, .int p3, .int p4]) (rest := [.ref (X.2.2 0)]) B hw (c_X11_canChange l X fu p1 p2 p3 p4 M r_13 h_12 _) cv_X11_280 (rc_11 B hw) rfl hl.1 rfl rfl ⟨Nat.le_of_ble_eq_true rfl, Nat.le_of_ble_eq_true rfl⟩ (Nat.le_of_ble_eq_true rfl) ⟨Nat.le_of_ble_eq_true rfl, Nat.le_of_ble_eq_true rfl⟩ dX11_change_18 rfl (fun H locs hw => ?_)
    exact J21_1 r_13 _ _ _ hw (lv_sub hl [0, 1, 2, 3, 4] rfl) hf
  · have hf := it_e hf c_11
    refine lv_iconst (v := 1) hx hb dX11_change_8 (by decide) ?_
    refine lv_goto (tgt := 21) hx hb dX11_change_9 (by decide) ?_
    exact J21_1 1 _ _ _ hw (lv_sub hl [0, 1, 2, 3, 4] rfl) hf
abbrev rm_X11_remove : Room := { frames := 4, cells := 0, slots := 0, locals := 95 }
set_option maxRecDepth 100000 in
set_option maxHeartbeats 4000000 in
theorem c_X11_remove (l : Launch) (X : XT) (fu : Nat) (p1 : Int32) (p2 : Int32) (M : Mem)  (rs : (Int32 × Mem)) (hf : f_X11_remove fu p1 p2 M = some rs) (sz : Nat) : Met l yX11_remove (wbig yX11_remove cX11_remove 3 (some .int)) rm_X11_remove (va_Pc [.ref (X.2.2 0), .int p1, .int p2] (PW LM X M sz)) (QI LM X rs.2 rs.1 sz) 0 0 (AX LM X sz) := by
  refine met_go (L := LM) (M := M) (by decide +kernel) (Nat.le_of_ble_eq_true rfl) ?_
  intro p e s m args below meth c hsz B hr hlk hw ls hl
  subst hsz
  have hx := B.hx
  have hb := B.hb
  have hl : lv_has ls 3 [(0, .ref (X.2.2 0)), (1, .int p1), (2, .int p2)] := hl
  generalize hQ : MQ below _ args s 0 0 (AX LM X s.heap.size) = Q
  unfold f_X11_remove at hf
  refine lv_aload_n hx hb dX11_remove_0 rfl (lv_at hl 0 rfl) ?_
  refine lv_iload_n hx hb dX11_remove_1 rfl (lv_at hl 1 rfl) ?_
  refine q_callSi (M' := M) (As := [.int p1]) (rest := [.ref (X.2.2 0)]) B hw (c_X11_isSource l X p1 _ rfl M _) cs_X11_270 rfl hl.1 rfl rfl ⟨Nat.le_of_ble_eq_true rfl, Nat.le_of_ble_eq_true rfl⟩ (Nat.le_of_ble_eq_true rfl) ⟨Nat.le_of_ble_eq_true rfl, Nat.le_of_ble_eq_true rfl⟩ dX11_remove_2 rfl (fun H locs hw => ?_)
  refine jn_e hf (fun kk => ∀ (v_2 : Int32) (H : Heap) (locs : List Loc) (ls : Array Slot), HW LM X M s H locs → lv_has ls 3 [(0, .ref (X.2.2 0)), (1, .int p1), (2, .int p2)] → kk v_2 = some rs → W p l e rm_X11_remove s m args below meth c H locs 0 0 Q (F0 m 23 ls [.int v_2, .ref (X.2.2 0)])) ?_ (fun k23_1 J23_1 hf => ?_)
  · intro v_2 H locs ls hw hl hf
    refine pt_X11_213 B hw dX11_remove_23 hf (fun M_3 H locs hw hf => ?_)
    refine lv_aload_n hx hb dX11_remove_26 rfl (lv_at hl 0 rfl) ?_
    refine gt_X11_213 B hw dX11_remove_27 ?_
    refine lv_if_le (tgt := 35) hx hb dX11_remove_30 (by decide) (fun c_4 => ?_) (fun c_4 => ?_)
    · have hf := it_e hf c_4
      refine lv_aload_n hx hb dX11_remove_35 rfl (lv_at hl 0 rfl) ?_
      refine lv_iload_n hx hb dX11_remove_36 rfl (lv_at hl 1 rfl) ?_
      refine lv_iload_n hx hb dX11_remove_37 rfl (lv_at hl 2 rfl) ?_
      obtain ⟨M_6, h_5, hf⟩ := bd_e hf
      refine q_callVv (M' := M_6) (i := 0) (As := [.int p1, .int p2]) (rest := []) B hw (c_X11_takesOut l X fu p1 p2 M_3 M_6 h_5 _) cv_X11_287 (rc_11 B hw) rfl hl.1 rfl rfl ⟨Nat.le_of_ble_eq_true rfl, Nat.le_of_ble_eq_true rfl⟩ (Nat.le_of_ble_eq_true rfl) ⟨Nat.le_of_ble_eq_true rfl, Nat.le_of_ble_eq_true rfl⟩ dX11_remove_38 rfl (fun H locs hw => ?_)
      refine lv_aload_n hx hb dX11_remove_41 rfl (lv_at hl 0 rfl) ?_
      refine gt_X11_7 B hw dX11_remove_42 ?_
      refine lv_iload_n hx hb dX11_remove_45 rfl (lv_at hl 1 rfl) ?_
      obtain ⟨g_7, hf⟩ := grd_e hf
      refine m_iald B hw (i := 1) rfl g_7 dX11_remove_46 ?_
      cases hf
      subst hQ
      exact q_iret B hr hlk hw rfl rfl dX11_remove_47
    · have hf := ie_e hf c_4
      refine lv_iconst (v := 0) hx hb dX11_remove_33 (by decide) ?_
      cases hf
      subst hQ
      exact q_iret B hr hlk hw rfl rfl dX11_remove_34
  refine jn_e hf (fun kk => ∀ (_ : Unit) (H : Heap) (locs : List Loc) (ls : Array Slot), HW LM X M s H locs → lv_has ls 3 [(0, .ref (X.2.2 0)), (1, .int p1), (2, .int p2)] → kk () = some rs → W p l e rm_X11_remove s m args below meth c H locs 0 0 Q (F0 m 18 ls [.ref (X.2.2 0)])) ?_ (fun k18_8 J18_8 hf => ?_)
  · intro _ H locs ls hw hl hf
    refine lv_iconst (v := 1) hx hb dX11_remove_18 (by decide) ?_
    refine lv_goto (tgt := 23) hx hb dX11_remove_19 (by decide) ?_
    exact J23_1 1 _ _ _ hw (lv_sub hl [0, 1, 2] rfl) hf
  refine lv_if_eq (tgt := 18) hx hb dX11_remove_5 (by decide) (fun c_9 => ?_) (fun c_9 => ?_)
  · have hf := it_e hf c_9
    exact J18_8 () _ _ _ hw (lv_sub hl [0, 1, 2] rfl) hf
  · have hf := ie_e hf c_9
    refine lv_aload_n hx hb dX11_remove_8 rfl (lv_at hl 0 rfl) ?_
    refine lv_iload_n hx hb dX11_remove_9 rfl (lv_at hl 1 rfl) ?_
    refine lv_iload_n hx hb dX11_remove_10 rfl (lv_at hl 2 rfl) ?_
    obtain ⟨r_11, h_10, hf⟩ := bd_e hf
    refine q_callVi (M' := M) (i := 0) (As := [.int p1, .int p2]) (rest := [.ref (X.2.2 0)]) B hw (c_X11_placeOf l X fu p1 p2 M r_11 h_10 _) cv_X11_252 (rc_11 B hw) rfl hl.1 rfl rfl ⟨Nat.le_of_ble_eq_true rfl, Nat.le_of_ble_eq_true rfl⟩ (Nat.le_of_ble_eq_true rfl) ⟨Nat.le_of_ble_eq_true rfl, Nat.le_of_ble_eq_true rfl⟩ dX11_remove_11 rfl (fun H locs hw => ?_)
    refine lv_iconst (v := (-1)) hx hb dX11_remove_14 (by decide) ?_
    refine lv_icmp_ne (tgt := 22) hx hb dX11_remove_15 (by decide) (fun c_12 => ?_) (fun c_12 => ?_)
    · have hf := ie_e hf c_12
      refine lv_iconst (v := 0) hx hb dX11_remove_22 (by decide) ?_
      exact J23_1 0 _ _ _ hw (lv_sub hl [0, 1, 2] rfl) hf
    · have hf := it_e hf c_12
      exact J18_8 () _ _ _ hw (lv_sub hl [0, 1, 2] rfl) hf
abbrev rm_X11_count : Room := { frames := 2, cells := 0, slots := 0, locals := 42 }
set_option maxRecDepth 100000 in
set_option maxHeartbeats 4000000 in
theorem c_X11_count (l : Launch) (X : XT) (fu : Nat) (p1 : Int32) (M : Mem)  (rs : (Int32 × Mem)) (hf : f_X11_count fu p1 M = some rs) (sz : Nat) : Met l yX11_count (wbig yX11_count cX11_count 2 (some .int)) rm_X11_count (va_Pc [.ref (X.2.2 0), .int p1] (PW LM X M sz)) (QI LM X rs.2 rs.1 sz) 0 0 (AX LM X sz) := by
  refine met_go (L := LM) (M := M) (by decide +kernel) (Nat.le_of_ble_eq_true rfl) ?_
  intro p e s m args below meth c hsz B hr hlk hw ls hl
  subst hsz
  have hx := B.hx
  have hb := B.hb
  have hl : lv_has ls 2 [(0, .ref (X.2.2 0)), (1, .int p1)] := hl
  generalize hQ : MQ below _ args s 0 0 (AX LM X s.heap.size) = Q
  unfold f_X11_count at hf
  refine lv_aload_n hx hb dX11_count_0 rfl (lv_at hl 0 rfl) ?_
  refine lv_iload_n hx hb dX11_count_1 rfl (lv_at hl 1 rfl) ?_
  refine q_callSi (M' := M) (As := [.int p1]) (rest := [.ref (X.2.2 0)]) B hw (c_X11_isSource l X p1 _ rfl M _) cs_X11_270 rfl hl.1 rfl rfl ⟨Nat.le_of_ble_eq_true rfl, Nat.le_of_ble_eq_true rfl⟩ (Nat.le_of_ble_eq_true rfl) ⟨Nat.le_of_ble_eq_true rfl, Nat.le_of_ble_eq_true rfl⟩ dX11_count_2 rfl (fun H locs hw => ?_)
  refine nmv_e hf (fun kk => ∀ (H : Heap) (locs : List Loc), HW LM X M s H locs → W p l e rm_X11_count s m args below meth c H locs 0 0 Q (F0 m 13 ls [.int kk, .ref (X.2.2 0)])) (fun J => ?_) (fun v_2 hf H locs hw => ?_)
  · refine lv_if_eq (tgt := 12) hx hb dX11_count_5 (by decide) (fun c_1 => ?_) (fun c_1 => ?_)
    · rw [if_pos c_1] at J
      refine lv_iconst (v := 1) hx hb dX11_count_12 (by decide) ?_
      exact J _ _ hw
    · rw [if_neg c_1] at J
      refine lv_iconst (v := 0) hx hb dX11_count_8 (by decide) ?_
      refine lv_goto (tgt := 13) hx hb dX11_count_9 (by decide) ?_
      exact J _ _ hw
  · refine pt_X11_213 B hw dX11_count_13 hf (fun M_3 H locs hw hf => ?_)
    refine lv_aload_n hx hb dX11_count_16 rfl (lv_at hl 0 rfl) ?_
    refine gt_X11_213 B hw dX11_count_17 ?_
    refine lv_if_le (tgt := 27) hx hb dX11_count_20 (by decide) (fun c_4 => ?_) (fun c_4 => ?_)
    · have hf := it_e hf c_4
      refine lv_aload_n hx hb dX11_count_27 rfl (lv_at hl 0 rfl) ?_
      refine gt_X11_7 B hw dX11_count_28 ?_
      refine lv_iload_n hx hb dX11_count_31 rfl (lv_at hl 1 rfl) ?_
      obtain ⟨g_5, hf⟩ := grd_e hf
      refine m_iald B hw (i := 1) rfl g_5 dX11_count_32 ?_
      cases hf
      subst hQ
      exact q_iret B hr hlk hw rfl rfl dX11_count_33
    · have hf := ie_e hf c_4
      refine lv_iconst (v := 0) hx hb dX11_count_23 (by decide) ?_
      refine lv_goto (tgt := 33) hx hb dX11_count_24 (by decide) ?_
      cases hf
      subst hQ
      exact q_iret B hr hlk hw rfl rfl dX11_count_33
