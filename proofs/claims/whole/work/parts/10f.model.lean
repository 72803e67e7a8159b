abbrev rm_X11_doesStep : Room := { frames := 5, cells := 0, slots := 0, locals := 124 }
set_option maxRecDepth 100000 in
set_option maxHeartbeats 4000000 in
theorem c_X11_doesStep (l : Launch) (X : XT) (fu : Nat) (p1 : Int32) (M : Mem)  (rs : Mem) (hf : f_X11_doesStep fu p1 M = some rs) (sz : Nat) : Met l yX11_doesStep (wbig yX11_doesStep cX11_doesStep 4 none) rm_X11_doesStep (va_Pc [.ref (X.2.2 0), .int p1] (PW LM X M sz)) (QV LM X rs sz) 0 0 (AX LM X sz) := by
  refine met_go (L := LM) (M := M) (by decide +kernel) (Nat.le_of_ble_eq_true rfl) ?_
  intro p e s m args below meth c hsz B hr hlk hw ls hl
  subst hsz
  have hx := B.hx
  have hb := B.hb
  have hl : lv_has ls 4 [(0, .ref (X.2.2 0)), (1, .int p1)] := hl
  generalize hQ : MQ below _ args s 0 0 (AX LM X s.heap.size) = Q
  unfold f_X11_doesStep at hf
  refine lv_aload_n hx hb dX11_doesStep_0 rfl (lv_at hl 0 rfl) ?_
  refine gt_X11_192 B hw dX11_doesStep_1 ?_
  refine lv_iload_n hx hb dX11_doesStep_4 rfl (lv_at hl 1 rfl) ?_
  obtain ⟨g_1, hf⟩ := grd_e hf
  refine m_iald B hw (i := 59) rfl g_1 dX11_doesStep_5 ?_
  refine r_topn hf (fun x2_2 hf => ?_)
  refine lv_istore_n (lv' := [(2, .int x2_2), (0, .ref (X.2.2 0)), (1, .int p1)]) hx hb dX11_doesStep_6 rfl hl (by decide) rfl (fun ls hl => ?_)
  refine lv_aload_n hx hb dX11_doesStep_7 rfl (lv_at hl 1 rfl) ?_
  refine gt_X11_207 B hw dX11_doesStep_8 ?_
  refine lv_iload_n hx hb dX11_doesStep_11 rfl (lv_at hl 2 rfl) ?_
  refine lv_aload_n hx hb dX11_doesStep_12 rfl (lv_at hl 1 rfl) ?_
  refine gt_X11_195 B hw dX11_doesStep_13 ?_
  refine lv_iload_n hx hb dX11_doesStep_16 rfl (lv_at hl 2 rfl) ?_
  refine m_iald B hw (i := 60) rfl g_1 dX11_doesStep_17 ?_
  refine m_iast B hw (i := 64) rfl g_1 dX11_doesStep_18 hf (fun M_3 H locs hw hf => ?_)
  refine lv_aload_n hx hb dX11_doesStep_19 rfl (lv_at hl 1 rfl) ?_
  refine gt_X11_189 B hw dX11_doesStep_20 ?_
  refine lv_iload_n hx hb dX11_doesStep_23 rfl (lv_at hl 2 rfl) ?_
  refine m_iald B hw (i := 58) rfl g_1 dX11_doesStep_24 ?_
  refine lv_if_ne (tgt := 66) hx hb dX11_doesStep_25 (by decide) (fun c_4 => ?_) (fun c_4 => ?_)
  · have hf := ie_e hf c_4
    refine lv_aload_n hx hb dX11_doesStep_66 rfl (lv_at hl 1 rfl) ?_
    refine gt_X11_189 B hw dX11_doesStep_67 ?_
    refine lv_iload_n hx hb dX11_doesStep_70 rfl (lv_at hl 2 rfl) ?_
    refine m_iald B hw (i := 58) rfl g_1 dX11_doesStep_71 ?_
    refine lv_iconst (v := 1) hx hb dX11_doesStep_72 (by decide) ?_
    refine lv_icmp_ne (tgt := 121) hx hb dX11_doesStep_73 (by decide) (fun c_5 => ?_) (fun c_5 => ?_)
    · have hf := ie_e hf c_5
      refine lv_iconst (v := 0) hx hb dX11_doesStep_121 (by decide) ?_
      refine lv_istore_n (lv' := [(3, .int 0), (2, .int x2_2), (0, .ref (X.2.2 0)), (1, .int p1)]) hx hb dX11_doesStep_122 rfl hl (by decide) rfl (fun ls hl => ?_)
      refine jn_e hf (fun kk => ∀ (M_7 : Mem) (H : Heap) (locs : List Loc) (ls : Array Slot), HW LM X M_7 s H locs → lv_has ls 4 [(0, .ref (X.2.2 0)), (1, .int p1), (2, .int x2_2)] → kk M_7 = some rs → W p l e rm_X11_doesStep s m args below meth c H locs 0 0 Q (F0 m 169 ls [])) ?_ (fun k169_6 J169_6 hf => ?_)
      · intro M_7 H locs ls hw hl hf
        refine lv_aload_n hx hb dX11_doesStep_169 rfl (lv_at hl 0 rfl) ?_
        refine lv_iload_n hx hb dX11_doesStep_170 rfl (lv_at hl 2 rfl) ?_
        refine lv_aload_n hx hb dX11_doesStep_171 rfl (lv_at hl 0 rfl) ?_
        refine gt_X11_195 B hw dX11_doesStep_172 ?_
        refine lv_iload_n hx hb dX11_doesStep_175 rfl (lv_at hl 1 rfl) ?_
        refine m_iald B hw (i := 60) rfl g_1 dX11_doesStep_176 ?_
        obtain ⟨M_9, h_8, hf⟩ := bd_e hf
        refine q_callVv (M' := M_9) (i := 0) (As := [.int x2_2, .int (M_7 60 p1.toNatClampNeg)]) (rest := []) B hw (c_X11_takesOut l X fu x2_2 (M_7 60 p1.toNatClampNeg) M_7 M_9 h_8 _) cv_X11_287 (rc_11 B hw) rfl hl.1 rfl rfl ⟨Nat.le_of_ble_eq_true rfl, Nat.le_of_ble_eq_true rfl⟩ (Nat.le_of_ble_eq_true rfl) ⟨Nat.le_of_ble_eq_true rfl, Nat.le_of_ble_eq_true rfl⟩ dX11_doesStep_177 rfl (fun H locs hw => ?_)
        cases hf
        subst hQ
        exact q_vret B hr hlk hw rfl dX11_doesStep_180
      have hL_123 : ∀ (n_123 : Nat) (x3_10 : Int32) (M_11 : Mem) (H : Heap) (locs : List Loc) (ls : Array Slot), HW LM X M_11 s H locs → lv_has ls 4 [(0, .ref (X.2.2 0)), (1, .int p1), (2, .int x2_2), (3, .int x3_10)] → f_X11_doesStep_L123 fu p1 x2_2 k169_6 n_123 x3_10 M_11 = some rs → W p l e rm_X11_doesStep s m args below meth c H locs 0 0 Q (F0 m 123 ls []) := by
        intro n_123
        induction n_123 with
        | zero => intro x3_10 M_11 H locs ls hw hl hf; exact no_none hf
        | succ n_123 ih_123 =>
          intro x3_10 M_11 H locs ls hw hl hf
          rw [f_X11_doesStep_L123] at hf
          refine lv_iload_n hx hb dX11_doesStep_123 rfl (lv_at hl 3 rfl) ?_
          refine lv_iconst (v := 4) hx hb dX11_doesStep_124 (by decide) ?_
          refine lv_icmp_ge (tgt := 169) hx hb dX11_doesStep_125 (by decide) (fun c_12 => ?_) (fun c_12 => ?_)
          · have hf := it_e hf c_12
            exact J169_6 M_11 _ _ _ hw (lv_sub hl [0, 1, 2] rfl) hf
          · have hf := ie_e hf c_12
            refine lv_aload_n hx hb dX11_doesStep_128 rfl (lv_at hl 0 rfl) ?_
            refine gt_X11_210 B hw dX11_doesStep_129 ?_
            refine lv_iconst (v := 4) hx hb dX11_doesStep_132 (by decide) ?_
            refine lv_iload_n hx hb dX11_doesStep_133 rfl (lv_at hl 1 rfl) ?_
            refine lv_imul hx hb dX11_doesStep_134 ?_
            refine lv_iload_n hx hb dX11_doesStep_135 rfl (lv_at hl 3 rfl) ?_
            refine lv_iadd hx hb dX11_doesStep_136 ?_
            refine lv_aload_n hx hb dX11_doesStep_137 rfl (lv_at hl 0 rfl) ?_
            refine gt_X11_16 B hw dX11_doesStep_138 ?_
            refine lv_iconst (v := 4) hx hb dX11_doesStep_141 (by decide) ?_
            refine lv_bipush (v := 12) hx hb dX11_doesStep_142 (by decide) ?_
            refine lv_iload_n hx hb dX11_doesStep_144 rfl (lv_at hl 2 rfl) ?_
            refine lv_imul hx hb dX11_doesStep_145 ?_
            refine lv_aload_n hx hb dX11_doesStep_146 rfl (lv_at hl 0 rfl) ?_
            refine lv_iload_n hx hb dX11_doesStep_147 rfl (lv_at hl 2 rfl) ?_
            refine lv_aload_n hx hb dX11_doesStep_148 rfl (lv_at hl 0 rfl) ?_
            refine gt_X11_195 B hw dX11_doesStep_149 ?_
            refine lv_iload_n hx hb dX11_doesStep_152 rfl (lv_at hl 1 rfl) ?_
            obtain ⟨g_13, hf⟩ := grd_e hf
            refine m_iald B hw (i := 60) rfl g_13 dX11_doesStep_153 ?_
            obtain ⟨r_15, h_14, hf⟩ := bd_e hf
            refine q_callVi (M' := M_11) (i := 0) (As := [.int x2_2, .int (M_11 60 p1.toNatClampNeg)]) (rest := [.int (12 * x2_2), .int 4, .ref (X.2.2 3), .int ((4 * p1) + x3_10), .ref (X.2.2 65)]) B hw (c_X11_placeOf l X fu x2_2 (M_11 60 p1.toNatClampNeg) M_11 r_15 h_14 _) cv_X11_252 (rc_11 B hw) rfl hl.1 rfl rfl ⟨Nat.le_of_ble_eq_true rfl, Nat.le_of_ble_eq_true rfl⟩ (Nat.le_of_ble_eq_true rfl) ⟨Nat.le_of_ble_eq_true rfl, Nat.le_of_ble_eq_true rfl⟩ dX11_doesStep_154 rfl (fun H locs hw => ?_)
            refine lv_iadd hx hb dX11_doesStep_157 ?_
            refine lv_imul hx hb dX11_doesStep_158 ?_
            refine lv_iload_n hx hb dX11_doesStep_159 rfl (lv_at hl 3 rfl) ?_
            refine lv_iadd hx hb dX11_doesStep_160 ?_
            obtain ⟨g_16, hf⟩ := grd_e hf
            refine m_iald B hw (i := 3) rfl g_16 dX11_doesStep_161 ?_
            obtain ⟨g_17, hf⟩ := grd_e hf
            refine m_iast B hw (i := 65) rfl g_17 dX11_doesStep_162 hf (fun M_18 H locs hw hf => ?_)
            refine r_iinc (v := (x3_10 + 1)) hx hb dX11_doesStep_163 hl (k := 3) rfl rfl (by decide) hf (fun x3_19 ls hl hf => ?_)
            have hl : lv_has ls 4 [(3, .int x3_19), (0, .ref (X.2.2 0)), (1, .int p1), (2, .int x2_2)] := hl
            refine lv_goto (tgt := 123) hx hb dX11_doesStep_166 (by decide) ?_
            exact ih_123 x3_19 M_18 _ _ _ hw (lv_sub hl [1, 2, 3, 0] rfl) hf
      exact hL_123 fu 0 M_3 _ _ _ hw (lv_sub hl [2, 3, 1, 0] rfl) hf
    · have hf := it_e hf c_5
      refine lv_aload_n hx hb dX11_doesStep_76 rfl (lv_at hl 1 rfl) ?_
      refine gt_X11_210 B hw dX11_doesStep_77 ?_
      refine lv_iconst (v := 4) hx hb dX11_doesStep_80 (by decide) ?_
      refine lv_iload_n hx hb dX11_doesStep_81 rfl (lv_at hl 2 rfl) ?_
      refine lv_imul hx hb dX11_doesStep_82 ?_
      refine lv_aload_n hx hb dX11_doesStep_83 rfl (lv_at hl 1 rfl) ?_
      refine lv_iload_n hx hb dX11_doesStep_84 rfl (lv_at hl 0 rfl) ?_
      refine lv_aload_n hx hb dX11_doesStep_85 rfl (lv_at hl 1 rfl) ?_
      refine gt_X11_195 B hw dX11_doesStep_86 ?_
      refine lv_iload_n hx hb dX11_doesStep_89 rfl (lv_at hl 2 rfl) ?_
      refine m_iald B hw (i := 60) rfl g_1 dX11_doesStep_90 ?_
      refine lv_aload_n hx hb dX11_doesStep_91 rfl (lv_at hl 1 rfl) ?_
      refine gt_X11_198 B hw dX11_doesStep_92 ?_
      refine lv_iload_n hx hb dX11_doesStep_95 rfl (lv_at hl 2 rfl) ?_
      refine m_iald B hw (i := 61) rfl g_1 dX11_doesStep_96 ?_
      refine lv_aload_n hx hb dX11_doesStep_97 rfl (lv_at hl 1 rfl) ?_
      refine lv_iload_n hx hb dX11_doesStep_98 rfl (lv_at hl 0 rfl) ?_
      refine lv_aload_n hx hb dX11_doesStep_99 rfl (lv_at hl 1 rfl) ?_
      refine gt_X11_198 B hw dX11_doesStep_100 ?_
      refine lv_iload_n hx hb dX11_doesStep_103 rfl (lv_at hl 2 rfl) ?_
      refine m_iald B hw (i := 61) rfl g_1 dX11_doesStep_104 ?_
      refine lv_aload_n hx hb dX11_doesStep_105 rfl (lv_at hl 1 rfl) ?_
      refine gt_X11_201 B hw dX11_doesStep_106 ?_
      refine lv_iload_n hx hb dX11_doesStep_109 rfl (lv_at hl 2 rfl) ?_
      refine m_iald B hw (i := 62) rfl g_1 dX11_doesStep_110 ?_
      obtain ⟨r_21, M_22, h_20, hf⟩ := bm_e hf
      refine q_callVi (M' := M_22) (i := 0) (As := [.int x2_2, .int (M_3 61 p1.toNatClampNeg), .int (M_3 62 p1.toNatClampNeg)]) (rest := [.int (M_3 61 p1.toNatClampNeg), .int (M_3 60 p1.toNatClampNeg), .int x2_2, .ref (X.2.2 0), .int (4 * p1), .ref (X.2.2 65)]) B hw (c_X11_kept l X fu x2_2 (M_3 61 p1.toNatClampNeg) (M_3 62 p1.toNatClampNeg) M_3 (r_21, M_22) h_20 _) cv_X11_262 (rc_11 B hw) rfl hl.1 rfl rfl ⟨Nat.le_of_ble_eq_true rfl, Nat.le_of_ble_eq_true rfl⟩ (Nat.le_of_ble_eq_true rfl) ⟨Nat.le_of_ble_eq_true rfl, Nat.le_of_ble_eq_true rfl⟩ dX11_doesStep_111 rfl (fun H locs hw => ?_)
      obtain ⟨r_24, M_25, h_23, hf⟩ := bm_e hf
      refine q_callVi (M' := M_25) (i := 0) (As := [.int x2_2, .int (M_3 60 p1.toNatClampNeg), .int (M_3 61 p1.toNatClampNeg), .int r_21]) (rest := [.int (4 * p1), .ref (X.2.2 65)]) B hw (c_X11_puts l X fu x2_2 (M_3 60 p1.toNatClampNeg) (M_3 61 p1.toNatClampNeg) r_21 M_22 (r_24, M_25) h_23 _) cv_X11_284 (rc_11 B hw) rfl hl.1 rfl rfl ⟨Nat.le_of_ble_eq_true rfl, Nat.le_of_ble_eq_true rfl⟩ (Nat.le_of_ble_eq_true rfl) ⟨Nat.le_of_ble_eq_true rfl, Nat.le_of_ble_eq_true rfl⟩ dX11_doesStep_114 rfl (fun H locs hw => ?_)
      obtain ⟨g_26, hf⟩ := grd_e hf
      refine m_iast B hw (i := 65) rfl g_26 dX11_doesStep_117 hf (fun M_27 H locs hw hf => ?_)
      refine lv_goto (tgt := 180) hx hb dX11_doesStep_118 (by decide) ?_
      cases hf
      subst hQ
      exact q_vret B hr hlk hw rfl dX11_doesStep_180
  · have hf := it_e hf c_4
    refine lv_aload_n hx hb dX11_doesStep_28 rfl (lv_at hl 1 rfl) ?_
    refine gt_X11_207 B hw dX11_doesStep_29 ?_
    refine lv_iload_n hx hb dX11_doesStep_32 rfl (lv_at hl 2 rfl) ?_
    refine lv_aload_n hx hb dX11_doesStep_33 rfl (lv_at hl 1 rfl) ?_
    refine lv_iload_n hx hb dX11_doesStep_34 rfl (lv_at hl 0 rfl) ?_
    refine lv_aload_n hx hb dX11_doesStep_35 rfl (lv_at hl 1 rfl) ?_
    refine gt_X11_195 B hw dX11_doesStep_36 ?_
    refine lv_iload_n hx hb dX11_doesStep_39 rfl (lv_at hl 2 rfl) ?_
    refine m_iald B hw (i := 60) rfl g_1 dX11_doesStep_40 ?_
    refine lv_aload_n hx hb dX11_doesStep_41 rfl (lv_at hl 1 rfl) ?_
    refine gt_X11_198 B hw dX11_doesStep_42 ?_
    refine lv_iload_n hx hb dX11_doesStep_45 rfl (lv_at hl 2 rfl) ?_
    refine m_iald B hw (i := 61) rfl g_1 dX11_doesStep_46 ?_
    refine lv_aload_n hx hb dX11_doesStep_47 rfl (lv_at hl 1 rfl) ?_
    refine gt_X11_201 B hw dX11_doesStep_48 ?_
    refine lv_iload_n hx hb dX11_doesStep_51 rfl (lv_at hl 2 rfl) ?_
    refine m_iald B hw (i := 62) rfl g_1 dX11_doesStep_52 ?_
    refine lv_aload_n hx hb dX11_doesStep_53 rfl (lv_at hl 1 rfl) ?_
    refine gt_X11_204 B hw dX11_doesStep_54 ?_
    refine lv_iload_n hx hb dX11_doesStep_57 rfl (lv_at hl 2 rfl) ?_
    refine m_iald B hw (i := 63) rfl g_1 dX11_doesStep_58 ?_
    obtain ⟨r_29, M_30, h_28, hf⟩ := bm_e hf
    refine q_callVi (M' := M_30) (i := 0) (As := [.int x2_2, .int (M_3 60 p1.toNatClampNeg), .int (M_3 61 p1.toNatClampNeg), .int (M_3 62 p1.toNatClampNeg), .int (M_3 63 p1.toNatClampNeg)]) (rest := [.int p1, .ref (X.2.2 64)]) B hw (c_X11_adds l X fu x2_2 (M_3 60 p1.toNatClampNeg) (M_3 61 p1.toNatClampNeg) (M_3 62 p1.toNatClampNeg) (M_3 63 p1.toNatClampNeg) M_3 (r_29, M_30) h_28 _) cv_X11_277 (rc_11 B hw) rfl hl.1 rfl rfl ⟨Nat.le_of_ble_eq_true rfl, Nat.le_of_ble_eq_true rfl⟩ (Nat.le_of_ble_eq_true rfl) ⟨Nat.le_of_ble_eq_true rfl, Nat.le_of_ble_eq_true rfl⟩ dX11_doesStep_59 rfl (fun H locs hw => ?_)
    refine m_iast B hw (i := 64) rfl g_1 dX11_doesStep_62 hf (fun M_31 H locs hw hf => ?_)
    refine lv_goto (tgt := 180) hx hb dX11_doesStep_63 (by decide) ?_
    cases hf
    subst hQ
    exact q_vret B hr hlk hw rfl dX11_doesStep_180
abbrev rm_X11_takesBack : Room := { frames := 4, cells := 0, slots := 0, locals := 98 }
set_option maxRecDepth 100000 in
set_option maxHeartbeats 4000000 in
theorem c_X11_takesBack (l : Launch) (X : XT) (fu : Nat) (p1 : Int32) (M : Mem)  (rs : Mem) (hf : f_X11_takesBack fu p1 M = some rs) (sz : Nat) : Met l yX11_takesBack (wbig yX11_takesBack cX11_takesBack 3 none) rm_X11_takesBack (va_Pc [.ref (X.2.2 0), .int p1] (PW LM X M sz)) (QV LM X rs sz) 0 0 (AX LM X sz) := by
  refine met_go (L := LM) (M := M) (by decide +kernel) (Nat.le_of_ble_eq_true rfl) ?_
  intro p e s m args below meth c hsz B hr hlk hw ls hl
  subst hsz
  have hx := B.hx
  have hb := B.hb
  have hl : lv_has ls 3 [(0, .ref (X.2.2 0)), (1, .int p1)] := hl
  generalize hQ : MQ below _ args s 0 0 (AX LM X s.heap.size) = Q
  unfold f_X11_takesBack at hf
  refine lv_aload_n hx hb dX11_takesBack_0 rfl (lv_at hl 0 rfl) ?_
  refine gt_X11_192 B hw dX11_takesBack_1 ?_
  refine lv_iload_n hx hb dX11_takesBack_4 rfl (lv_at hl 1 rfl) ?_
  obtain ⟨g_1, hf⟩ := grd_e hf
  refine m_iald B hw (i := 59) rfl g_1 dX11_takesBack_5 ?_
  refine r_topn hf (fun x2_2 hf => ?_)
  refine lv_istore_n (lv' := [(2, .int x2_2), (0, .ref (X.2.2 0)), (1, .int p1)]) hx hb dX11_takesBack_6 rfl hl (by decide) rfl (fun ls hl => ?_)
  refine lv_aload_n hx hb dX11_takesBack_7 rfl (lv_at hl 1 rfl) ?_
  refine gt_X11_189 B hw dX11_takesBack_8 ?_
  refine lv_iload_n hx hb dX11_takesBack_11 rfl (lv_at hl 2 rfl) ?_
  refine m_iald B hw (i := 58) rfl g_1 dX11_takesBack_12 ?_
  refine lv_if_ne (tgt := 30) hx hb dX11_takesBack_13 (by decide) (fun c_3 => ?_) (fun c_3 => ?_)
  · have hf := ie_e hf c_3
    refine lv_aload_n hx hb dX11_takesBack_30 rfl (lv_at hl 1 rfl) ?_
    refine gt_X11_189 B hw dX11_takesBack_31 ?_
    refine lv_iload_n hx hb dX11_takesBack_34 rfl (lv_at hl 2 rfl) ?_
    refine m_iald B hw (i := 58) rfl g_1 dX11_takesBack_35 ?_
    refine lv_iconst (v := 1) hx hb dX11_takesBack_36 (by decide) ?_
    refine lv_icmp_ne (tgt := 69) hx hb dX11_takesBack_37 (by decide) (fun c_4 => ?_) (fun c_4 => ?_)
    · have hf := ie_e hf c_4
      refine lv_aload_n hx hb dX11_takesBack_69 rfl (lv_at hl 1 rfl) ?_
      refine lv_iload_n hx hb dX11_takesBack_70 rfl (lv_at hl 0 rfl) ?_
      refine lv_aload_n hx hb dX11_takesBack_71 rfl (lv_at hl 1 rfl) ?_
      refine gt_X11_207 B hw dX11_takesBack_72 ?_
      refine lv_iload_n hx hb dX11_takesBack_75 rfl (lv_at hl 2 rfl) ?_
      refine m_iald B hw (i := 64) rfl g_1 dX11_takesBack_76 ?_
      refine lv_aload_n hx hb dX11_takesBack_77 rfl (lv_at hl 1 rfl) ?_
      refine gt_X11_210 B hw dX11_takesBack_78 ?_
      refine lv_iconst (v := 4) hx hb dX11_takesBack_81 (by decide) ?_
      refine lv_iload_n hx hb dX11_takesBack_82 rfl (lv_at hl 2 rfl) ?_
      refine lv_imul hx hb dX11_takesBack_83 ?_
      obtain ⟨g_5, hf⟩ := grd_e hf
      refine m_iald B hw (i := 65) rfl g_5 dX11_takesBack_84 ?_
      refine lv_aload_n hx hb dX11_takesBack_85 rfl (lv_at hl 1 rfl) ?_
      refine gt_X11_210 B hw dX11_takesBack_86 ?_
      refine lv_iconst (v := 4) hx hb dX11_takesBack_89 (by decide) ?_
      refine lv_iload_n hx hb dX11_takesBack_90 rfl (lv_at hl 2 rfl) ?_
      refine lv_imul hx hb dX11_takesBack_91 ?_
      refine lv_iconst (v := 1) hx hb dX11_takesBack_92 (by decide) ?_
      refine lv_iadd hx hb dX11_takesBack_93 ?_
      obtain ⟨g_6, hf⟩ := grd_e hf
      refine m_iald B hw (i := 65) rfl g_6 dX11_takesBack_94 ?_
      refine lv_aload_n hx hb dX11_takesBack_95 rfl (lv_at hl 1 rfl) ?_
      refine gt_X11_210 B hw dX11_takesBack_96 ?_
      refine lv_iconst (v := 4) hx hb dX11_takesBack_99 (by decide) ?_
      refine lv_iload_n hx hb dX11_takesBack_100 rfl (lv_at hl 2 rfl) ?_
      refine lv_imul hx hb dX11_takesBack_101 ?_
      refine lv_iconst (v := 2) hx hb dX11_takesBack_102 (by decide) ?_
      refine lv_iadd hx hb dX11_takesBack_103 ?_
      obtain ⟨g_7, hf⟩ := grd_e hf
      refine m_iald B hw (i := 65) rfl g_7 dX11_takesBack_104 ?_
      refine lv_aload_n hx hb dX11_takesBack_105 rfl (lv_at hl 1 rfl) ?_
      refine gt_X11_210 B hw dX11_takesBack_106 ?_
      refine lv_iconst (v := 4) hx hb dX11_takesBack_109 (by decide) ?_
      refine lv_iload_n hx hb dX11_takesBack_110 rfl (lv_at hl 2 rfl) ?_
      refine lv_imul hx hb dX11_takesBack_111 ?_
      refine lv_iconst (v := 3) hx hb dX11_takesBack_112 (by decide) ?_
      refine lv_iadd hx hb dX11_takesBack_113 ?_
      obtain ⟨g_8, hf⟩ := grd_e hf
      refine m_iald B hw (i := 65) rfl g_8 dX11_takesBack_114 ?_
      obtain ⟨M_10, h_9, hf⟩ := bd_e hf
      refine q_callVv (M' := M_10) (i := 0) (As := [.int x2_2, .int (M 64 p1.toNatClampNeg), .int (M 65 (4 * p1).toNatClampNeg), .int (M 65 ((4 * p1) + 1).toNatClampNeg), .int (M 65 ((4 * p1) + 2).toNatClampNeg), .int (M 65 ((4 * p1) + 3).toNatClampNeg)]) (rest := []) B hw (c_X11_inserts l X fu x2_2 (M 64 p1.toNatClampNeg) (M 65 (4 * p1).toNatClampNeg) (M 65 ((4 * p1) + 1).toNatClampNeg) (M 65 ((4 * p1) + 2).toNatClampNeg) (M 65 ((4 * p1) + 3).toNatClampNeg) M M_10 h_9 _) cv_X11_266 (rc_11 B hw) rfl hl.1 rfl rfl ⟨Nat.le_of_ble_eq_true rfl, Nat.le_of_ble_eq_true rfl⟩ (Nat.le_of_ble_eq_true rfl) ⟨Nat.le_of_ble_eq_true rfl, Nat.le_of_ble_eq_true rfl⟩ dX11_takesBack_115 rfl (fun H locs hw => ?_)
      cases hf
      subst hQ
      exact q_vret B hr hlk hw rfl dX11_takesBack_118
    · have hf := it_e hf c_4
      refine lv_aload_n hx hb dX11_takesBack_40 rfl (lv_at hl 1 rfl) ?_
      refine lv_iload_n hx hb dX11_takesBack_41 rfl (lv_at hl 0 rfl) ?_
      refine lv_aload_n hx hb dX11_takesBack_42 rfl (lv_at hl 1 rfl) ?_
      refine gt_X11_207 B hw dX11_takesBack_43 ?_
      refine lv_iload_n hx hb dX11_takesBack_46 rfl (lv_at hl 2 rfl) ?_
      refine m_iald B hw (i := 64) rfl g_1 dX11_takesBack_47 ?_
      refine lv_aload_n hx hb dX11_takesBack_48 rfl (lv_at hl 1 rfl) ?_
      refine gt_X11_198 B hw dX11_takesBack_49 ?_
      refine lv_iload_n hx hb dX11_takesBack_52 rfl (lv_at hl 2 rfl) ?_
      refine m_iald B hw (i := 61) rfl g_1 dX11_takesBack_53 ?_
      refine lv_aload_n hx hb dX11_takesBack_54 rfl (lv_at hl 1 rfl) ?_
      refine gt_X11_210 B hw dX11_takesBack_55 ?_
      refine lv_iconst (v := 4) hx hb dX11_takesBack_58 (by decide) ?_
      refine lv_iload_n hx hb dX11_takesBack_59 rfl (lv_at hl 2 rfl) ?_
      refine lv_imul hx hb dX11_takesBack_60 ?_
      obtain ⟨g_11, hf⟩ := grd_e hf
      refine m_iald B hw (i := 65) rfl g_11 dX11_takesBack_61 ?_
      obtain ⟨r_13, M_14, h_12, hf⟩ := bm_e hf
      refine q_callVi (M' := M_14) (i := 0) (As := [.int x2_2, .int (M 64 p1.toNatClampNeg), .int (M 61 p1.toNatClampNeg), .int (M 65 (4 * p1).toNatClampNeg)]) (rest := []) B hw (c_X11_puts l X fu x2_2 (M 64 p1.toNatClampNeg) (M 61 p1.toNatClampNeg) (M 65 (4 * p1).toNatClampNeg) M (r_13, M_14) h_12 _) cv_X11_284 (rc_11 B hw) rfl hl.1 rfl rfl ⟨Nat.le_of_ble_eq_true rfl, Nat.le_of_ble_eq_true rfl⟩ (Nat.le_of_ble_eq_true rfl) ⟨Nat.le_of_ble_eq_true rfl, Nat.le_of_ble_eq_true rfl⟩ dX11_takesBack_62 rfl (fun H locs hw => ?_)
      refine lv_pop hx hb dX11_takesBack_65 rfl ?_
      refine lv_goto (tgt := 118) hx hb dX11_takesBack_66 (by decide) ?_
      cases hf
      subst hQ
      exact q_vret B hr hlk hw rfl dX11_takesBack_118
  · have hf := it_e hf c_3
    refine lv_aload_n hx hb dX11_takesBack_16 rfl (lv_at hl 1 rfl) ?_
    refine lv_iload_n hx hb dX11_takesBack_17 rfl (lv_at hl 0 rfl) ?_
    refine lv_aload_n hx hb dX11_takesBack_18 rfl (lv_at hl 1 rfl) ?_
    refine gt_X11_207 B hw dX11_takesBack_19 ?_
    refine lv_iload_n hx hb dX11_takesBack_22 rfl (lv_at hl 2 rfl) ?_
    refine m_iald B hw (i := 64) rfl g_1 dX11_takesBack_23 ?_
    obtain ⟨M_16, h_15, hf⟩ := bd_e hf
    refine q_callVv (M' := M_16) (i := 0) (As := [.int x2_2, .int (M 64 p1.toNatClampNeg)]) (rest := []) B hw (c_X11_takesOut l X fu x2_2 (M 64 p1.toNatClampNeg) M M_16 h_15 _) cv_X11_287 (rc_11 B hw) rfl hl.1 rfl rfl ⟨Nat.le_of_ble_eq_true rfl, Nat.le_of_ble_eq_true rfl⟩ (Nat.le_of_ble_eq_true rfl) ⟨Nat.le_of_ble_eq_true rfl, Nat.le_of_ble_eq_true rfl⟩ dX11_takesBack_24 rfl (fun H locs hw => ?_)
    refine lv_goto (tgt := 118) hx hb dX11_takesBack_27 (by decide) ?_
    cases hf
    subst hQ
    exact q_vret B hr hlk hw rfl dX11_takesBack_118
abbrev rm_X11_runs : Room := { frames := 6, cells := 0, slots := 0, locals := 147 }
set_option maxRecDepth 100000 in
set_option maxHeartbeats 4000000 in
theorem c_X11_runs (l : Launch) (X : XT) (fu : Nat) (p1 : Int32) (M : Mem)  (rs : (Int32 × Mem)) (hf : f_X11_runs fu p1 M = some rs) (sz : Nat) : Met l yX11_runs (wbig yX11_runs cX11_runs 7 (some .int)) rm_X11_runs (va_Pc [.ref (X.2.2 0), .int p1] (PW LM X M sz)) (QI LM X rs.2 rs.1 sz) 0 0 (AX LM X sz) := by
  refine met_go (L := LM) (M := M) (by decide +kernel) (Nat.le_of_ble_eq_true rfl) ?_
  intro p e s m args below meth c hsz B hr hlk hw ls hl
  subst hsz
  have hx := B.hx
  have hb := B.hb
  have hl : lv_has ls 7 [(0, .ref (X.2.2 0)), (1, .int p1)] := hl
  generalize hQ : MQ below _ args s 0 0 (AX LM X s.heap.size) = Q
  unfold f_X11_runs at hf
  refine lv_aload_n hx hb dX11_runs_0 rfl (lv_at hl 0 rfl) ?_
  refine gt_X11_192 B hw dX11_runs_1 ?_
  refine lv_iload_n hx hb dX11_runs_4 rfl (lv_at hl 1 rfl) ?_
  obtain ⟨g_1, hf⟩ := grd_e hf
  refine m_iald B hw (i := 59) rfl g_1 dX11_runs_5 ?_
  refine q_callSi (M' := M) (As := [.int (M 59 p1.toNatClampNeg)]) (rest := []) B hw (c_X11_storeOf l X (M 59 p1.toNatClampNeg) _ rfl M _) cs_X11_220 rfl hl.1 rfl rfl ⟨Nat.le_of_ble_eq_true rfl, Nat.le_of_ble_eq_true rfl⟩ (Nat.le_of_ble_eq_true rfl) ⟨Nat.le_of_ble_eq_true rfl, Nat.le_of_ble_eq_true rfl⟩ dX11_runs_6 rfl (fun H locs hw => ?_)
  refine r_topn hf (fun x2_2 hf => ?_)
  refine lv_istore_n (lv' := [(2, .int x2_2), (0, .ref (X.2.2 0)), (1, .int p1)]) hx hb dX11_runs_9 rfl hl (by decide) rfl (fun ls hl => ?_)
  refine lv_iconst (v := 0) hx hb dX11_runs_10 (by decide) ?_
  refine lv_istore_n (lv' := [(3, .int 0), (2, .int x2_2), (0, .ref (X.2.2 0)), (1, .int p1)]) hx hb dX11_runs_11 rfl hl (by decide) rfl (fun ls hl => ?_)
  refine lv_iconst (v := 0) hx hb dX11_runs_12 (by decide) ?_
  refine lv_istore (lv' := [(4, .int 0), (3, .int 0), (2, .int x2_2), (0, .ref (X.2.2 0)), (1, .int p1)]) hx hb dX11_runs_13 hl (by decide) rfl (fun ls hl => ?_)
  refine lv_iconst (v := 0) hx hb dX11_runs_15 (by decide) ?_
  refine lv_istore (lv' := [(5, .int 0), (4, .int 0), (3, .int 0), (2, .int x2_2), (0, .ref (X.2.2 0)), (1, .int p1)]) hx hb dX11_runs_16 hl (by decide) rfl (fun ls hl => ?_)
  refine jn_e hf (fun kk => ∀ (x3_4 : Int32) (M_5 : Mem) (H : Heap) (locs : List Loc) (ls : Array Slot), HW LM X M_5 s H locs → lv_has ls 7 [(3, .int x3_4)] → kk x3_4 M_5 = some rs → W p l e rm_X11_runs s m args below meth c H locs 0 0 Q (F0 m 104 ls [])) ?_ (fun k104_3 J104_3 hf => ?_)
  · intro x3_4 M_5 H locs ls hw hl hf
    refine lv_iload_n hx hb dX11_runs_104 rfl (lv_at hl 0 rfl) ?_
    refine lv_if_eq (tgt := 112) hx hb dX11_runs_105 (by decide) (fun c_6 => ?_) (fun c_6 => ?_)
    · have hf := it_e hf c_6
      refine lv_iconst (v := 0) hx hb dX11_runs_112 (by decide) ?_
      cases hf
      subst hQ
      exact q_iret B hr hlk hw rfl rfl dX11_runs_113
    · have hf := ie_e hf c_6
      refine lv_iconst (v := 1) hx hb dX11_runs_108 (by decide) ?_
      refine lv_goto (tgt := 113) hx hb dX11_runs_109 (by decide) ?_
      cases hf
      subst hQ
      exact q_iret B hr hlk hw rfl rfl dX11_runs_113
  have hL_18 : ∀ (n_18 : Nat) (x3_7 : Int32) (x4_8 : Int32) (x5_9 : Int32) (M_10 : Mem) (H : Heap) (locs : List Loc) (ls : Array Slot), HW LM X M_10 s H locs → lv_has ls 7 [(0, .ref (X.2.2 0)), (1, .int p1), (2, .int x2_2), (3, .int x3_7), (4, .int x4_8), (5, .int x5_9)] → f_X11_runs_L18 fu p1 x2_2 k104_3 n_18 x3_7 x4_8 x5_9 M_10 = some rs → W p l e rm_X11_runs s m args below meth c H locs 0 0 Q (F0 m 18 ls []) := by
    intro n_18
    induction n_18 with
    | zero => intro x3_7 x4_8 x5_9 M_10 H locs ls hw hl hf; exact no_none hf
    | succ n_18 ih_18 =>
      intro x3_7 x4_8 x5_9 M_10 H locs ls hw hl hf
      rw [f_X11_runs_L18] at hf
      refine lv_iload hx hb dX11_runs_18 (lv_at hl 5 rfl) ?_
      refine lv_iconst (v := 3) hx hb dX11_runs_20 (by decide) ?_
      refine lv_icmp_ge (tgt := 104) hx hb dX11_runs_21 (by decide) (fun c_11 => ?_) (fun c_11 => ?_)
      · have hf := it_e hf c_11
        exact J104_3 x3_7 M_10 _ _ _ hw (lv_sub hl [3] rfl) hf
      · have hf := ie_e hf c_11
        refine lv_aload_n hx hb dX11_runs_24 rfl (lv_at hl 0 rfl) ?_
        refine lv_iload_n hx hb dX11_runs_25 rfl (lv_at hl 2 rfl) ?_
        refine lv_iconst (v := 0) hx hb dX11_runs_26 (by decide) ?_
        obtain ⟨r_13, M_14, h_12, hf⟩ := bm_e hf
        refine q_callVi (M' := M_14) (i := 0) (As := [.int x2_2, .int 0]) (rest := []) B hw (c_X11_tries l X fu x2_2 0 M_10 (r_13, M_14) h_12 _) cv_X11_348 (rc_11 B hw) rfl hl.1 rfl rfl ⟨Nat.le_of_ble_eq_true rfl, Nat.le_of_ble_eq_true rfl⟩ (Nat.le_of_ble_eq_true rfl) ⟨Nat.le_of_ble_eq_true rfl, Nat.le_of_ble_eq_true rfl⟩ dX11_runs_27 rfl (fun H locs hw => ?_)
        refine lv_istore (lv' := [(6, .int r_13), (0, .ref (X.2.2 0)), (1, .int p1), (2, .int x2_2), (3, .int x3_7), (4, .int x4_8), (5, .int x5_9)]) hx hb dX11_runs_30 hl (by decide) rfl (fun ls hl => ?_)
        refine lv_iload_n hx hb dX11_runs_32 rfl (lv_at hl 4 rfl) ?_
        refine jn_e hf (fun kk => ∀ (x3_16 : Int32) (x4_17 : Int32) (M_18 : Mem) (H : Heap) (locs : List Loc) (ls : Array Slot), HW LM X M_18 s H locs → lv_has ls 7 [(0, .ref (X.2.2 0)), (1, .int p1), (2, .int x2_2), (3, .int x3_16), (4, .int x4_17), (5, .int x5_9), (6, .int r_13)] → kk x3_16 x4_17 M_18 = some rs → W p l e rm_X11_runs s m args below meth c H locs 0 0 Q (F0 m 82 ls [])) ?_ (fun k82_15 J82_15 hf => ?_)
        · intro x3_16 x4_17 M_18 H locs ls hw hl hf
          refine lv_iload hx hb dX11_runs_82 (lv_at hl 6 rfl) ?_
          refine lv_iconst (v := 2) hx hb dX11_runs_84 (by decide) ?_
          refine lv_icmp_ne (tgt := 98) hx hb dX11_runs_85 (by decide) (fun c_19 => ?_) (fun c_19 => ?_)
          · have hf := ie_e hf c_19
            refine r_iinc (v := (x5_9 + 1)) hx hb dX11_runs_98 hl (k := 5) rfl rfl (by decide) hf (fun x5_20 ls hl hf => ?_)
            have hl : lv_has ls 7 [(5, .int x5_20), (0, .ref (X.2.2 0)), (1, .int p1), (2, .int x2_2), (3, .int x3_16), (4, .int x4_17), (6, .int r_13)] := hl
            refine lv_goto (tgt := 18) hx hb dX11_runs_101 (by decide) ?_
            exact ih_18 x3_16 x4_17 x5_20 M_18 _ _ _ hw (lv_sub hl [1, 2, 3, 4, 5, 0] rfl) hf
          · have hf := it_e hf c_19
            refine lv_iload_n hx hb dX11_runs_88 rfl (lv_at hl 3 rfl) ?_
            refine lv_if_eq (tgt := 96) hx hb dX11_runs_89 (by decide) (fun c_21 => ?_) (fun c_21 => ?_)
            · have hf := it_e hf c_21
              refine lv_iconst (v := 0) hx hb dX11_runs_96 (by decide) ?_
              cases hf
              subst hQ
              exact q_iret B hr hlk hw rfl rfl dX11_runs_97
            · have hf := ie_e hf c_21
              refine lv_iconst (v := 2) hx hb dX11_runs_92 (by decide) ?_
              refine lv_goto (tgt := 97) hx hb dX11_runs_93 (by decide) ?_
              cases hf
              subst hQ
              exact q_iret B hr hlk hw rfl rfl dX11_runs_97
        refine lv_if_ne (tgt := 82) hx hb dX11_runs_33 (by decide) (fun c_22 => ?_) (fun c_22 => ?_)
        · have hf := ie_e hf c_22
          exact J82_15 x3_7 x4_8 M_14 _ _ _ hw (lv_sub hl [1, 2, 3, 4, 5, 6, 0] rfl) hf
        · have hf := it_e hf c_22
          refine lv_iload hx hb dX11_runs_36 (lv_at hl 5 rfl) ?_
          refine lv_if_ne (tgt := 82) hx hb dX11_runs_38 (by decide) (fun c_23 => ?_) (fun c_23 => ?_)
          · have hf := ie_e hf c_23
            exact J82_15 x3_7 x4_8 M_14 _ _ _ hw (lv_sub hl [1, 2, 3, 4, 5, 6, 0] rfl) hf
          · have hf := it_e hf c_23
            refine lv_iload hx hb dX11_runs_41 (lv_at hl 0 rfl) ?_
            refine lv_iconst (v := 2) hx hb dX11_runs_43 (by decide) ?_
            refine jn_e hf (fun kk => ∀ (_ : Unit) (H : Heap) (locs : List Loc) (ls : Array Slot), HW LM X M_14 s H locs → lv_has ls 7 [(0, .ref (X.2.2 0)), (1, .int p1), (2, .int x2_2), (5, .int x5_9), (6, .int r_13)] → kk () = some rs → W p l e rm_X11_runs s m args below meth c H locs 0 0 Q (F0 m 56 ls [])) ?_ (fun k56_24 J56_24 hf => ?_)
            · intro _ H locs ls hw hl hf
              refine lv_aload_n hx hb dX11_runs_56 rfl (lv_at hl 0 rfl) ?_
              refine lv_iload_n hx hb dX11_runs_57 rfl (lv_at hl 1 rfl) ?_
              obtain ⟨r_26, h_25, hf⟩ := bd_e hf
              refine q_callVi (M' := M_14) (i := 0) (As := [.int p1]) (rest := []) B hw (c_X11_canStep l X fu p1 M_14 r_26 h_25 _) cv_X11_487 (rc_11 B hw) rfl hl.1 rfl rfl ⟨Nat.le_of_ble_eq_true rfl, Nat.le_of_ble_eq_true rfl⟩ (Nat.le_of_ble_eq_true rfl) ⟨Nat.le_of_ble_eq_true rfl, Nat.le_of_ble_eq_true rfl⟩ dX11_runs_58 rfl (fun H locs hw => ?_)
              refine lv_istore_n (lv' := [(3, .int r_26), (0, .ref (X.2.2 0)), (1, .int p1), (2, .int x2_2), (5, .int x5_9), (6, .int r_13)]) hx hb dX11_runs_61 rfl hl (by decide) rfl (fun ls hl => ?_)
              refine lv_iload_n hx hb dX11_runs_62 rfl (lv_at hl 0 rfl) ?_
              refine nmv_e hf (fun kk => ∀ (H : Heap) (locs : List Loc), HW LM X M_14 s H locs → W p l e rm_X11_runs s m args below meth c H locs 0 0 Q (F0 m 71 ls [.int kk])) (fun J => ?_) (fun v_28 hf H locs hw => ?_)
              · refine lv_if_ne (tgt := 70) hx hb dX11_runs_63 (by decide) (fun c_27 => ?_) (fun c_27 => ?_)
                · rw [if_neg c_27] at J
                  refine lv_iconst (v := 0) hx hb dX11_runs_70 (by decide) ?_
                  exact J _ _ hw
                · rw [if_pos c_27] at J
                  refine lv_iconst (v := 1) hx hb dX11_runs_66 (by decide) ?_
                  refine lv_goto (tgt := 71) hx hb dX11_runs_67 (by decide) ?_
                  exact J _ _ hw
              · refine lv_istore (lv' := [(4, .int v_28), (3, .int r_26), (0, .ref (X.2.2 0)), (1, .int p1), (2, .int x2_2), (5, .int x5_9), (6, .int r_13)]) hx hb dX11_runs_71 hl (by decide) rfl (fun ls hl => ?_)
                refine lv_iload_n hx hb dX11_runs_73 rfl (lv_at hl 1 rfl) ?_
                refine lv_if_eq (tgt := 82) hx hb dX11_runs_74 (by decide) (fun c_29 => ?_) (fun c_29 => ?_)
                · have hf := it_e hf c_29
                  exact J82_15 r_26 v_28 M_14 _ _ _ hw (lv_sub hl [2, 3, 4, 1, 0, 5, 6] rfl) hf
                · have hf := ie_e hf c_29
                  refine lv_aload_n hx hb dX11_runs_77 rfl (lv_at hl 2 rfl) ?_
                  refine lv_iload_n hx hb dX11_runs_78 rfl (lv_at hl 3 rfl) ?_
                  obtain ⟨M_31, h_30, hf⟩ := bd_e hf
                  refine q_callVv (M' := M_31) (i := 0) (As := [.int p1]) (rest := []) B hw (c_X11_doesStep l X fu p1 M_14 M_31 h_30 _) cv_X11_490 (rc_11 B hw) rfl hl.1 rfl rfl ⟨Nat.le_of_ble_eq_true rfl, Nat.le_of_ble_eq_true rfl⟩ (Nat.le_of_ble_eq_true rfl) ⟨Nat.le_of_ble_eq_true rfl, Nat.le_of_ble_eq_true rfl⟩ dX11_runs_79 rfl (fun H locs hw => ?_)
                  exact J82_15 r_26 v_28 M_31 _ _ _ hw (lv_sub hl [2, 3, 4, 1, 0, 5, 6] rfl) hf
            refine lv_icmp_eq (tgt := 56) hx hb dX11_runs_44 (by decide) (fun c_32 => ?_) (fun c_32 => ?_)
            · have hf := it_e hf c_32
              exact J56_24 () _ _ _ hw (lv_sub hl [1, 2, 3, 6, 0] rfl) hf
            · have hf := ie_e hf c_32
              refine lv_aload_n hx hb dX11_runs_47 rfl (lv_at hl 1 rfl) ?_
              refine gt_X11_43 B hw dX11_runs_48 ?_
              refine lv_iload_n hx hb dX11_runs_51 rfl (lv_at hl 3 rfl) ?_
              obtain ⟨g_33, hf⟩ := grd_e hf
              refine m_zald B hw (i := 12) rfl g_33 dX11_runs_52 ?_
              refine lv_if_eq (tgt := 82) hx hb dX11_runs_53 (by decide) (fun c_34 => ?_) (fun c_34 => ?_)
              · have hf := it_e hf c_34
                exact J82_15 x3_7 x4_8 M_14 _ _ _ hw (lv_sub hl [1, 2, 3, 4, 5, 6, 0] rfl) hf
              · have hf := ie_e hf c_34
                exact J56_24 () _ _ _ hw (lv_sub hl [1, 2, 3, 6, 0] rfl) hf
  exact hL_18 fu 0 0 0 M _ _ _ hw (lv_sub hl [4, 5, 3, 2, 1, 0] rfl) hf
abbrev rm_X11_run : Room := { frames := 7, cells := 0, slots := 0, locals := 173 }
set_option maxRecDepth 100000 in
set_option maxHeartbeats 4000000 in
theorem c_X11_run (l : Launch) (X : XT) (fu : Nat) (M : Mem)  (rs : (Int32 × Mem)) (hf : f_X11_run fu M = some rs) (sz : Nat) : Met l yX11_run (wbig yX11_run cX11_run 5 (some .int)) rm_X11_run (va_Pc [.ref (X.2.2 0)] (PW LM X M sz)) (QI LM X rs.2 rs.1 sz) 0 0 (AX LM X sz) := by
  refine met_go (L := LM) (M := M) (by decide +kernel) (Nat.le_of_ble_eq_true rfl) ?_
  intro p e s m args below meth c hsz B hr hlk hw ls hl
  subst hsz
  have hx := B.hx
  have hb := B.hb
  have hl : lv_has ls 5 [(0, .ref (X.2.2 0))] := hl
  generalize hQ : MQ below _ args s 0 0 (AX LM X s.heap.size) = Q
  unfold f_X11_run at hf
  refine lv_aload_n hx hb dX11_run_0 rfl (lv_at hl 0 rfl) ?_
  refine lv_aload_n hx hb dX11_run_1 rfl (lv_at hl 0 rfl) ?_
  refine gt_X11_484 B hw dX11_run_2 ?_
  refine nmv_e hf (fun kk => ∀ (H : Heap) (locs : List Loc), HW LM X M s H locs → W p l e rm_X11_run s m args below meth c H locs 0 0 Q (F0 m 13 ls [.int kk, .ref (X.2.2 0)])) (fun J => ?_) (fun v_2 hf H locs hw => ?_)
  · refine lv_if_ne (tgt := 12) hx hb dX11_run_5 (by decide) (fun c_1 => ?_) (fun c_1 => ?_)
    · rw [if_neg c_1] at J
      refine lv_iconst (v := 0) hx hb dX11_run_12 (by decide) ?_
      exact J _ _ hw
    · rw [if_pos c_1] at J
      refine lv_iconst (v := 1) hx hb dX11_run_8 (by decide) ?_
      refine lv_goto (tgt := 13) hx hb dX11_run_9 (by decide) ?_
      exact J _ _ hw
  · refine pt_X11_213 B hw dX11_run_13 hf (fun M_3 H locs hw hf => ?_)
    refine lv_aload_n hx hb dX11_run_16 rfl (lv_at hl 0 rfl) ?_
    refine gt_X11_213 B hw dX11_run_17 ?_
    refine lv_if_le (tgt := 25) hx hb dX11_run_20 (by decide) (fun c_4 => ?_) (fun c_4 => ?_)
    · have hf := it_e hf c_4
      refine lv_aload_n hx hb dX11_run_25 rfl (lv_at hl 0 rfl) ?_
      refine gt_X11_484 B hw dX11_run_26 ?_
      refine r_topn hf (fun x1_5 hf => ?_)
      refine lv_istore_n (lv' := [(1, .int x1_5), (0, .ref (X.2.2 0))]) hx hb dX11_run_29 rfl hl (by decide) rfl (fun ls hl => ?_)
      refine lv_aload_n hx hb dX11_run_30 rfl (lv_at hl 1 rfl) ?_
      refine lv_iconst (v := 0) hx hb dX11_run_31 (by decide) ?_
      refine pt_X11_484 B hw dX11_run_32 hf (fun M_6 H locs hw hf => ?_)
      refine lv_iconst (v := 0) hx hb dX11_run_35 (by decide) ?_
      refine lv_istore_n (lv' := [(2, .int 0), (1, .int x1_5), (0, .ref (X.2.2 0))]) hx hb dX11_run_36 rfl hl (by decide) rfl (fun ls hl => ?_)
      refine jn_e hf (fun kk => ∀ (x2_8 : Int32) (x3_9 : Int32) (M_10 : Mem) (H : Heap) (locs : List Loc) (ls : Array Slot), HW LM X M_10 s H locs → lv_has ls 5 [(0, .ref (X.2.2 0)), (2, .int x2_8), (3, .int x3_9)] → kk x2_8 x3_9 M_10 = some rs → W p l e rm_X11_run s m args below meth c H locs 0 0 Q (F0 m 53 ls [])) ?_ (fun k53_7 J53_7 hf => ?_)
      · intro x2_8 x3_9 M_10 H locs ls hw hl hf
        refine lv_iload_n hx hb dX11_run_53 rfl (lv_at hl 2 rfl) ?_
        refine lv_iconst (v := 1) hx hb dX11_run_54 (by decide) ?_
        refine nmv_e hf (fun kk => ∀ (H : Heap) (locs : List Loc), HW LM X M_10 s H locs → W p l e rm_X11_run s m args below meth c H locs 0 0 Q (F0 m 65 ls [.int kk])) (fun J => ?_) (fun v_12 hf H locs hw => ?_)
        · refine lv_icmp_ne (tgt := 62) hx hb dX11_run_55 (by decide) (fun c_11 => ?_) (fun c_11 => ?_)
          · rw [if_neg c_11] at J
            refine lv_iload_n hx hb dX11_run_62 rfl (lv_at hl 1 rfl) ?_
            refine lv_iconst (v := 1) hx hb dX11_run_63 (by decide) ?_
            refine lv_isub hx hb dX11_run_64 ?_
            exact J _ _ hw
          · rw [if_pos c_11] at J
            refine lv_iload_n hx hb dX11_run_58 rfl (lv_at hl 1 rfl) ?_
            refine lv_goto (tgt := 65) hx hb dX11_run_59 (by decide) ?_
            exact J _ _ hw
        · refine lv_istore (lv' := [(4, .int v_12), (0, .ref (X.2.2 0)), (2, .int x2_8), (3, .int x3_9)]) hx hb dX11_run_65 hl (by decide) rfl (fun ls hl => ?_)
          have hL_67 : ∀ (n_67 : Nat) (x4_13 : Int32) (M_14 : Mem) (H : Heap) (locs : List Loc) (ls : Array Slot), HW LM X M_14 s H locs → lv_has ls 5 [(0, .ref (X.2.2 0)), (2, .int x2_8), (4, .int x4_13)] → f_X11_run_L67 fu x2_8 n_67 x4_13 M_14 = some rs → W p l e rm_X11_run s m args below meth c H locs 0 0 Q (F0 m 67 ls []) := by
            intro n_67
            induction n_67 with
            | zero => intro x4_13 M_14 H locs ls hw hl hf; exact no_none hf
            | succ n_67 ih_67 =>
              intro x4_13 M_14 H locs ls hw hl hf
              rw [f_X11_run_L67] at hf
              refine lv_iload hx hb dX11_run_67 (lv_at hl 2 rfl) ?_
              refine lv_if_lt (tgt := 84) hx hb dX11_run_69 (by decide) (fun c_15 => ?_) (fun c_15 => ?_)
              · have hf := it_e hf c_15
                refine lv_iload_n hx hb dX11_run_84 rfl (lv_at hl 1 rfl) ?_
                cases hf
                subst hQ
                exact q_iret B hr hlk hw rfl rfl dX11_run_85
              · have hf := ie_e hf c_15
                refine lv_aload_n hx hb dX11_run_72 rfl (lv_at hl 0 rfl) ?_
                refine lv_iload hx hb dX11_run_73 (lv_at hl 2 rfl) ?_
                obtain ⟨M_17, h_16, hf⟩ := bd_e hf
                refine q_callVv (M' := M_17) (i := 0) (As := [.int x4_13]) (rest := []) B hw (c_X11_takesBack l X fu x4_13 M_14 M_17 h_16 _) cv_X11_496 (rc_11 B hw) rfl hl.1 rfl rfl ⟨Nat.le_of_ble_eq_true rfl, Nat.le_of_ble_eq_true rfl⟩ (Nat.le_of_ble_eq_true rfl) ⟨Nat.le_of_ble_eq_true rfl, Nat.le_of_ble_eq_true rfl⟩ dX11_run_75 rfl (fun H locs hw => ?_)
                refine r_iinc (v := (x4_13 + (-1))) hx hb dX11_run_78 hl (k := 2) rfl rfl (by decide) hf (fun x4_18 ls hl hf => ?_)
                have hl : lv_has ls 5 [(4, .int x4_18), (0, .ref (X.2.2 0)), (2, .int x2_8)] := hl
                refine lv_goto (tgt := 67) hx hb dX11_run_81 (by decide) ?_
                exact ih_67 x4_18 M_17 _ _ _ hw (lv_sub hl [1, 2, 0] rfl) hf
          exact hL_67 fu v_12 M_10 _ _ _ hw (lv_sub hl [1, 2, 0] rfl) hf
      have hL_37 : ∀ (n_37 : Nat) (x2_19 : Int32) (M_20 : Mem) (H : Heap) (locs : List Loc) (ls : Array Slot), HW LM X M_20 s H locs → lv_has ls 5 [(0, .ref (X.2.2 0)), (1, .int x1_5), (2, .int x2_19)] → f_X11_run_L37 fu x1_5 k53_7 n_37 x2_19 M_20 = some rs → W p l e rm_X11_run s m args below meth c H locs 0 0 Q (F0 m 37 ls []) := by
        intro n_37
        induction n_37 with
        | zero => intro x2_19 M_20 H locs ls hw hl hf; exact no_none hf
        | succ n_37 ih_37 =>
          intro x2_19 M_20 H locs ls hw hl hf
          rw [f_X11_run_L37] at hf
          refine lv_iload_n hx hb dX11_run_37 rfl (lv_at hl 2 rfl) ?_
          refine lv_iload_n hx hb dX11_run_38 rfl (lv_at hl 1 rfl) ?_
          refine lv_icmp_ge (tgt := 92) hx hb dX11_run_39 (by decide) (fun c_21 => ?_) (fun c_21 => ?_)
          · have hf := it_e hf c_21
            refine lv_iconst (v := (-1)) hx hb dX11_run_92 (by decide) ?_
            cases hf
            subst hQ
            exact q_iret B hr hlk hw rfl rfl dX11_run_93
          · have hf := ie_e hf c_21
            refine lv_aload_n hx hb dX11_run_42 rfl (lv_at hl 0 rfl) ?_
            refine lv_iload_n hx hb dX11_run_43 rfl (lv_at hl 2 rfl) ?_
            obtain ⟨r_23, M_24, h_22, hf⟩ := bm_e hf
            refine q_callVi (M' := M_24) (i := 0) (As := [.int x2_19]) (rest := []) B hw (c_X11_runs l X fu x2_19 M_20 (r_23, M_24) h_22 _) cv_X11_493 (rc_11 B hw) rfl hl.1 rfl rfl ⟨Nat.le_of_ble_eq_true rfl, Nat.le_of_ble_eq_true rfl⟩ (Nat.le_of_ble_eq_true rfl) ⟨Nat.le_of_ble_eq_true rfl, Nat.le_of_ble_eq_true rfl⟩ dX11_run_44 rfl (fun H locs hw => ?_)
            refine lv_istore_n (lv' := [(3, .int r_23), (0, .ref (X.2.2 0)), (1, .int x1_5), (2, .int x2_19)]) hx hb dX11_run_47 rfl hl (by decide) rfl (fun ls hl => ?_)
            refine lv_iload_n hx hb dX11_run_48 rfl (lv_at hl 0 rfl) ?_
            refine lv_iconst (v := 2) hx hb dX11_run_49 (by decide) ?_
            refine lv_icmp_ge (tgt := 86) hx hb dX11_run_50 (by decide) (fun c_25 => ?_) (fun c_25 => ?_)
            · have hf := it_e hf c_25
              refine r_iinc (v := (x2_19 + 1)) hx hb dX11_run_86 hl (k := 3) rfl rfl (by decide) hf (fun x2_26 ls hl hf => ?_)
              have hl : lv_has ls 5 [(2, .int x2_26), (3, .int r_23), (0, .ref (X.2.2 0)), (1, .int x1_5)] := hl
              refine lv_goto (tgt := 37) hx hb dX11_run_89 (by decide) ?_
              exact ih_37 x2_26 M_24 _ _ _ hw (lv_sub hl [2, 3, 0] rfl) hf
            · have hf := ie_e hf c_25
              exact J53_7 x2_19 r_23 M_24 _ _ _ hw (lv_sub hl [1, 3, 0] rfl) hf
      exact hL_37 fu 0 M_6 _ _ _ hw (lv_sub hl [2, 1, 0] rfl) hf
    · have hf := ie_e hf c_4
      refine lv_iconst (v := 0) hx hb dX11_run_23 (by decide) ?_
      cases hf
      subst hQ
      exact q_iret B hr hlk hw rfl rfl dX11_run_24
