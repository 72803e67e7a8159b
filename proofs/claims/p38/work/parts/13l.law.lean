abbrev rm_L_group : Room := { frames := 3, cells := 0, slots := 0, locals := 74 }
set_option maxRecDepth 100000 in
set_option maxHeartbeats 8000000 in
theorem c_L_group (l : Launch) (ex : List (Nat × Nat)) (X : XT) (fu : Nat) (a1 : Nat) (a2 : Nat) (p3 : Int32) (p4 : Int32) (p5 : Int32) (p6 : Int32) (M : Mem) (ha1 : kW ex a1 = (24, 30)) (ha2 : kW ex a2 = (20, 60)) (rs : (Int32 × Mem)) (hf : f_L_group fu a1 a2 p3 p4 p5 p6 M = some rs) (sz : Nat) : Met l yL_group (wbig yL_group cL_group 12 (some .int)) rm_L_group (va_Pc [.ref (X.2.2 146), .ref (X.2.2 a1), .ref (X.2.2 a2), .int p3, .int p4, .int p5, .int p6] (PW (LW ex) X M sz)) (QI (LW ex) X rs.2 rs.1 sz) 0 0 (AX (LW ex) X sz) := by
  refine met_go (L := (LW ex)) (M := M) (by decide +kernel) (Nat.le_of_ble_eq_true rfl) ?_
  intro p e s m args below meth c hsz B hr hlk hw ls hl
  subst hsz
  have hx := B.hx
  have hb := B.hb
  have hl : lv_has ls 12 [(0, .ref (X.2.2 146)), (1, .ref (X.2.2 a1)), (2, .ref (X.2.2 a2)), (3, .int p3), (4, .int p4), (5, .int p5), (6, .int p6)] := hl
  generalize hQ : MQ below _ args s 0 0 (AX (LW ex) X s.heap.size) = Q
  unfold f_L_group at hf
  refine lv_aload_n hx hb dL_group_0 rfl (lv_at hl 0 rfl) ?_
  refine lv_aload_n hx hb dL_group_1 rfl (lv_at hl 1 rfl) ?_
  refine lv_iconst (v := 0) hx hb dL_group_2 (by decide) ?_
  refine lv_iload_n hx hb dL_group_3 rfl (lv_at hl 3 rfl) ?_
  refine lv_iload hx hb dL_group_4 (lv_at hl 4 rfl) ?_
  refine lv_iload hx hb dL_group_6 (lv_at hl 5 rfl) ?_
  obtain ⟨r_2, h_1, hf⟩ := bd_e hf
  refine q_callSi (M' := M) (As := [.ref (X.2.2 146), .ref (X.2.2 a1), .int 0, .int p3, .int p4, .int p5]) (rest := []) B hw (c_L_outOf l _ X fu a1 0 p3 p4 p5 M ha1 r_2 h_1 _) cs_L_279 rfl hl.1 rfl rfl ⟨(Nat.le_of_ble_eq_true rfl), (Nat.le_of_ble_eq_true rfl)⟩ (Nat.le_of_ble_eq_true rfl) ⟨(Nat.le_of_ble_eq_true rfl), (Nat.le_of_ble_eq_true rfl)⟩ dL_group_8 rfl (fun H locs hw => ?_)
  refine lv_istore (lv' := [(7, .int r_2), (0, .ref (X.2.2 146)), (1, .ref (X.2.2 a1)), (2, .ref (X.2.2 a2)), (3, .int p3), (4, .int p4), (5, .int p5), (6, .int p6)]) hx hb dL_group_11 hl (by decide) rfl (fun ls hl => ?_)
  refine lv_aload_n hx hb dL_group_13 rfl (lv_at hl 1 rfl) ?_
  refine lv_aload_n hx hb dL_group_14 rfl (lv_at hl 2 rfl) ?_
  refine lv_aload_n hx hb dL_group_15 rfl (lv_at hl 1 rfl) ?_
  refine lv_iconst (v := 3) hx hb dL_group_16 (by decide) ?_
  refine w_iald B hw (i := 146) (kw146 _) (by decide) dL_group_17 ?_
  refine lv_iconst (v := 1) hx hb dL_group_18 (by decide) ?_
  refine lv_isub hx hb dL_group_19 ?_
  refine lv_iload_n hx hb dL_group_20 rfl (lv_at hl 4 rfl) ?_
  refine lv_iload hx hb dL_group_21 (lv_at hl 5 rfl) ?_
  refine lv_iload hx hb dL_group_23 (lv_at hl 6 rfl) ?_
  obtain ⟨r_4, h_3, hf⟩ := bd_e hf
  refine q_callSi (M' := M) (As := [.ref (X.2.2 146), .ref (X.2.2 a1), .int ((M 146 3) - 1), .int p3, .int p4, .int p5]) (rest := []) B hw (c_L_outOf l _ X fu a1 ((M 146 3) - 1) p3 p4 p5 M ha1 r_4 h_3 _) cs_L_279 rfl hl.1 rfl rfl ⟨(Nat.le_of_ble_eq_true rfl), (Nat.le_of_ble_eq_true rfl)⟩ (Nat.le_of_ble_eq_true rfl) ⟨(Nat.le_of_ble_eq_true rfl), (Nat.le_of_ble_eq_true rfl)⟩ dL_group_25 rfl (fun H locs hw => ?_)
  refine lv_istore (lv' := [(8, .int r_4), (7, .int r_2), (0, .ref (X.2.2 146)), (1, .ref (X.2.2 a1)), (2, .ref (X.2.2 a2)), (3, .int p3), (4, .int p4), (5, .int p5), (6, .int p6)]) hx hb dL_group_28 hl (by decide) rfl (fun ls hl => ?_)
  refine lv_iconst (v := 0) hx hb dL_group_30 (by decide) ?_
  refine lv_istore (lv' := [(9, .int 0), (8, .int r_4), (7, .int r_2), (0, .ref (X.2.2 146)), (1, .ref (X.2.2 a1)), (2, .ref (X.2.2 a2)), (3, .int p3), (4, .int p4), (5, .int p5), (6, .int p6)]) hx hb dL_group_31 hl (by decide) rfl (fun ls hl => ?_)
  refine jn_e hf (fun kk => ∀ (x9_6 : Int32) (H : Heap) (locs : List Loc) (ls : Array Slot), HW (LW ex) X M s H locs → lv_has ls 12 [(2, .ref (X.2.2 a2)), (6, .int p6), (7, .int r_2), (8, .int r_4), (9, .int x9_6)] → kk x9_6 = some rs → W p l e rm_L_group s m args below meth c H locs 0 0 Q (F0 m 60 ls [])) ?_ (fun k60_5 J60_5 hf => ?_)
  · intro x9_6 H locs ls hw hl hf
    refine lv_iload hx hb dL_group_60 (lv_at hl 1 rfl) ?_
    refine lv_istore (lv' := [(10, .int p6), (2, .ref (X.2.2 a2)), (6, .int p6), (7, .int r_2), (8, .int r_4), (9, .int x9_6)]) hx hb dL_group_62 hl (by decide) rfl (fun ls hl => ?_)
    refine lv_iload hx hb dL_group_64 (lv_at hl 5 rfl) ?_
    refine lv_iload hx hb dL_group_66 (lv_at hl 2 rfl) ?_
    refine jn_e hf (fun kk => ∀ (x10_8 : Int32) (M_9 : Mem) (H : Heap) (locs : List Loc) (ls : Array Slot), HW (LW ex) X M_9 s H locs → lv_has ls 12 [(2, .ref (X.2.2 a2)), (8, .int r_4), (9, .int x9_6), (10, .int x10_8)] → kk x10_8 M_9 = some rs → W p l e rm_L_group s m args below meth c H locs 0 0 Q (F0 m 146 ls [])) ?_ (fun k146_7 J146_7 hf => ?_)
    · intro x10_8 M_9 H locs ls hw hl hf
      refine lv_aload_n hx hb dL_group_146 rfl (lv_at hl 0 rfl) ?_
      refine lv_iconst (v := 3) hx hb dL_group_147 (by decide) ?_
      refine lv_iload hx hb dL_group_148 (lv_at hl 2 rfl) ?_
      refine lv_imul hx hb dL_group_150 ?_
      refine lv_iconst (v := 1) hx hb dL_group_151 (by decide) ?_
      refine lv_iadd hx hb dL_group_152 ?_
      refine lv_dup2_11 hx hb dL_group_153 rfl rfl ?_
      obtain ⟨g_10, hf⟩ := grd_e hf
      refine w_iald B hw (i := a2) ha2 g_10 dL_group_154 ?_
      refine lv_iconst (v := 1) hx hb dL_group_155 (by decide) ?_
      refine lv_iadd hx hb dL_group_156 ?_
      refine w_iast B hw (i := a2) ha2 g_10 dL_group_157 hf (fun M_11 H locs hw hf => ?_)
      refine lv_aload_n hx hb dL_group_158 rfl (lv_at hl 0 rfl) ?_
      refine lv_iconst (v := 3) hx hb dL_group_159 (by decide) ?_
      refine lv_iload hx hb dL_group_160 (lv_at hl 2 rfl) ?_
      refine lv_imul hx hb dL_group_162 ?_
      refine lv_iconst (v := 2) hx hb dL_group_163 (by decide) ?_
      refine lv_iadd hx hb dL_group_164 ?_
      refine lv_dup2_11 hx hb dL_group_165 rfl rfl ?_
      obtain ⟨g_12, hf⟩ := grd_e hf
      refine w_iald B hw (i := a2) ha2 g_12 dL_group_166 ?_
      refine lv_iload hx hb dL_group_167 (lv_at hl 1 rfl) ?_
      refine q_callSi (M' := M_11) (As := [.int r_4]) (rest := [.int (M_11 a2 ((3 * x9_6) + 2).toNatClampNeg), .int ((3 * x9_6) + 2), .ref (X.2.2 a2)]) B hw (c_L_isNumber l _ X r_4 _ rfl M_11 _) cs_L_109 rfl hl.1 rfl rfl ⟨(Nat.le_of_ble_eq_true rfl), (Nat.le_of_ble_eq_true rfl)⟩ (Nat.le_of_ble_eq_true rfl) ⟨(Nat.le_of_ble_eq_true rfl), (Nat.le_of_ble_eq_true rfl)⟩ dL_group_169 rfl (fun H locs hw => ?_)
      refine nmv_e hf (fun kk => ∀ (H : Heap) (locs : List Loc), HW (LW ex) X M_11 s H locs → W p l e rm_L_group s m args below meth c H locs 0 0 Q (F0 m 181 ls [.int kk, .int (M_11 a2 ((3 * x9_6) + 2).toNatClampNeg), .int ((3 * x9_6) + 2), .ref (X.2.2 a2)])) (fun J => ?_) (fun v_15 hf H locs hw => ?_)
      · refine lv_if_eq (tgt := 180) hx hb dL_group_172 (by decide) (fun c_14 => ?_) (fun c_14 => ?_)
        · rw [if_pos (show (f_L_isNumber r_4) = 0 from c_14)] at J
          refine lv_iconst (v := 0) hx hb dL_group_180 (by decide) ?_
          exact J _ _ hw
        · rw [if_neg (show ¬ ((f_L_isNumber r_4) = 0) from c_14)] at J
          refine lv_iload hx hb dL_group_175 (lv_at hl 1 rfl) ?_
          refine lv_goto (tgt := 181) hx hb dL_group_177 (by decide) ?_
          exact J _ _ hw
      · refine lv_iadd hx hb dL_group_181 ?_
        refine w_iast B hw (i := a2) ha2 g_12 dL_group_182 hf (fun M_16 H locs hw hf => ?_)
        refine lv_iload hx hb dL_group_183 (lv_at hl 3 rfl) ?_
        cases hf
        subst hQ
        exact q_iret B hr hlk hw rfl rfl dL_group_185
    refine jn_e hf (fun kk => ∀ (_ : Unit) (H : Heap) (locs : List Loc) (ls : Array Slot), HW (LW ex) X M s H locs → lv_has ls 12 [(2, .ref (X.2.2 a2)), (6, .int p6), (7, .int r_2), (8, .int r_4), (9, .int x9_6), (10, .int p6)] → kk () = some rs → W p l e rm_L_group s m args below meth c H locs 0 0 Q (F0 m 82 ls [])) ?_ (fun k82_17 J82_17 hf => ?_)
    · intro _ H locs ls hw hl hf
      refine lv_iconst (v := 3) hx hb dL_group_82 (by decide) ?_
      refine lv_iload hx hb dL_group_83 (lv_at hl 1 rfl) ?_
      refine lv_imul hx hb dL_group_85 ?_
      refine lv_iconst (v := 2) hx hb dL_group_86 (by decide) ?_
      refine lv_iadd hx hb dL_group_87 ?_
      refine r_topn hf (fun x11_18 hf => ?_)
      refine lv_istore (lv' := [(11, .int x11_18), (2, .ref (X.2.2 a2)), (6, .int p6), (7, .int r_2), (8, .int r_4), (9, .int x9_6), (10, .int p6)]) hx hb dL_group_88 hl (by decide) rfl (fun ls hl => ?_)
      refine jn_e hf (fun kk => ∀ (M_20 : Mem) (H : Heap) (locs : List Loc) (ls : Array Slot), HW (LW ex) X M_20 s H locs → lv_has ls 12 [(2, .ref (X.2.2 a2)), (7, .int r_2), (8, .int r_4), (9, .int x9_6), (10, .int p6)] → kk M_20 = some rs → W p l e rm_L_group s m args below meth c H locs 0 0 Q (F0 m 117 ls [])) ?_ (fun k117_19 J117_19 hf => ?_)
      · intro M_20 H locs ls hw hl hf
        refine lv_aload_n hx hb dL_group_117 rfl (lv_at hl 0 rfl) ?_
        refine lv_iconst (v := 3) hx hb dL_group_118 (by decide) ?_
        refine lv_iload hx hb dL_group_119 (lv_at hl 3 rfl) ?_
        refine lv_imul hx hb dL_group_121 ?_
        refine lv_iload hx hb dL_group_122 (lv_at hl 1 rfl) ?_
        obtain ⟨g_21, hf⟩ := grd_e hf
        refine w_iast B hw (i := a2) ha2 g_21 dL_group_124 hf (fun M_22 H locs hw hf => ?_)
        refine lv_aload_n hx hb dL_group_125 rfl (lv_at hl 0 rfl) ?_
        refine lv_iconst (v := 3) hx hb dL_group_126 (by decide) ?_
        refine lv_iload hx hb dL_group_127 (lv_at hl 3 rfl) ?_
        refine lv_imul hx hb dL_group_129 ?_
        refine lv_iconst (v := 1) hx hb dL_group_130 (by decide) ?_
        refine lv_iadd hx hb dL_group_131 ?_
        refine lv_iconst (v := 0) hx hb dL_group_132 (by decide) ?_
        obtain ⟨g_23, hf⟩ := grd_e hf
        refine w_iast B hw (i := a2) ha2 g_23 dL_group_133 hf (fun M_24 H locs hw hf => ?_)
        refine lv_aload_n hx hb dL_group_134 rfl (lv_at hl 0 rfl) ?_
        refine lv_iconst (v := 3) hx hb dL_group_135 (by decide) ?_
        refine lv_iload hx hb dL_group_136 (lv_at hl 3 rfl) ?_
        refine lv_imul hx hb dL_group_138 ?_
        refine lv_iconst (v := 2) hx hb dL_group_139 (by decide) ?_
        refine lv_iadd hx hb dL_group_140 ?_
        refine lv_iconst (v := 0) hx hb dL_group_141 (by decide) ?_
        obtain ⟨g_25, hf⟩ := grd_e hf
        refine w_iast B hw (i := a2) ha2 g_25 dL_group_142 hf (fun M_26 H locs hw hf => ?_)
        refine r_iinc (v := (p6 + 1)) hx hb dL_group_143 hl (k := 4) rfl rfl (by decide) hf (fun x10_27 ls hl hf => ?_)
        have hl : lv_has ls 12 [(10, .int x10_27), (2, .ref (X.2.2 a2)), (7, .int r_2), (8, .int r_4), (9, .int x9_6)] := hl
        exact J146_7 x10_27 M_26 _ _ _ hw (lv_sub hl [1, 3, 4, 0] rfl) hf
      have hL_90 : ∀ (n_90 : Nat) (x11_28 : Int32) (M_29 : Mem) (H : Heap) (locs : List Loc) (ls : Array Slot), HW (LW ex) X M_29 s H locs → lv_has ls 12 [(2, .ref (X.2.2 a2)), (7, .int r_2), (8, .int r_4), (9, .int x9_6), (10, .int p6), (11, .int x11_28)] → f_L_group_L90 fu a2 x9_6 k117_19 n_90 x11_28 M_29 = some rs → W p l e rm_L_group s m args below meth c H locs 0 0 Q (F0 m 90 ls []) := by
        intro n_90
        induction n_90 with
        | zero => intro x11_28 M_29 H locs ls hw hl hf; exact no_none hf
        | succ n_90 ih_90 =>
          intro x11_28 M_29 H locs ls hw hl hf
          rw [f_L_group_L90] at hf
          refine lv_iload hx hb dL_group_90 (lv_at hl 5 rfl) ?_
          refine lv_iconst (v := 3) hx hb dL_group_92 (by decide) ?_
          refine lv_iload hx hb dL_group_93 (lv_at hl 3 rfl) ?_
          refine lv_imul hx hb dL_group_95 ?_
          refine lv_iconst (v := 2) hx hb dL_group_96 (by decide) ?_
          refine lv_iadd hx hb dL_group_97 ?_
          refine lv_icmp_le (tgt := 117) hx hb dL_group_98 (by decide) (fun c_30 => ?_) (fun c_30 => ?_)
          · have hf := it_e hf c_30
            exact J117_19 M_29 _ _ _ hw (lv_sub hl [0, 1, 2, 3, 4] rfl) hf
          · have hf := ie_e hf c_30
            refine lv_aload_n hx hb dL_group_101 rfl (lv_at hl 0 rfl) ?_
            refine lv_iload hx hb dL_group_102 (lv_at hl 5 rfl) ?_
            refine lv_aload_n hx hb dL_group_104 rfl (lv_at hl 0 rfl) ?_
            refine lv_iload hx hb dL_group_105 (lv_at hl 5 rfl) ?_
            refine lv_iconst (v := 3) hx hb dL_group_107 (by decide) ?_
            refine lv_isub hx hb dL_group_108 ?_
            obtain ⟨g_31, hf⟩ := grd_e hf
            refine w_iald B hw (i := a2) ha2 g_31 dL_group_109 ?_
            obtain ⟨g_32, hf⟩ := grd_e hf
            refine w_iast B hw (i := a2) ha2 g_32 dL_group_110 hf (fun M_33 H locs hw hf => ?_)
            refine r_iinc (v := (x11_28 + (-1))) hx hb dL_group_111 hl (k := 5) rfl rfl (by decide) hf (fun x11_34 ls hl hf => ?_)
            have hl : lv_has ls 12 [(11, .int x11_34), (2, .ref (X.2.2 a2)), (7, .int r_2), (8, .int r_4), (9, .int x9_6), (10, .int p6)] := hl
            refine lv_goto (tgt := 90) hx hb dL_group_114 (by decide) ?_
            exact ih_90 x11_34 M_33 _ _ _ hw (lv_sub hl [1, 2, 3, 4, 5, 0] rfl) hf
      exact hL_90 fu x11_18 M _ _ _ hw (lv_sub hl [1, 3, 4, 5, 6, 0] rfl) hf
    refine lv_icmp_eq (tgt := 82) hx hb dL_group_68 (by decide) (fun c_35 => ?_) (fun c_35 => ?_)
    · have hf := it_e hf c_35
      exact J82_17 () _ _ _ hw (lv_sub hl [1, 2, 3, 4, 5, 0] rfl) hf
    · have hf := ie_e hf c_35
      refine lv_aload_n hx hb dL_group_71 rfl (lv_at hl 1 rfl) ?_
      refine lv_iconst (v := 3) hx hb dL_group_72 (by decide) ?_
      refine lv_iload hx hb dL_group_73 (lv_at hl 5 rfl) ?_
      refine lv_imul hx hb dL_group_75 ?_
      obtain ⟨g_36, hf⟩ := grd_e hf
      refine w_iald B hw (i := a2) ha2 g_36 dL_group_76 ?_
      refine lv_iload hx hb dL_group_77 (lv_at hl 3 rfl) ?_
      refine lv_icmp_eq (tgt := 146) hx hb dL_group_79 (by decide) (fun c_37 => ?_) (fun c_37 => ?_)
      · have hf := it_e hf c_37
        exact J146_7 p6 M _ _ _ hw (lv_sub hl [1, 4, 5, 0] rfl) hf
      · have hf := ie_e hf c_37
        exact J82_17 () _ _ _ hw (lv_sub hl [1, 2, 3, 4, 5, 0] rfl) hf
  have hL_33 : ∀ (n_33 : Nat) (x9_38 : Int32) (H : Heap) (locs : List Loc) (ls : Array Slot), HW (LW ex) X M s H locs → lv_has ls 12 [(2, .ref (X.2.2 a2)), (6, .int p6), (7, .int r_2), (8, .int r_4), (9, .int x9_38)] → f_L_group_L33 fu a2 p6 M r_2 k60_5 n_33 x9_38 = some rs → W p l e rm_L_group s m args below meth c H locs 0 0 Q (F0 m 33 ls []) := by
    intro n_33
    induction n_33 with
    | zero => intro x9_38 H locs ls hw hl hf; exact no_none hf
    | succ n_33 ih_33 =>
      intro x9_38 H locs ls hw hl hf
      rw [f_L_group_L33] at hf
      refine lv_iload hx hb dL_group_33 (lv_at hl 4 rfl) ?_
      refine lv_iload hx hb dL_group_35 (lv_at hl 1 rfl) ?_
      refine lv_icmp_ge (tgt := 60) hx hb dL_group_37 (by decide) (fun c_39 => ?_) (fun c_39 => ?_)
      · have hf := it_e hf c_39
        exact J60_5 x9_38 _ _ _ hw (lv_sub hl [0, 1, 2, 3, 4] rfl) hf
      · have hf := ie_e hf c_39
        refine lv_aload_n hx hb dL_group_40 rfl (lv_at hl 0 rfl) ?_
        refine lv_iconst (v := 3) hx hb dL_group_41 (by decide) ?_
        refine lv_iload hx hb dL_group_42 (lv_at hl 4 rfl) ?_
        refine lv_imul hx hb dL_group_44 ?_
        obtain ⟨g_40, hf⟩ := grd_e hf
        refine w_iald B hw (i := a2) ha2 g_40 dL_group_45 ?_
        refine lv_iload hx hb dL_group_46 (lv_at hl 2 rfl) ?_
        refine q_callSi (M' := M) (As := [.int (M a2 (3 * x9_38).toNatClampNeg), .int r_2]) (rest := []) B hw (c_L_isAhead l _ X (M a2 (3 * x9_38).toNatClampNeg) r_2 _ rfl M _) cs_L_287 rfl hl.1 rfl rfl ⟨(Nat.le_of_ble_eq_true rfl), (Nat.le_of_ble_eq_true rfl)⟩ (Nat.le_of_ble_eq_true rfl) ⟨(Nat.le_of_ble_eq_true rfl), (Nat.le_of_ble_eq_true rfl)⟩ dL_group_48 rfl (fun H locs hw => ?_)
        refine lv_if_eq (tgt := 60) hx hb dL_group_51 (by decide) (fun c_42 => ?_) (fun c_42 => ?_)
        · have hf := it_e hf c_42
          exact J60_5 x9_38 _ _ _ hw (lv_sub hl [0, 1, 2, 3, 4] rfl) hf
        · have hf := ie_e hf c_42
          refine r_iinc (v := (x9_38 + 1)) hx hb dL_group_54 hl (k := 4) rfl rfl (by decide) hf (fun x9_43 ls hl hf => ?_)
          have hl : lv_has ls 12 [(9, .int x9_43), (2, .ref (X.2.2 a2)), (6, .int p6), (7, .int r_2), (8, .int r_4)] := hl
          refine lv_goto (tgt := 33) hx hb dL_group_57 (by decide) ?_
          exact ih_33 x9_43 _ _ _ hw (lv_sub hl [1, 2, 3, 4, 0] rfl) hf
  exact hL_33 fu 0 _ _ _ hw (lv_sub hl [5, 9, 2, 1, 0] rfl) hf
abbrev rm_L_match : Room := { frames := 4, cells := 0, slots := 0, locals := 105 }
set_option maxRecDepth 100000 in
set_option maxHeartbeats 8000000 in
theorem c_L_match (l : Launch) (ex : List (Nat × Nat)) (X : XT) (fu : Nat) (a1 : Nat) (a2 : Nat) (a3 : Nat) (M : Mem) (ha1 : kW ex a1 = (24, 30)) (ha2 : kW ex a2 = (20, 3)) (ha3 : kW ex a3 = (20, 60)) (rs : (Int32 × Mem)) (hf : f_L_match fu a1 a2 a3 M = some rs) (sz : Nat) : Met l yL_match (wbig yL_match cL_match 9 (some .int)) rm_L_match (va_Pc [.ref (X.2.2 146), .ref (X.2.2 a1), .ref (X.2.2 a2), .ref (X.2.2 a3)] (PW (LW ex) X M sz)) (QI (LW ex) X rs.2 rs.1 sz) 0 0 (AX (LW ex) X sz) := by
  refine met_go (L := (LW ex)) (M := M) (by decide +kernel) (Nat.le_of_ble_eq_true rfl) ?_
  intro p e s m args below meth c hsz B hr hlk hw ls hl
  subst hsz
  have hx := B.hx
  have hb := B.hb
  have hl : lv_has ls 9 [(0, .ref (X.2.2 146)), (1, .ref (X.2.2 a1)), (2, .ref (X.2.2 a2)), (3, .ref (X.2.2 a3))] := hl
  generalize hQ : MQ below _ args s 0 0 (AX (LW ex) X s.heap.size) = Q
  unfold f_L_match at hf
  refine lv_iconst (v := 0) hx hb dL_match_0 (by decide) ?_
  refine lv_istore (lv' := [(4, .int 0), (0, .ref (X.2.2 146)), (1, .ref (X.2.2 a1)), (2, .ref (X.2.2 a2)), (3, .ref (X.2.2 a3))]) hx hb dL_match_1 hl (by decide) rfl (fun ls hl => ?_)
  refine lv_iconst (v := 0) hx hb dL_match_3 (by decide) ?_
  refine lv_istore (lv' := [(5, .int 0), (4, .int 0), (0, .ref (X.2.2 146)), (1, .ref (X.2.2 a1)), (2, .ref (X.2.2 a2)), (3, .ref (X.2.2 a3))]) hx hb dL_match_4 hl (by decide) rfl (fun ls hl => ?_)
  refine jn_e hf (fun kk => ∀ (M_2 : Mem) (H : Heap) (locs : List Loc) (ls : Array Slot), HW (LW ex) X M_2 s H locs → lv_has ls 9 [(0, .ref (X.2.2 146)), (1, .ref (X.2.2 a1)), (2, .ref (X.2.2 a2)), (3, .ref (X.2.2 a3)), (4, .int 0)] → kk M_2 = some rs → W p l e rm_L_match s m args below meth c H locs 0 0 Q (F0 m 24 ls [])) ?_ (fun k24_1 J24_1 hf => ?_)
  · intro M_2 H locs ls hw hl hf
    refine lv_iconst (v := 0) hx hb dL_match_24 (by decide) ?_
    refine lv_istore (lv' := [(5, .int 0), (0, .ref (X.2.2 146)), (1, .ref (X.2.2 a1)), (2, .ref (X.2.2 a2)), (3, .ref (X.2.2 a3)), (4, .int 0)]) hx hb dL_match_25 hl (by decide) rfl (fun ls hl => ?_)
    refine jn_e hf (fun kk => ∀ (x4_4 : Int32) (M_5 : Mem) (H : Heap) (locs : List Loc) (ls : Array Slot), HW (LW ex) X M_5 s H locs → lv_has ls 9 [(0, .ref (X.2.2 146)), (4, .int x4_4)] → kk x4_4 M_5 = some rs → W p l e rm_L_match s m args below meth c H locs 0 0 Q (F0 m 255 ls [])) ?_ (fun k255_3 J255_3 hf => ?_)
    · intro x4_4 M_5 H locs ls hw hl hf
      refine lv_aload_n hx hb dL_match_255 rfl (lv_at hl 0 rfl) ?_
      refine lv_iconst (v := 5) hx hb dL_match_256 (by decide) ?_
      refine w_iald B hw (i := 146) (kw146 _) (by decide) dL_match_257 ?_
      refine lv_iconst (v := 1) hx hb dL_match_258 (by decide) ?_
      refine lv_icmp_ne (tgt := 276) hx hb dL_match_259 (by decide) (fun c_6 => ?_) (fun c_6 => ?_)
      · have hf := ie_e hf c_6
        refine lv_iload hx hb dL_match_276 (lv_at hl 1 rfl) ?_
        cases hf
        subst hQ
        exact q_iret B hr hlk hw rfl rfl dL_match_278
      · have hf := it_e hf c_6
        refine lv_iload hx hb dL_match_262 (lv_at hl 1 rfl) ?_
        refine lv_aload_n hx hb dL_match_264 rfl (lv_at hl 0 rfl) ?_
        refine lv_iconst (v := 4) hx hb dL_match_265 (by decide) ?_
        refine w_iald B hw (i := 146) (kw146 _) (by decide) dL_match_266 ?_
        refine lv_icmp_le (tgt := 276) hx hb dL_match_267 (by decide) (fun c_7 => ?_) (fun c_7 => ?_)
        · have hf := it_e hf c_7
          refine lv_iload hx hb dL_match_276 (lv_at hl 1 rfl) ?_
          cases hf
          subst hQ
          exact q_iret B hr hlk hw rfl rfl dL_match_278
        · have hf := ie_e hf c_7
          refine lv_aload_n hx hb dL_match_270 rfl (lv_at hl 0 rfl) ?_
          refine lv_iconst (v := 4) hx hb dL_match_271 (by decide) ?_
          refine w_iald B hw (i := 146) (kw146 _) (by decide) dL_match_272 ?_
          refine lv_goto (tgt := 278) hx hb dL_match_273 (by decide) ?_
          cases hf
          subst hQ
          exact q_iret B hr hlk hw rfl rfl dL_match_278
    have hL_27 : ∀ (n_27 : Nat) (x4_8 : Int32) (x5_9 : Int32) (M_10 : Mem) (H : Heap) (locs : List Loc) (ls : Array Slot), HW (LW ex) X M_10 s H locs → lv_has ls 9 [(0, .ref (X.2.2 146)), (1, .ref (X.2.2 a1)), (2, .ref (X.2.2 a2)), (3, .ref (X.2.2 a3)), (4, .int x4_8), (5, .int x5_9)] → f_L_match_L27 fu a1 a2 a3 k255_3 n_27 x4_8 x5_9 M_10 = some rs → W p l e rm_L_match s m args below meth c H locs 0 0 Q (F0 m 27 ls []) := by
      intro n_27
      induction n_27 with
      | zero => intro x4_8 x5_9 M_10 H locs ls hw hl hf; exact no_none hf
      | succ n_27 ih_27 =>
        intro x4_8 x5_9 M_10 H locs ls hw hl hf
        rw [f_L_match_L27] at hf
        refine lv_iload hx hb dL_match_27 (lv_at hl 5 rfl) ?_
        refine lv_aload_n hx hb dL_match_29 rfl (lv_at hl 2 rfl) ?_
        refine lv_iconst (v := 0) hx hb dL_match_30 (by decide) ?_
        refine w_iald B hw (i := a2) ha2 (by decide) dL_match_31 ?_
        refine lv_icmp_ge (tgt := 255) hx hb dL_match_32 (by decide) (fun c_11 => ?_) (fun c_11 => ?_)
        · have hf := it_e hf c_11
          exact J255_3 x4_8 M_10 _ _ _ hw (lv_sub hl [0, 4] rfl) hf
        · have hf := ie_e hf c_11
          refine lv_aload_n hx hb dL_match_35 rfl (lv_at hl 0 rfl) ?_
          refine lv_iconst (v := 0) hx hb dL_match_36 (by decide) ?_
          refine lv_aload_n hx hb dL_match_37 rfl (lv_at hl 1 rfl) ?_
          refine lv_iload hx hb dL_match_38 (lv_at hl 5 rfl) ?_
          obtain ⟨g_12, hf⟩ := grd_e hf
          refine w_lald B hw (i := a1) ha1 g_12 dL_match_40 ?_
          refine lv_iconst (v := 1) hx hb dL_match_41 (by decide) ?_
          obtain ⟨r_14, h_13, hf⟩ := bd_e hf
          refine q_callSi (M' := M_10) (As := [.ref (X.2.2 146), .int 0, .long (lg (M_10 a1) x5_9.toNatClampNeg), .int 1]) (rest := []) B hw (c_L_hold l _ X fu 0 (lg (M_10 a1) x5_9.toNatClampNeg) 1 M_10 r_14 h_13 _) cs_L_229 rfl hl.1 rfl rfl ⟨(Nat.le_of_ble_eq_true rfl), (Nat.le_of_ble_eq_true rfl)⟩ (Nat.le_of_ble_eq_true rfl) ⟨(Nat.le_of_ble_eq_true rfl), (Nat.le_of_ble_eq_true rfl)⟩ dL_match_42 rfl (fun H locs hw => ?_)
          refine lv_if_ne (tgt := 51) hx hb dL_match_45 (by decide) (fun c_15 => ?_) (fun c_15 => ?_)
          · have hf := ie_e hf c_15
            refine lv_iconst (v := 0) hx hb dL_match_51 (by decide) ?_
            refine lv_istore (lv' := [(6, .int 0), (0, .ref (X.2.2 146)), (1, .ref (X.2.2 a1)), (2, .ref (X.2.2 a2)), (3, .ref (X.2.2 a3)), (4, .int x4_8), (5, .int x5_9)]) hx hb dL_match_52 hl (by decide) rfl (fun ls hl => ?_)
            refine jn_e hf (fun kk => ∀ (x4_17 : Int32) (M_18 : Mem) (H : Heap) (locs : List Loc) (ls : Array Slot), HW (LW ex) X M_18 s H locs → lv_has ls 9 [(0, .ref (X.2.2 146)), (1, .ref (X.2.2 a1)), (2, .ref (X.2.2 a2)), (3, .ref (X.2.2 a3)), (4, .int x4_17), (5, .int x5_9)] → kk x4_17 M_18 = some rs → W p l e rm_L_match s m args below meth c H locs 0 0 Q (F0 m 249 ls [])) ?_ (fun k249_16 J249_16 hf => ?_)
            · intro x4_17 M_18 H locs ls hw hl hf
              refine r_iinc (v := (x5_9 + 1)) hx hb dL_match_249 hl (k := 5) rfl rfl (by decide) hf (fun x5_19 ls hl hf => ?_)
              have hl : lv_has ls 9 [(5, .int x5_19), (0, .ref (X.2.2 146)), (1, .ref (X.2.2 a1)), (2, .ref (X.2.2 a2)), (3, .ref (X.2.2 a3)), (4, .int x4_17)] := hl
              refine lv_goto (tgt := 27) hx hb dL_match_252 (by decide) ?_
              exact ih_27 x4_17 x5_19 M_18 _ _ _ hw (lv_sub hl [1, 2, 3, 4, 5, 0] rfl) hf
            have hL_54 : ∀ (n_54 : Nat) (x4_20 : Int32) (x6_21 : Int32) (M_22 : Mem) (H : Heap) (locs : List Loc) (ls : Array Slot), HW (LW ex) X M_22 s H locs → lv_has ls 9 [(0, .ref (X.2.2 146)), (1, .ref (X.2.2 a1)), (2, .ref (X.2.2 a2)), (3, .ref (X.2.2 a3)), (4, .int x4_20), (5, .int x5_9), (6, .int x6_21)] → f_L_match_L54 fu a1 a2 a3 x5_9 k249_16 n_54 x4_20 x6_21 M_22 = some rs → W p l e rm_L_match s m args below meth c H locs 0 0 Q (F0 m 54 ls []) := by
              intro n_54
              induction n_54 with
              | zero => intro x4_20 x6_21 M_22 H locs ls hw hl hf; exact no_none hf
              | succ n_54 ih_54 =>
                intro x4_20 x6_21 M_22 H locs ls hw hl hf
                rw [f_L_match_L54] at hf
                refine lv_iload hx hb dL_match_54 (lv_at hl 6 rfl) ?_
                refine lv_aload_n hx hb dL_match_56 rfl (lv_at hl 0 rfl) ?_
                refine lv_iconst (v := 0) hx hb dL_match_57 (by decide) ?_
                refine w_iald B hw (i := 146) (kw146 _) (by decide) dL_match_58 ?_
                refine lv_iconst (v := 1) hx hb dL_match_59 (by decide) ?_
                refine nmv_e hf (fun kk => ∀ (H : Heap) (locs : List Loc), HW (LW ex) X M_22 s H locs → W p l e rm_L_match s m args below meth c H locs 0 0 Q (F0 m 70 ls [.int kk, .int x6_21])) (fun J => ?_) (fun v_24 hf H locs hw => ?_)
                · refine lv_icmp_le (tgt := 69) hx hb dL_match_60 (by decide) (fun c_23 => ?_) (fun c_23 => ?_)
                  · rw [if_pos (show (M_22 146 0) ≤ 1 from c_23)] at J
                    refine lv_iconst (v := 1) hx hb dL_match_69 (by decide) ?_
                    exact J _ _ hw
                  · rw [if_neg (show ¬ ((M_22 146 0) ≤ 1) from c_23)] at J
                    refine lv_aload_n hx hb dL_match_63 rfl (lv_at hl 2 rfl) ?_
                    refine lv_iconst (v := 1) hx hb dL_match_64 (by decide) ?_
                    refine w_iald B hw (i := a2) ha2 (by decide) dL_match_65 ?_
                    refine lv_goto (tgt := 70) hx hb dL_match_66 (by decide) ?_
                    exact J _ _ hw
                · refine lv_icmp_ge (tgt := 249) hx hb dL_match_70 (by decide) (fun c_25 => ?_) (fun c_25 => ?_)
                  · have hf := it_e hf c_25
                    exact J249_16 x4_20 M_22 _ _ _ hw (lv_sub hl [0, 1, 2, 3, 4, 5] rfl) hf
                  · have hf := ie_e hf c_25
                    refine lv_aload_n hx hb dL_match_73 rfl (lv_at hl 0 rfl) ?_
                    refine lv_iconst (v := 0) hx hb dL_match_74 (by decide) ?_
                    refine w_iald B hw (i := 146) (kw146 _) (by decide) dL_match_75 ?_
                    refine lv_iconst (v := 1) hx hb dL_match_76 (by decide) ?_
                    refine jn_e hf (fun kk => ∀ (_ : Unit) (H : Heap) (locs : List Loc) (ls : Array Slot), HW (LW ex) X M_22 s H locs → lv_has ls 9 [(0, .ref (X.2.2 146)), (1, .ref (X.2.2 a1)), (2, .ref (X.2.2 a2)), (3, .ref (X.2.2 a3)), (4, .int x4_20), (5, .int x5_9), (6, .int x6_21)] → kk () = some rs → W p l e rm_L_match s m args below meth c H locs 0 0 Q (F0 m 99 ls [])) ?_ (fun k99_26 J99_26 hf => ?_)
                    · intro _ H locs ls hw hl hf
                      refine lv_iconst (v := 0) hx hb dL_match_99 (by decide) ?_
                      refine lv_istore (lv' := [(7, .int 0), (0, .ref (X.2.2 146)), (1, .ref (X.2.2 a1)), (2, .ref (X.2.2 a2)), (3, .ref (X.2.2 a3)), (4, .int x4_20), (5, .int x5_9), (6, .int x6_21)]) hx hb dL_match_100 hl (by decide) rfl (fun ls hl => ?_)
                      refine jn_e hf (fun kk => ∀ (x4_28 : Int32) (M_29 : Mem) (H : Heap) (locs : List Loc) (ls : Array Slot), HW (LW ex) X M_29 s H locs → lv_has ls 9 [(0, .ref (X.2.2 146)), (1, .ref (X.2.2 a1)), (2, .ref (X.2.2 a2)), (3, .ref (X.2.2 a3)), (4, .int x4_28), (5, .int x5_9), (6, .int x6_21)] → kk x4_28 M_29 = some rs → W p l e rm_L_match s m args below meth c H locs 0 0 Q (F0 m 243 ls [])) ?_ (fun k243_27 J243_27 hf => ?_)
                      · intro x4_28 M_29 H locs ls hw hl hf
                        refine r_iinc (v := (x6_21 + 1)) hx hb dL_match_243 hl (k := 6) rfl rfl (by decide) hf (fun x6_30 ls hl hf => ?_)
                        have hl : lv_has ls 9 [(6, .int x6_30), (0, .ref (X.2.2 146)), (1, .ref (X.2.2 a1)), (2, .ref (X.2.2 a2)), (3, .ref (X.2.2 a3)), (4, .int x4_28), (5, .int x5_9)] := hl
                        refine lv_goto (tgt := 54) hx hb dL_match_246 (by decide) ?_
                        exact ih_54 x4_28 x6_30 M_29 _ _ _ hw (lv_sub hl [1, 2, 3, 4, 5, 6, 0] rfl) hf
                      have hL_102 : ∀ (n_102 : Nat) (x4_31 : Int32) (x7_32 : Int32) (M_33 : Mem) (H : Heap) (locs : List Loc) (ls : Array Slot), HW (LW ex) X M_33 s H locs → lv_has ls 9 [(0, .ref (X.2.2 146)), (1, .ref (X.2.2 a1)), (2, .ref (X.2.2 a2)), (3, .ref (X.2.2 a3)), (4, .int x4_31), (5, .int x5_9), (6, .int x6_21), (7, .int x7_32)] → f_L_match_L102 fu a1 a2 a3 x5_9 x6_21 k243_27 n_102 x4_31 x7_32 M_33 = some rs → W p l e rm_L_match s m args below meth c H locs 0 0 Q (F0 m 102 ls []) := by
                        intro n_102
                        induction n_102 with
                        | zero => intro x4_31 x7_32 M_33 H locs ls hw hl hf; exact no_none hf
                        | succ n_102 ih_102 =>
                          intro x4_31 x7_32 M_33 H locs ls hw hl hf
                          rw [f_L_match_L102] at hf
                          refine lv_iload hx hb dL_match_102 (lv_at hl 7 rfl) ?_
                          refine lv_aload_n hx hb dL_match_104 rfl (lv_at hl 0 rfl) ?_
                          refine lv_iconst (v := 0) hx hb dL_match_105 (by decide) ?_
                          refine w_iald B hw (i := 146) (kw146 _) (by decide) dL_match_106 ?_
                          refine lv_iconst (v := 2) hx hb dL_match_107 (by decide) ?_
                          refine nmv_e hf (fun kk => ∀ (H : Heap) (locs : List Loc), HW (LW ex) X M_33 s H locs → W p l e rm_L_match s m args below meth c H locs 0 0 Q (F0 m 118 ls [.int kk, .int x7_32])) (fun J => ?_) (fun v_35 hf H locs hw => ?_)
                          · refine lv_icmp_le (tgt := 117) hx hb dL_match_108 (by decide) (fun c_34 => ?_) (fun c_34 => ?_)
                            · rw [if_pos (show (M_33 146 0) ≤ 2 from c_34)] at J
                              refine lv_iconst (v := 1) hx hb dL_match_117 (by decide) ?_
                              exact J _ _ hw
                            · rw [if_neg (show ¬ ((M_33 146 0) ≤ 2) from c_34)] at J
                              refine lv_aload_n hx hb dL_match_111 rfl (lv_at hl 2 rfl) ?_
                              refine lv_iconst (v := 2) hx hb dL_match_112 (by decide) ?_
                              refine w_iald B hw (i := a2) ha2 (by decide) dL_match_113 ?_
                              refine lv_goto (tgt := 118) hx hb dL_match_114 (by decide) ?_
                              exact J _ _ hw
                          · refine lv_icmp_ge (tgt := 243) hx hb dL_match_118 (by decide) (fun c_36 => ?_) (fun c_36 => ?_)
                            · have hf := it_e hf c_36
                              exact J243_27 x4_31 M_33 _ _ _ hw (lv_sub hl [0, 1, 2, 3, 4, 5, 6] rfl) hf
                            · have hf := ie_e hf c_36
                              refine lv_aload_n hx hb dL_match_121 rfl (lv_at hl 0 rfl) ?_
                              refine lv_iconst (v := 0) hx hb dL_match_122 (by decide) ?_
                              refine w_iald B hw (i := 146) (kw146 _) (by decide) dL_match_123 ?_
                              refine lv_iconst (v := 2) hx hb dL_match_124 (by decide) ?_
                              refine jn_e hf (fun kk => ∀ (_ : Unit) (H : Heap) (locs : List Loc) (ls : Array Slot), HW (LW ex) X M_33 s H locs → lv_has ls 9 [(0, .ref (X.2.2 146)), (1, .ref (X.2.2 a1)), (2, .ref (X.2.2 a2)), (3, .ref (X.2.2 a3)), (4, .int x4_31), (5, .int x5_9), (6, .int x6_21), (7, .int x7_32)] → kk () = some rs → W p l e rm_L_match s m args below meth c H locs 0 0 Q (F0 m 144 ls [])) ?_ (fun k144_37 J144_37 hf => ?_)
                              · intro _ H locs ls hw hl hf
                                refine lv_aload_n hx hb dL_match_144 rfl (lv_at hl 0 rfl) ?_
                                refine lv_aload_n hx hb dL_match_145 rfl (lv_at hl 1 rfl) ?_
                                refine lv_iload hx hb dL_match_146 (lv_at hl 5 rfl) ?_
                                refine lv_iload hx hb dL_match_148 (lv_at hl 6 rfl) ?_
                                refine lv_iload hx hb dL_match_150 (lv_at hl 7 rfl) ?_
                                obtain ⟨r_39, h_38, hf⟩ := bd_e hf
                                refine q_callSi (M' := M_33) (As := [.ref (X.2.2 146), .ref (X.2.2 a1), .int x5_9, .int x6_21, .int x7_32]) (rest := []) B hw (c_L_linked l _ X fu a1 x5_9 x6_21 x7_32 M_33 ha1 r_39 h_38 _) cs_L_271 rfl hl.1 rfl rfl ⟨(Nat.le_of_ble_eq_true rfl), (Nat.le_of_ble_eq_true rfl)⟩ (Nat.le_of_ble_eq_true rfl) ⟨(Nat.le_of_ble_eq_true rfl), (Nat.le_of_ble_eq_true rfl)⟩ dL_match_152 rfl (fun H locs hw => ?_)
                                refine lv_if_ne (tgt := 161) hx hb dL_match_155 (by decide) (fun c_40 => ?_) (fun c_40 => ?_)
                                · have hf := ie_e hf c_40
                                  refine lv_aload_n hx hb dL_match_161 rfl (lv_at hl 0 rfl) ?_
                                  refine lv_iconst (v := 5) hx hb dL_match_162 (by decide) ?_
                                  refine w_iald B hw (i := 146) (kw146 _) (by decide) dL_match_163 ?_
                                  refine lv_iconst (v := 1) hx hb dL_match_164 (by decide) ?_
                                  refine lv_icmp_ne (tgt := 187) hx hb dL_match_165 (by decide) (fun c_41 => ?_) (fun c_41 => ?_)
                                  · have hf := ie_e hf c_41
                                    refine lv_iload hx hb dL_match_187 (lv_at hl 4 rfl) ?_
                                    refine lv_aload_n hx hb dL_match_189 rfl (lv_at hl 0 rfl) ?_
                                    refine lv_iconst (v := 4) hx hb dL_match_190 (by decide) ?_
                                    refine w_iald B hw (i := 146) (kw146 _) (by decide) dL_match_191 ?_
                                    refine lv_icmp_ge (tgt := 237) hx hb dL_match_192 (by decide) (fun c_42 => ?_) (fun c_42 => ?_)
                                    · have hf := it_e hf c_42
                                      refine r_iinc (v := (x7_32 + 1)) hx hb dL_match_237 hl (k := 7) rfl rfl (by decide) hf (fun x7_43 ls hl hf => ?_)
                                      have hl : lv_has ls 9 [(7, .int x7_43), (0, .ref (X.2.2 146)), (1, .ref (X.2.2 a1)), (2, .ref (X.2.2 a2)), (3, .ref (X.2.2 a3)), (4, .int x4_31), (5, .int x5_9), (6, .int x6_21)] := hl
                                      refine lv_goto (tgt := 102) hx hb dL_match_240 (by decide) ?_
                                      exact ih_102 x4_31 x7_43 M_33 _ _ _ hw (lv_sub hl [1, 2, 3, 4, 5, 6, 7, 0] rfl) hf
                                    · have hf := ie_e hf c_42
                                      refine lv_iconst (v := 0) hx hb dL_match_195 (by decide) ?_
                                      refine lv_istore (lv' := [(8, .int 0), (0, .ref (X.2.2 146)), (1, .ref (X.2.2 a1)), (2, .ref (X.2.2 a2)), (3, .ref (X.2.2 a3)), (4, .int x4_31), (5, .int x5_9), (6, .int x6_21), (7, .int x7_32)]) hx hb dL_match_196 hl (by decide) rfl (fun ls hl => ?_)
                                      refine jn_e hf (fun kk => ∀ (M_45 : Mem) (H : Heap) (locs : List Loc) (ls : Array Slot), HW (LW ex) X M_45 s H locs → lv_has ls 9 [(0, .ref (X.2.2 146)), (1, .ref (X.2.2 a1)), (2, .ref (X.2.2 a2)), (3, .ref (X.2.2 a3)), (4, .int x4_31), (5, .int x5_9), (6, .int x6_21), (7, .int x7_32)] → kk M_45 = some rs → W p l e rm_L_match s m args below meth c H locs 0 0 Q (F0 m 234 ls [])) ?_ (fun k234_44 J234_44 hf => ?_)
                                      · intro M_45 H locs ls hw hl hf
                                        refine r_iinc (v := (x4_31 + 1)) hx hb dL_match_234 hl (k := 4) rfl rfl (by decide) hf (fun x4_46 ls hl hf => ?_)
                                        have hl : lv_has ls 9 [(4, .int x4_46), (0, .ref (X.2.2 146)), (1, .ref (X.2.2 a1)), (2, .ref (X.2.2 a2)), (3, .ref (X.2.2 a3)), (5, .int x5_9), (6, .int x6_21), (7, .int x7_32)] := hl
                                        refine r_iinc (v := (x7_32 + 1)) hx hb dL_match_237 hl (k := 7) rfl rfl (by decide) hf (fun x7_47 ls hl hf => ?_)
                                        have hl : lv_has ls 9 [(7, .int x7_47), (4, .int x4_46), (0, .ref (X.2.2 146)), (1, .ref (X.2.2 a1)), (2, .ref (X.2.2 a2)), (3, .ref (X.2.2 a3)), (5, .int x5_9), (6, .int x6_21)] := hl
                                        refine lv_goto (tgt := 102) hx hb dL_match_240 (by decide) ?_
                                        exact ih_102 x4_46 x7_47 M_45 _ _ _ hw (lv_sub hl [2, 3, 4, 5, 1, 6, 7, 0] rfl) hf
                                      have hL_198 : ∀ (n_198 : Nat) (x8_48 : Int32) (M_49 : Mem) (H : Heap) (locs : List Loc) (ls : Array Slot), HW (LW ex) X M_49 s H locs → lv_has ls 9 [(0, .ref (X.2.2 146)), (1, .ref (X.2.2 a1)), (2, .ref (X.2.2 a2)), (3, .ref (X.2.2 a3)), (4, .int x4_31), (5, .int x5_9), (6, .int x6_21), (7, .int x7_32), (8, .int x8_48)] → f_L_match_L198 fu a1 a3 x5_9 x6_21 x4_31 x7_32 k234_44 n_198 x8_48 M_49 = some rs → W p l e rm_L_match s m args below meth c H locs 0 0 Q (F0 m 198 ls []) := by
                                        intro n_198
                                        induction n_198 with
                                        | zero => intro x8_48 M_49 H locs ls hw hl hf; exact no_none hf
                                        | succ n_198 ih_198 =>
                                          intro x8_48 M_49 H locs ls hw hl hf
                                          rw [f_L_match_L198] at hf
                                          refine lv_iload hx hb dL_match_198 (lv_at hl 8 rfl) ?_
                                          refine lv_aload_n hx hb dL_match_200 rfl (lv_at hl 0 rfl) ?_
                                          refine lv_iconst (v := 3) hx hb dL_match_201 (by decide) ?_
                                          refine w_iald B hw (i := 146) (kw146 _) (by decide) dL_match_202 ?_
                                          refine lv_icmp_ge (tgt := 234) hx hb dL_match_203 (by decide) (fun c_50 => ?_) (fun c_50 => ?_)
                                          · have hf := it_e hf c_50
                                            exact J234_44 M_49 _ _ _ hw (lv_sub hl [0, 1, 2, 3, 4, 5, 6, 7] rfl) hf
                                          · have hf := ie_e hf c_50
                                            refine lv_aload_n hx hb dL_match_206 rfl (lv_at hl 3 rfl) ?_
                                            refine lv_iconst (v := 3) hx hb dL_match_207 (by decide) ?_
                                            refine lv_iload hx hb dL_match_208 (lv_at hl 4 rfl) ?_
                                            refine lv_imul hx hb dL_match_210 ?_
                                            refine lv_iload hx hb dL_match_211 (lv_at hl 8 rfl) ?_
                                            refine lv_iadd hx hb dL_match_213 ?_
                                            refine lv_aload_n hx hb dL_match_214 rfl (lv_at hl 0 rfl) ?_
                                            refine lv_aload_n hx hb dL_match_215 rfl (lv_at hl 1 rfl) ?_
                                            refine lv_iload hx hb dL_match_216 (lv_at hl 8 rfl) ?_
                                            refine lv_iload hx hb dL_match_218 (lv_at hl 5 rfl) ?_
                                            refine lv_iload hx hb dL_match_220 (lv_at hl 6 rfl) ?_
                                            refine lv_iload hx hb dL_match_222 (lv_at hl 7 rfl) ?_
                                            obtain ⟨r_52, h_51, hf⟩ := bd_e hf
                                            refine q_callSi (M' := M_49) (As := [.ref (X.2.2 146), .ref (X.2.2 a1), .int x8_48, .int x5_9, .int x6_21, .int x7_32]) (rest := [.int ((3 * x4_31) + x8_48), .ref (X.2.2 a3)]) B hw (c_L_outOf l _ X fu a1 x8_48 x5_9 x6_21 x7_32 M_49 ha1 r_52 h_51 _) cs_L_279 rfl hl.1 rfl rfl ⟨(Nat.le_of_ble_eq_true rfl), (Nat.le_of_ble_eq_true rfl)⟩ (Nat.le_of_ble_eq_true rfl) ⟨(Nat.le_of_ble_eq_true rfl), (Nat.le_of_ble_eq_true rfl)⟩ dL_match_224 rfl (fun H locs hw => ?_)
                                            obtain ⟨g_53, hf⟩ := grd_e hf
                                            refine w_iast B hw (i := a3) ha3 g_53 dL_match_227 hf (fun M_54 H locs hw hf => ?_)
                                            refine r_iinc (v := (x8_48 + 1)) hx hb dL_match_228 hl (k := 8) rfl rfl (by decide) hf (fun x8_55 ls hl hf => ?_)
                                            have hl : lv_has ls 9 [(8, .int x8_55), (0, .ref (X.2.2 146)), (1, .ref (X.2.2 a1)), (2, .ref (X.2.2 a2)), (3, .ref (X.2.2 a3)), (4, .int x4_31), (5, .int x5_9), (6, .int x6_21), (7, .int x7_32)] := hl
                                            refine lv_goto (tgt := 198) hx hb dL_match_231 (by decide) ?_
                                            exact ih_198 x8_55 M_54 _ _ _ hw (lv_sub hl [1, 2, 3, 4, 5, 6, 7, 8, 0] rfl) hf
                                      exact hL_198 fu 0 M_33 _ _ _ hw (lv_sub hl [1, 2, 3, 4, 5, 6, 7, 8, 0] rfl) hf
                                  · have hf := it_e hf c_41
                                    refine lv_aload_n hx hb dL_match_168 rfl (lv_at hl 0 rfl) ?_
                                    refine lv_aload_n hx hb dL_match_169 rfl (lv_at hl 1 rfl) ?_
                                    refine lv_aload_n hx hb dL_match_170 rfl (lv_at hl 3 rfl) ?_
                                    refine lv_iload hx hb dL_match_171 (lv_at hl 5 rfl) ?_
                                    refine lv_iload hx hb dL_match_173 (lv_at hl 6 rfl) ?_
                                    refine lv_iload hx hb dL_match_175 (lv_at hl 7 rfl) ?_
                                    refine lv_iload hx hb dL_match_177 (lv_at hl 4 rfl) ?_
                                    obtain ⟨r_57, M_58, h_56, hf⟩ := bm_e hf
                                    refine q_callSi (M' := M_58) (As := [.ref (X.2.2 146), .ref (X.2.2 a1), .ref (X.2.2 a3), .int x5_9, .int x6_21, .int x7_32, .int x4_31]) (rest := []) B hw (c_L_group l _ X fu a1 a3 x5_9 x6_21 x7_32 x4_31 M_33 ha1 ha3 (r_57, M_58) h_56 _) cs_L_275 rfl hl.1 rfl rfl ⟨(Nat.le_of_ble_eq_true rfl), (Nat.le_of_ble_eq_true rfl)⟩ (Nat.le_of_ble_eq_true rfl) ⟨(Nat.le_of_ble_eq_true rfl), (Nat.le_of_ble_eq_true rfl)⟩ dL_match_179 rfl (fun H locs hw => ?_)
                                    refine lv_istore (lv' := [(4, .int r_57), (0, .ref (X.2.2 146)), (1, .ref (X.2.2 a1)), (2, .ref (X.2.2 a2)), (3, .ref (X.2.2 a3)), (5, .int x5_9), (6, .int x6_21), (7, .int x7_32)]) hx hb dL_match_182 hl (by decide) rfl (fun ls hl => ?_)
                                    refine lv_goto (tgt := 237) hx hb dL_match_184 (by decide) ?_
                                    refine r_iinc (v := (x7_32 + 1)) hx hb dL_match_237 hl (k := 7) rfl rfl (by decide) hf (fun x7_59 ls hl hf => ?_)
                                    have hl : lv_has ls 9 [(7, .int x7_59), (4, .int r_57), (0, .ref (X.2.2 146)), (1, .ref (X.2.2 a1)), (2, .ref (X.2.2 a2)), (3, .ref (X.2.2 a3)), (5, .int x5_9), (6, .int x6_21)] := hl
                                    refine lv_goto (tgt := 102) hx hb dL_match_240 (by decide) ?_
                                    exact ih_102 r_57 x7_59 M_58 _ _ _ hw (lv_sub hl [2, 3, 4, 5, 1, 6, 7, 0] rfl) hf
                                · have hf := it_e hf c_40
                                  refine lv_goto (tgt := 237) hx hb dL_match_158 (by decide) ?_
                                  refine r_iinc (v := (x7_32 + 1)) hx hb dL_match_237 hl (k := 7) rfl rfl (by decide) hf (fun x7_60 ls hl hf => ?_)
                                  have hl : lv_has ls 9 [(7, .int x7_60), (0, .ref (X.2.2 146)), (1, .ref (X.2.2 a1)), (2, .ref (X.2.2 a2)), (3, .ref (X.2.2 a3)), (4, .int x4_31), (5, .int x5_9), (6, .int x6_21)] := hl
                                  refine lv_goto (tgt := 102) hx hb dL_match_240 (by decide) ?_
                                  exact ih_102 x4_31 x7_60 M_33 _ _ _ hw (lv_sub hl [1, 2, 3, 4, 5, 6, 7, 0] rfl) hf
                              refine lv_icmp_le (tgt := 144) hx hb dL_match_125 (by decide) (fun c_61 => ?_) (fun c_61 => ?_)
                              · have hf := it_e hf c_61
                                exact J144_37 () _ _ _ hw (lv_sub hl [0, 1, 2, 3, 4, 5, 6, 7] rfl) hf
                              · have hf := ie_e hf c_61
                                refine lv_aload_n hx hb dL_match_128 rfl (lv_at hl 0 rfl) ?_
                                refine lv_iconst (v := 2) hx hb dL_match_129 (by decide) ?_
                                refine lv_aload_n hx hb dL_match_130 rfl (lv_at hl 1 rfl) ?_
                                refine lv_bipush (v := 20) hx hb dL_match_131 (by decide) ?_
                                refine lv_iload hx hb dL_match_133 (lv_at hl 7 rfl) ?_
                                refine lv_iadd hx hb dL_match_135 ?_
                                obtain ⟨g_62, hf⟩ := grd_e hf
                                refine w_lald B hw (i := a1) ha1 g_62 dL_match_136 ?_
                                refine lv_iconst (v := 1) hx hb dL_match_137 (by decide) ?_
                                obtain ⟨r_64, h_63, hf⟩ := bd_e hf
                                refine q_callSi (M' := M_33) (As := [.ref (X.2.2 146), .int 2, .long (lg (M_33 a1) (20 + x7_32).toNatClampNeg), .int 1]) (rest := []) B hw (c_L_hold l _ X fu 2 (lg (M_33 a1) (20 + x7_32).toNatClampNeg) 1 M_33 r_64 h_63 _) cs_L_229 rfl hl.1 rfl rfl ⟨(Nat.le_of_ble_eq_true rfl), (Nat.le_of_ble_eq_true rfl)⟩ (Nat.le_of_ble_eq_true rfl) ⟨(Nat.le_of_ble_eq_true rfl), (Nat.le_of_ble_eq_true rfl)⟩ dL_match_138 rfl (fun H locs hw => ?_)
                                refine lv_if_eq (tgt := 237) hx hb dL_match_141 (by decide) (fun c_65 => ?_) (fun c_65 => ?_)
                                · have hf := it_e hf c_65
                                  refine r_iinc (v := (x7_32 + 1)) hx hb dL_match_237 hl (k := 7) rfl rfl (by decide) hf (fun x7_66 ls hl hf => ?_)
                                  have hl : lv_has ls 9 [(7, .int x7_66), (0, .ref (X.2.2 146)), (1, .ref (X.2.2 a1)), (2, .ref (X.2.2 a2)), (3, .ref (X.2.2 a3)), (4, .int x4_31), (5, .int x5_9), (6, .int x6_21)] := hl
                                  refine lv_goto (tgt := 102) hx hb dL_match_240 (by decide) ?_
                                  exact ih_102 x4_31 x7_66 M_33 _ _ _ hw (lv_sub hl [1, 2, 3, 4, 5, 6, 7, 0] rfl) hf
                                · have hf := ie_e hf c_65
                                  exact J144_37 () _ _ _ hw (lv_sub hl [0, 1, 2, 3, 4, 5, 6, 7] rfl) hf
                      exact hL_102 fu x4_20 0 M_22 _ _ _ hw (lv_sub hl [1, 2, 3, 4, 5, 6, 7, 0] rfl) hf
                    refine lv_icmp_le (tgt := 99) hx hb dL_match_77 (by decide) (fun c_67 => ?_) (fun c_67 => ?_)
                    · have hf := it_e hf c_67
                      exact J99_26 () _ _ _ hw (lv_sub hl [0, 1, 2, 3, 4, 5, 6] rfl) hf
                    · have hf := ie_e hf c_67
                      refine lv_aload_n hx hb dL_match_80 rfl (lv_at hl 0 rfl) ?_
                      refine lv_iconst (v := 1) hx hb dL_match_81 (by decide) ?_
                      refine lv_aload_n hx hb dL_match_82 rfl (lv_at hl 1 rfl) ?_
                      refine lv_bipush (v := 10) hx hb dL_match_83 (by decide) ?_
                      refine lv_iload hx hb dL_match_85 (lv_at hl 6 rfl) ?_
                      refine lv_iadd hx hb dL_match_87 ?_
                      obtain ⟨g_68, hf⟩ := grd_e hf
                      refine w_lald B hw (i := a1) ha1 g_68 dL_match_88 ?_
                      refine lv_iconst (v := 1) hx hb dL_match_89 (by decide) ?_
                      obtain ⟨r_70, h_69, hf⟩ := bd_e hf
                      refine q_callSi (M' := M_22) (As := [.ref (X.2.2 146), .int 1, .long (lg (M_22 a1) (10 + x6_21).toNatClampNeg), .int 1]) (rest := []) B hw (c_L_hold l _ X fu 1 (lg (M_22 a1) (10 + x6_21).toNatClampNeg) 1 M_22 r_70 h_69 _) cs_L_229 rfl hl.1 rfl rfl ⟨(Nat.le_of_ble_eq_true rfl), (Nat.le_of_ble_eq_true rfl)⟩ (Nat.le_of_ble_eq_true rfl) ⟨(Nat.le_of_ble_eq_true rfl), (Nat.le_of_ble_eq_true rfl)⟩ dL_match_90 rfl (fun H locs hw => ?_)
                      refine lv_if_ne (tgt := 99) hx hb dL_match_93 (by decide) (fun c_71 => ?_) (fun c_71 => ?_)
                      · have hf := ie_e hf c_71
                        exact J99_26 () _ _ _ hw (lv_sub hl [0, 1, 2, 3, 4, 5, 6] rfl) hf
                      · have hf := it_e hf c_71
                        refine lv_goto (tgt := 243) hx hb dL_match_96 (by decide) ?_
                        refine r_iinc (v := (x6_21 + 1)) hx hb dL_match_243 hl (k := 6) rfl rfl (by decide) hf (fun x6_72 ls hl hf => ?_)
                        have hl : lv_has ls 9 [(6, .int x6_72), (0, .ref (X.2.2 146)), (1, .ref (X.2.2 a1)), (2, .ref (X.2.2 a2)), (3, .ref (X.2.2 a3)), (4, .int x4_20), (5, .int x5_9)] := hl
                        refine lv_goto (tgt := 54) hx hb dL_match_246 (by decide) ?_
                        exact ih_54 x4_20 x6_72 M_22 _ _ _ hw (lv_sub hl [1, 2, 3, 4, 5, 6, 0] rfl) hf
            exact hL_54 fu x4_8 0 M_10 _ _ _ hw (lv_sub hl [1, 2, 3, 4, 5, 6, 0] rfl) hf
          · have hf := it_e hf c_15
            refine lv_goto (tgt := 249) hx hb dL_match_48 (by decide) ?_
            refine r_iinc (v := (x5_9 + 1)) hx hb dL_match_249 hl (k := 5) rfl rfl (by decide) hf (fun x5_73 ls hl hf => ?_)
            have hl : lv_has ls 9 [(5, .int x5_73), (0, .ref (X.2.2 146)), (1, .ref (X.2.2 a1)), (2, .ref (X.2.2 a2)), (3, .ref (X.2.2 a3)), (4, .int x4_8)] := hl
            refine lv_goto (tgt := 27) hx hb dL_match_252 (by decide) ?_
            exact ih_27 x4_8 x5_73 M_10 _ _ _ hw (lv_sub hl [1, 2, 3, 4, 5, 0] rfl) hf
    exact hL_27 fu 0 0 M_2 _ _ _ hw (lv_sub hl [1, 2, 3, 4, 5, 0] rfl) hf
  have hL_6 : ∀ (n_6 : Nat) (x5_74 : Int32) (M_75 : Mem) (H : Heap) (locs : List Loc) (ls : Array Slot), HW (LW ex) X M_75 s H locs → lv_has ls 9 [(0, .ref (X.2.2 146)), (1, .ref (X.2.2 a1)), (2, .ref (X.2.2 a2)), (3, .ref (X.2.2 a3)), (4, .int 0), (5, .int x5_74)] → f_L_match_L6 fu a3 k24_1 n_6 x5_74 M_75 = some rs → W p l e rm_L_match s m args below meth c H locs 0 0 Q (F0 m 6 ls []) := by
    intro n_6
    induction n_6 with
    | zero => intro x5_74 M_75 H locs ls hw hl hf; exact no_none hf
    | succ n_6 ih_6 =>
      intro x5_74 M_75 H locs ls hw hl hf
      rw [f_L_match_L6] at hf
      refine lv_iload hx hb dL_match_6 (lv_at hl 5 rfl) ?_
      refine lv_bipush (v := 60) hx hb dL_match_8 (by decide) ?_
      refine lv_icmp_ge (tgt := 24) hx hb dL_match_10 (by decide) (fun c_76 => ?_) (fun c_76 => ?_)
      · have hf := it_e hf c_76
        exact J24_1 M_75 _ _ _ hw (lv_sub hl [0, 1, 2, 3, 4] rfl) hf
      · have hf := ie_e hf c_76
        refine lv_aload_n hx hb dL_match_13 rfl (lv_at hl 3 rfl) ?_
        refine lv_iload hx hb dL_match_14 (lv_at hl 5 rfl) ?_
        refine lv_iconst (v := 0) hx hb dL_match_16 (by decide) ?_
        obtain ⟨g_77, hf⟩ := grd_e hf
        refine w_iast B hw (i := a3) ha3 g_77 dL_match_17 hf (fun M_78 H locs hw hf => ?_)
        refine r_iinc (v := (x5_74 + 1)) hx hb dL_match_18 hl (k := 5) rfl rfl (by decide) hf (fun x5_79 ls hl hf => ?_)
        have hl : lv_has ls 9 [(5, .int x5_79), (0, .ref (X.2.2 146)), (1, .ref (X.2.2 a1)), (2, .ref (X.2.2 a2)), (3, .ref (X.2.2 a3)), (4, .int 0)] := hl
        refine lv_goto (tgt := 6) hx hb dL_match_21 (by decide) ?_
        exact ih_6 x5_79 M_78 _ _ _ hw (lv_sub hl [1, 2, 3, 4, 5, 0] rfl) hf
  exact hL_6 fu 0 M _ _ _ hw (lv_sub hl [2, 3, 4, 5, 1, 0] rfl) hf
