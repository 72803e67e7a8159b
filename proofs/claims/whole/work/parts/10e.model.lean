abbrev rm_X11_addsToGroup : Room := { frames := 2, cells := 0, slots := 0, locals := 42 }
set_option maxRecDepth 100000 in
set_option maxHeartbeats 4000000 in
theorem c_X11_addsToGroup (l : Launch) (X : XT) (fu : Nat) (M : Mem)  (rs : Mem) (hf : f_X11_addsToGroup fu M = some rs) (sz : Nat) : Met l yX11_addsToGroup (wbig yX11_addsToGroup cX11_addsToGroup 5 none) rm_X11_addsToGroup (va_Pc [.ref (X.2.2 0)] (PW LM X M sz)) (QV LM X rs sz) 0 0 (AX LM X sz) := by
  refine met_go (L := LM) (M := M) (by decide +kernel) (Nat.le_of_ble_eq_true rfl) ?_
  intro p e s m args below meth c hsz B hr hlk hw ls hl
  subst hsz
  have hx := B.hx
  have hb := B.hb
  have hl : lv_has ls 5 [(0, .ref (X.2.2 0))] := hl
  generalize hQ : MQ below _ args s 0 0 (AX LM X s.heap.size) = Q
  unfold f_X11_addsToGroup at hf
  refine lv_aload_n hx hb dX11_addsToGroup_0 rfl (lv_at hl 0 rfl) ?_
  refine lv_aload_n hx hb dX11_addsToGroup_1 rfl (lv_at hl 0 rfl) ?_
  refine gt_X11_92 B hw dX11_addsToGroup_2 ?_
  refine lv_iconst (v := 0) hx hb dX11_addsToGroup_5 (by decide) ?_
  refine m_iald B hw (i := 28) rfl (by decide) dX11_addsToGroup_6 ?_
  refine lv_aload_n hx hb dX11_addsToGroup_7 rfl (lv_at hl 0 rfl) ?_
  refine gt_X11_95 B hw dX11_addsToGroup_8 ?_
  refine lv_iconst (v := 0) hx hb dX11_addsToGroup_11 (by decide) ?_
  refine m_iald B hw (i := 29) rfl (by decide) dX11_addsToGroup_12 ?_
  obtain ⟨r_2, h_1, hf⟩ := bd_e hf
  refine q_callVi (M' := M) (i := 0) (As := [.int (M 28 0), .int (M 29 0)]) (rest := []) B hw (c_X11_cellAt l X fu (M 28 0) (M 29 0) M r_2 h_1 _) cv_X11_426 (rc_11 B hw) rfl hl.1 rfl rfl ⟨Nat.le_of_ble_eq_true rfl, Nat.le_of_ble_eq_true rfl⟩ (Nat.le_of_ble_eq_true rfl) ⟨Nat.le_of_ble_eq_true rfl, Nat.le_of_ble_eq_true rfl⟩ dX11_addsToGroup_13 rfl (fun H locs hw => ?_)
  refine lv_istore_n (lv' := [(1, .int r_2), (0, .ref (X.2.2 0))]) hx hb dX11_addsToGroup_16 rfl hl (by decide) rfl (fun ls hl => ?_)
  refine lv_aload_n hx hb dX11_addsToGroup_17 rfl (lv_at hl 1 rfl) ?_
  refine lv_aload_n hx hb dX11_addsToGroup_18 rfl (lv_at hl 1 rfl) ?_
  refine gt_X11_92 B hw dX11_addsToGroup_19 ?_
  refine lv_aload_n hx hb dX11_addsToGroup_22 rfl (lv_at hl 1 rfl) ?_
  refine gt_X11_314 B hw dX11_addsToGroup_23 ?_
  refine lv_iconst (v := 1) hx hb dX11_addsToGroup_26 (by decide) ?_
  refine lv_isub hx hb dX11_addsToGroup_27 ?_
  obtain ⟨g_3, hf⟩ := grd_e hf
  refine m_iald B hw (i := 28) rfl g_3 dX11_addsToGroup_28 ?_
  refine lv_aload_n hx hb dX11_addsToGroup_29 rfl (lv_at hl 1 rfl) ?_
  refine gt_X11_95 B hw dX11_addsToGroup_30 ?_
  refine lv_aload_n hx hb dX11_addsToGroup_33 rfl (lv_at hl 1 rfl) ?_
  refine gt_X11_314 B hw dX11_addsToGroup_34 ?_
  refine lv_iconst (v := 1) hx hb dX11_addsToGroup_37 (by decide) ?_
  refine lv_isub hx hb dX11_addsToGroup_38 ?_
  refine m_iald B hw (i := 29) rfl g_3 dX11_addsToGroup_39 ?_
  obtain ⟨r_5, h_4, hf⟩ := bd_e hf
  refine q_callVi (M' := M) (i := 0) (As := [.int (M 28 ((M 0 34) - 1).toNatClampNeg), .int (M 29 ((M 0 34) - 1).toNatClampNeg)]) (rest := []) B hw (c_X11_cellAt l X fu (M 28 ((M 0 34) - 1).toNatClampNeg) (M 29 ((M 0 34) - 1).toNatClampNeg) M r_5 h_4 _) cv_X11_426 (rc_11 B hw) rfl hl.1 rfl rfl ⟨Nat.le_of_ble_eq_true rfl, Nat.le_of_ble_eq_true rfl⟩ (Nat.le_of_ble_eq_true rfl) ⟨Nat.le_of_ble_eq_true rfl, Nat.le_of_ble_eq_true rfl⟩ dX11_addsToGroup_40 rfl (fun H locs hw => ?_)
  refine lv_istore_n (lv' := [(2, .int r_5), (1, .int r_2), (0, .ref (X.2.2 0))]) hx hb dX11_addsToGroup_43 rfl hl (by decide) rfl (fun ls hl => ?_)
  refine lv_iconst (v := (-1)) hx hb dX11_addsToGroup_44 (by decide) ?_
  refine lv_istore_n (lv' := [(3, .int (-1)), (2, .int r_5), (1, .int r_2), (0, .ref (X.2.2 0))]) hx hb dX11_addsToGroup_45 rfl hl (by decide) rfl (fun ls hl => ?_)
  refine lv_iconst (v := 0) hx hb dX11_addsToGroup_46 (by decide) ?_
  refine lv_istore (lv' := [(4, .int 0), (3, .int (-1)), (2, .int r_5), (1, .int r_2), (0, .ref (X.2.2 0))]) hx hb dX11_addsToGroup_47 hl (by decide) rfl (fun ls hl => ?_)
  refine jn_e hf (fun kk => ∀ (x3_7 : Int32) (H : Heap) (locs : List Loc) (ls : Array Slot), HW LM X M s H locs → lv_has ls 5 [(0, .ref (X.2.2 0)), (1, .int r_2), (2, .int r_5), (3, .int x3_7)] → kk x3_7 = some rs → W p l e rm_X11_addsToGroup s m args below meth c H locs 0 0 Q (F0 m 82 ls [])) ?_ (fun k82_6 J82_6 hf => ?_)
  · intro x3_7 H locs ls hw hl hf
    refine lv_iload_n hx hb dX11_addsToGroup_82 rfl (lv_at hl 3 rfl) ?_
    refine lv_iconst (v := (-1)) hx hb dX11_addsToGroup_83 (by decide) ?_
    refine jn_e hf (fun kk => ∀ (x3_9 : Int32) (M_10 : Mem) (H : Heap) (locs : List Loc) (ls : Array Slot), HW LM X M_10 s H locs → lv_has ls 5 [(0, .ref (X.2.2 0)), (2, .int r_5), (3, .int x3_9)] → kk x3_9 M_10 = some rs → W p l e rm_X11_addsToGroup s m args below meth c H locs 0 0 Q (F0 m 123 ls [])) ?_ (fun k123_8 J123_8 hf => ?_)
    · intro x3_9 M_10 H locs ls hw hl hf
      refine lv_aload_n hx hb dX11_addsToGroup_123 rfl (lv_at hl 0 rfl) ?_
      refine gt_X11_174 B hw dX11_addsToGroup_124 ?_
      refine lv_iload_n hx hb dX11_addsToGroup_127 rfl (lv_at hl 2 rfl) ?_
      refine lv_dup2_11 hx hb dX11_addsToGroup_128 rfl rfl ?_
      obtain ⟨g_11, hf⟩ := grd_e hf
      refine m_iald B hw (i := 54) rfl g_11 dX11_addsToGroup_129 ?_
      refine lv_iconst (v := 1) hx hb dX11_addsToGroup_130 (by decide) ?_
      refine lv_iadd hx hb dX11_addsToGroup_131 ?_
      refine m_iast B hw (i := 54) rfl g_11 dX11_addsToGroup_132 hf (fun M_12 H locs hw hf => ?_)
      refine lv_aload_n hx hb dX11_addsToGroup_133 rfl (lv_at hl 0 rfl) ?_
      refine gt_X11_177 B hw dX11_addsToGroup_134 ?_
      refine lv_iload_n hx hb dX11_addsToGroup_137 rfl (lv_at hl 2 rfl) ?_
      refine lv_dup2_11 hx hb dX11_addsToGroup_138 rfl rfl ?_
      refine m_iald B hw (i := 55) rfl g_11 dX11_addsToGroup_139 ?_
      refine lv_iload_n hx hb dX11_addsToGroup_140 rfl (lv_at hl 1 rfl) ?_
      refine q_callSi (M' := M_12) (As := [.int r_5]) (rest := [.int (M_12 55 x3_9.toNatClampNeg), .int x3_9, .ref (X.2.2 55)]) B hw (c_X11_isNumber l X r_5 _ rfl M_12 _) cs_X11_228 rfl hl.1 rfl rfl ⟨Nat.le_of_ble_eq_true rfl, Nat.le_of_ble_eq_true rfl⟩ (Nat.le_of_ble_eq_true rfl) ⟨Nat.le_of_ble_eq_true rfl, Nat.le_of_ble_eq_true rfl⟩ dX11_addsToGroup_141 rfl (fun H locs hw => ?_)
      refine nmv_e hf (fun kk => ∀ (H : Heap) (locs : List Loc), HW LM X M_12 s H locs → W p l e rm_X11_addsToGroup s m args below meth c H locs 0 0 Q (F0 m 152 ls [.int kk, .int (M_12 55 x3_9.toNatClampNeg), .int x3_9, .ref (X.2.2 55)])) (fun J => ?_) (fun v_14 hf H locs hw => ?_)
      · refine lv_if_eq (tgt := 151) hx hb dX11_addsToGroup_144 (by decide) (fun c_13 => ?_) (fun c_13 => ?_)
        · rw [if_pos c_13] at J
          refine lv_iconst (v := 0) hx hb dX11_addsToGroup_151 (by decide) ?_
          exact J _ _ hw
        · rw [if_neg c_13] at J
          refine lv_iload_n hx hb dX11_addsToGroup_147 rfl (lv_at hl 1 rfl) ?_
          refine lv_goto (tgt := 152) hx hb dX11_addsToGroup_148 (by decide) ?_
          exact J _ _ hw
      · refine lv_iadd hx hb dX11_addsToGroup_152 ?_
        refine m_iast B hw (i := 55) rfl g_11 dX11_addsToGroup_153 hf (fun M_15 H locs hw hf => ?_)
        cases hf
        subst hQ
        exact q_vret B hr hlk hw rfl dX11_addsToGroup_154
    refine lv_icmp_ne (tgt := 123) hx hb dX11_addsToGroup_84 (by decide) (fun c_16 => ?_) (fun c_16 => ?_)
    · have hf := ie_e hf c_16
      exact J123_8 x3_7 M _ _ _ hw (lv_sub hl [0, 2, 3] rfl) hf
    · have hf := it_e hf c_16
      refine lv_aload_n hx hb dX11_addsToGroup_87 rfl (lv_at hl 0 rfl) ?_
      refine gt_X11_432 B hw dX11_addsToGroup_88 ?_
      refine r_topn hf (fun x3_17 hf => ?_)
      refine lv_istore_n (lv' := [(3, .int x3_17), (0, .ref (X.2.2 0)), (1, .int r_2), (2, .int r_5)]) hx hb dX11_addsToGroup_91 rfl hl (by decide) rfl (fun ls hl => ?_)
      refine lv_aload_n hx hb dX11_addsToGroup_92 rfl (lv_at hl 1 rfl) ?_
      refine gt_X11_171 B hw dX11_addsToGroup_93 ?_
      refine lv_iload_n hx hb dX11_addsToGroup_96 rfl (lv_at hl 0 rfl) ?_
      refine lv_iload_n hx hb dX11_addsToGroup_97 rfl (lv_at hl 2 rfl) ?_
      obtain ⟨g_18, hf⟩ := grd_e hf
      refine m_iast B hw (i := 53) rfl g_18 dX11_addsToGroup_98 hf (fun M_19 H locs hw hf => ?_)
      refine lv_aload_n hx hb dX11_addsToGroup_99 rfl (lv_at hl 1 rfl) ?_
      refine gt_X11_174 B hw dX11_addsToGroup_100 ?_
      refine lv_iload_n hx hb dX11_addsToGroup_103 rfl (lv_at hl 0 rfl) ?_
      refine lv_iconst (v := 0) hx hb dX11_addsToGroup_104 (by decide) ?_
      refine m_iast B hw (i := 54) rfl g_18 dX11_addsToGroup_105 hf (fun M_20 H locs hw hf => ?_)
      refine lv_aload_n hx hb dX11_addsToGroup_106 rfl (lv_at hl 1 rfl) ?_
      refine gt_X11_177 B hw dX11_addsToGroup_107 ?_
      refine lv_iload_n hx hb dX11_addsToGroup_110 rfl (lv_at hl 0 rfl) ?_
      refine lv_iconst (v := 0) hx hb dX11_addsToGroup_111 (by decide) ?_
      refine m_iast B hw (i := 55) rfl g_18 dX11_addsToGroup_112 hf (fun M_21 H locs hw hf => ?_)
      refine lv_aload_n hx hb dX11_addsToGroup_113 rfl (lv_at hl 1 rfl) ?_
      refine lv_dup hx hb dX11_addsToGroup_114 rfl ?_
      refine gt_X11_432 B hw dX11_addsToGroup_115 ?_
      refine lv_iconst (v := 1) hx hb dX11_addsToGroup_118 (by decide) ?_
      refine lv_iadd hx hb dX11_addsToGroup_119 ?_
      refine pt_X11_432 B hw dX11_addsToGroup_120 hf (fun M_22 H locs hw hf => ?_)
      exact J123_8 x3_17 M_22 _ _ _ hw (lv_sub hl [1, 3, 0] rfl) hf
  have hL_49 : ∀ (n_49 : Nat) (x3_23 : Int32) (x4_24 : Int32) (H : Heap) (locs : List Loc) (ls : Array Slot), HW LM X M s H locs → lv_has ls 5 [(0, .ref (X.2.2 0)), (1, .int r_2), (2, .int r_5), (3, .int x3_23), (4, .int x4_24)] → f_X11_addsToGroup_L49 fu M r_2 k82_6 n_49 x3_23 x4_24 = some rs → W p l e rm_X11_addsToGroup s m args below meth c H locs 0 0 Q (F0 m 49 ls []) := by
    intro n_49
    induction n_49 with
    | zero => intro x3_23 x4_24 H locs ls hw hl hf; exact no_none hf
    | succ n_49 ih_49 =>
      intro x3_23 x4_24 H locs ls hw hl hf
      rw [f_X11_addsToGroup_L49] at hf
      refine lv_iload hx hb dX11_addsToGroup_49 (lv_at hl 4 rfl) ?_
      refine lv_aload_n hx hb dX11_addsToGroup_51 rfl (lv_at hl 0 rfl) ?_
      refine gt_X11_432 B hw dX11_addsToGroup_52 ?_
      refine lv_icmp_ge (tgt := 82) hx hb dX11_addsToGroup_55 (by decide) (fun c_25 => ?_) (fun c_25 => ?_)
      · have hf := it_e hf c_25
        exact J82_6 x3_23 _ _ _ hw (lv_sub hl [0, 1, 2, 3] rfl) hf
      · have hf := ie_e hf c_25
        refine lv_aload_n hx hb dX11_addsToGroup_58 rfl (lv_at hl 0 rfl) ?_
        refine gt_X11_171 B hw dX11_addsToGroup_59 ?_
        refine lv_iload hx hb dX11_addsToGroup_62 (lv_at hl 4 rfl) ?_
        obtain ⟨g_26, hf⟩ := grd_e hf
        refine m_iald B hw (i := 53) rfl g_26 dX11_addsToGroup_64 ?_
        refine lv_iload_n hx hb dX11_addsToGroup_65 rfl (lv_at hl 1 rfl) ?_
        refine lv_icmp_ne (tgt := 74) hx hb dX11_addsToGroup_66 (by decide) (fun c_27 => ?_) (fun c_27 => ?_)
        · have hf := ie_e hf c_27
          refine lv_iload_n hx hb dX11_addsToGroup_74 rfl (lv_at hl 3 rfl) ?_
          refine lv_istore_n (lv' := [(3, .int x3_23), (0, .ref (X.2.2 0)), (1, .int r_2), (2, .int r_5), (4, .int x4_24)]) hx hb dX11_addsToGroup_75 rfl hl (by decide) rfl (fun ls hl => ?_)
          refine r_iinc (v := (x4_24 + 1)) hx hb dX11_addsToGroup_76 hl (k := 4) rfl rfl (by decide) hf (fun x4_28 ls hl hf => ?_)
          have hl : lv_has ls 5 [(4, .int x4_28), (3, .int x3_23), (0, .ref (X.2.2 0)), (1, .int r_2), (2, .int r_5)] := hl
          refine lv_goto (tgt := 49) hx hb dX11_addsToGroup_79 (by decide) ?_
          exact ih_49 x3_23 x4_28 _ _ _ hw (lv_sub hl [2, 3, 4, 1, 0] rfl) hf
        · have hf := it_e hf c_27
          refine lv_iload hx hb dX11_addsToGroup_69 (lv_at hl 4 rfl) ?_
          refine lv_goto (tgt := 75) hx hb dX11_addsToGroup_71 (by decide) ?_
          refine lv_istore_n (lv' := [(3, .int x4_24), (0, .ref (X.2.2 0)), (1, .int r_2), (2, .int r_5), (4, .int x4_24)]) hx hb dX11_addsToGroup_75 rfl hl (by decide) rfl (fun ls hl => ?_)
          refine r_iinc (v := (x4_24 + 1)) hx hb dX11_addsToGroup_76 hl (k := 4) rfl rfl (by decide) hf (fun x4_29 ls hl hf => ?_)
          have hl : lv_has ls 5 [(4, .int x4_29), (3, .int x4_24), (0, .ref (X.2.2 0)), (1, .int r_2), (2, .int r_5)] := hl
          refine lv_goto (tgt := 49) hx hb dX11_addsToGroup_79 (by decide) ?_
          exact ih_49 x4_24 x4_29 _ _ _ hw (lv_sub hl [2, 3, 4, 1, 0] rfl) hf
  exact hL_49 fu (-1) 0 _ _ _ hw (lv_sub hl [4, 3, 2, 1, 0] rfl) hf
abbrev rm_X11_makesGroups : Room := { frames := 1, cells := 0, slots := 0, locals := 20 }
set_option maxRecDepth 100000 in
set_option maxHeartbeats 4000000 in
theorem c_X11_makesGroups (l : Launch) (X : XT) (fu : Nat) (M : Mem)  (rs : Mem) (hf : f_X11_makesGroups fu M = some rs) (sz : Nat) : Met l yX11_makesGroups (wbig yX11_makesGroups cX11_makesGroups 5 none) rm_X11_makesGroups (va_Pc [.ref (X.2.2 0)] (PW LM X M sz)) (QV LM X rs sz) 0 0 (AX LM X sz) := by
  refine met_go (L := LM) (M := M) (by decide +kernel) (Nat.le_of_ble_eq_true rfl) ?_
  intro p e s m args below meth c hsz B hr hlk hw ls hl
  subst hsz
  have hx := B.hx
  have hb := B.hb
  have hl : lv_has ls 5 [(0, .ref (X.2.2 0))] := hl
  generalize hQ : MQ below _ args s 0 0 (AX LM X s.heap.size) = Q
  unfold f_X11_makesGroups at hf
  refine lv_aload_n hx hb dX11_makesGroups_0 rfl (lv_at hl 0 rfl) ?_
  refine lv_iconst (v := 0) hx hb dX11_makesGroups_1 (by decide) ?_
  refine pt_X11_429 B hw dX11_makesGroups_2 hf (fun M_1 H locs hw hf => ?_)
  refine lv_iconst (v := 0) hx hb dX11_makesGroups_5 (by decide) ?_
  refine lv_istore_n (lv' := [(1, .int 0), (0, .ref (X.2.2 0))]) hx hb dX11_makesGroups_6 rfl hl (by decide) rfl (fun ls hl => ?_)
  have hL_7 : ∀ (n_7 : Nat) (x1_2 : Int32) (M_3 : Mem) (H : Heap) (locs : List Loc) (ls : Array Slot), HW LM X M_3 s H locs → lv_has ls 5 [(0, .ref (X.2.2 0)), (1, .int x1_2)] → f_X11_makesGroups_L7 fu n_7 x1_2 M_3 = some rs → W p l e rm_X11_makesGroups s m args below meth c H locs 0 0 Q (F0 m 7 ls []) := by
    intro n_7
    induction n_7 with
    | zero => intro x1_2 M_3 H locs ls hw hl hf; exact no_none hf
    | succ n_7 ih_7 =>
      intro x1_2 M_3 H locs ls hw hl hf
      rw [f_X11_makesGroups_L7] at hf
      refine lv_iload_n hx hb dX11_makesGroups_7 rfl (lv_at hl 1 rfl) ?_
      refine lv_aload_n hx hb dX11_makesGroups_8 rfl (lv_at hl 0 rfl) ?_
      refine gt_X11_432 B hw dX11_makesGroups_9 ?_
      refine lv_icmp_ge (tgt := 153) hx hb dX11_makesGroups_12 (by decide) (fun c_4 => ?_) (fun c_4 => ?_)
      · have hf := it_e hf c_4
        cases hf
        subst hQ
        exact q_vret B hr hlk hw rfl dX11_makesGroups_153
      · have hf := ie_e hf c_4
        refine lv_iload_n hx hb dX11_makesGroups_15 rfl (lv_at hl 1 rfl) ?_
        refine lv_aload_n hx hb dX11_makesGroups_16 rfl (lv_at hl 0 rfl) ?_
        refine gt_X11_98 B hw dX11_makesGroups_17 ?_
        refine lv_icmp_ge (tgt := 153) hx hb dX11_makesGroups_20 (by decide) (fun c_5 => ?_) (fun c_5 => ?_)
        · have hf := it_e hf c_5
          cases hf
          subst hQ
          exact q_vret B hr hlk hw rfl dX11_makesGroups_153
        · have hf := ie_e hf c_5
          refine lv_iconst (v := 0) hx hb dX11_makesGroups_23 (by decide) ?_
          refine lv_istore_n (lv' := [(2, .int 0), (0, .ref (X.2.2 0)), (1, .int x1_2)]) hx hb dX11_makesGroups_24 rfl hl (by decide) rfl (fun ls hl => ?_)
          refine jn_e hf (fun kk => ∀ (M_7 : Mem) (H : Heap) (locs : List Loc) (ls : Array Slot), HW LM X M_7 s H locs → lv_has ls 5 [(0, .ref (X.2.2 0)), (1, .int x1_2)] → kk M_7 = some rs → W p l e rm_X11_makesGroups s m args below meth c H locs 0 0 Q (F0 m 147 ls [])) ?_ (fun k147_6 J147_6 hf => ?_)
          · intro M_7 H locs ls hw hl hf
            refine r_iinc (v := (x1_2 + 1)) hx hb dX11_makesGroups_147 hl (k := 1) rfl rfl (by decide) hf (fun x1_8 ls hl hf => ?_)
            have hl : lv_has ls 5 [(1, .int x1_8), (0, .ref (X.2.2 0))] := hl
            refine lv_goto (tgt := 7) hx hb dX11_makesGroups_150 (by decide) ?_
            exact ih_7 x1_8 M_7 _ _ _ hw (lv_sub hl [1, 0] rfl) hf
          have hL_25 : ∀ (n_25 : Nat) (x2_9 : Int32) (M_10 : Mem) (H : Heap) (locs : List Loc) (ls : Array Slot), HW LM X M_10 s H locs → lv_has ls 5 [(0, .ref (X.2.2 0)), (1, .int x1_2), (2, .int x2_9)] → f_X11_makesGroups_L25 fu x1_2 k147_6 n_25 x2_9 M_10 = some rs → W p l e rm_X11_makesGroups s m args below meth c H locs 0 0 Q (F0 m 25 ls []) := by
            intro n_25
            induction n_25 with
            | zero => intro x2_9 M_10 H locs ls hw hl hf; exact no_none hf
            | succ n_25 ih_25 =>
              intro x2_9 M_10 H locs ls hw hl hf
              rw [f_X11_makesGroups_L25] at hf
              refine lv_iload_n hx hb dX11_makesGroups_25 rfl (lv_at hl 2 rfl) ?_
              refine lv_aload_n hx hb dX11_makesGroups_26 rfl (lv_at hl 0 rfl) ?_
              refine gt_X11_432 B hw dX11_makesGroups_27 ?_
              refine lv_icmp_ge (tgt := 147) hx hb dX11_makesGroups_30 (by decide) (fun c_11 => ?_) (fun c_11 => ?_)
              · have hf := it_e hf c_11
                exact J147_6 M_10 _ _ _ hw (lv_sub hl [0, 1] rfl) hf
              · have hf := ie_e hf c_11
                refine lv_iconst (v := 0) hx hb dX11_makesGroups_33 (by decide) ?_
                refine lv_istore_n (lv' := [(3, .int 0), (0, .ref (X.2.2 0)), (1, .int x1_2), (2, .int x2_9)]) hx hb dX11_makesGroups_34 rfl hl (by decide) rfl (fun ls hl => ?_)
                refine lv_iconst (v := 0) hx hb dX11_makesGroups_35 (by decide) ?_
                refine lv_istore (lv' := [(4, .int 0), (3, .int 0), (0, .ref (X.2.2 0)), (1, .int x1_2), (2, .int x2_9)]) hx hb dX11_makesGroups_36 hl (by decide) rfl (fun ls hl => ?_)
                refine jn_e hf (fun kk => ∀ (x3_13 : Int32) (H : Heap) (locs : List Loc) (ls : Array Slot), HW LM X M_10 s H locs → lv_has ls 5 [(0, .ref (X.2.2 0)), (1, .int x1_2), (2, .int x2_9), (3, .int x3_13)] → kk x3_13 = some rs → W p l e rm_X11_makesGroups s m args below meth c H locs 0 0 Q (F0 m 83 ls [])) ?_ (fun k83_12 J83_12 hf => ?_)
                · intro x3_13 H locs ls hw hl hf
                  refine lv_iload_n hx hb dX11_makesGroups_83 rfl (lv_at hl 3 rfl) ?_
                  refine lv_iload_n hx hb dX11_makesGroups_84 rfl (lv_at hl 1 rfl) ?_
                  refine lv_icmp_ne (tgt := 141) hx hb dX11_makesGroups_85 (by decide) (fun c_14 => ?_) (fun c_14 => ?_)
                  · have hf := ie_e hf c_14
                    refine r_iinc (v := (x2_9 + 1)) hx hb dX11_makesGroups_141 hl (k := 2) rfl rfl (by decide) hf (fun x2_15 ls hl hf => ?_)
                    have hl : lv_has ls 5 [(2, .int x2_15), (0, .ref (X.2.2 0)), (1, .int x1_2), (3, .int x3_13)] := hl
                    refine lv_goto (tgt := 25) hx hb dX11_makesGroups_144 (by decide) ?_
                    exact ih_25 x2_15 M_10 _ _ _ hw (lv_sub hl [1, 2, 0] rfl) hf
                  · have hf := it_e hf c_14
                    refine lv_aload_n hx hb dX11_makesGroups_88 rfl (lv_at hl 0 rfl) ?_
                    refine gt_X11_168 B hw dX11_makesGroups_89 ?_
                    refine lv_iconst (v := 3) hx hb dX11_makesGroups_92 (by decide) ?_
                    refine lv_iload_n hx hb dX11_makesGroups_93 rfl (lv_at hl 1 rfl) ?_
                    refine lv_imul hx hb dX11_makesGroups_94 ?_
                    refine lv_aload_n hx hb dX11_makesGroups_95 rfl (lv_at hl 0 rfl) ?_
                    refine gt_X11_171 B hw dX11_makesGroups_96 ?_
                    refine lv_iload_n hx hb dX11_makesGroups_99 rfl (lv_at hl 2 rfl) ?_
                    obtain ⟨g_16, hf⟩ := grd_e hf
                    refine m_iald B hw (i := 53) rfl g_16 dX11_makesGroups_100 ?_
                    obtain ⟨g_17, hf⟩ := grd_e hf
                    refine m_iast B hw (i := 52) rfl g_17 dX11_makesGroups_101 hf (fun M_18 H locs hw hf => ?_)
                    refine lv_aload_n hx hb dX11_makesGroups_102 rfl (lv_at hl 0 rfl) ?_
                    refine gt_X11_168 B hw dX11_makesGroups_103 ?_
                    refine lv_iconst (v := 3) hx hb dX11_makesGroups_106 (by decide) ?_
                    refine lv_iload_n hx hb dX11_makesGroups_107 rfl (lv_at hl 1 rfl) ?_
                    refine lv_imul hx hb dX11_makesGroups_108 ?_
                    refine lv_iconst (v := 1) hx hb dX11_makesGroups_109 (by decide) ?_
                    refine lv_iadd hx hb dX11_makesGroups_110 ?_
                    refine lv_aload_n hx hb dX11_makesGroups_111 rfl (lv_at hl 0 rfl) ?_
                    refine gt_X11_174 B hw dX11_makesGroups_112 ?_
                    refine lv_iload_n hx hb dX11_makesGroups_115 rfl (lv_at hl 2 rfl) ?_
                    refine m_iald B hw (i := 54) rfl g_16 dX11_makesGroups_116 ?_
                    obtain ⟨g_19, hf⟩ := grd_e hf
                    refine m_iast B hw (i := 52) rfl g_19 dX11_makesGroups_117 hf (fun M_20 H locs hw hf => ?_)
                    refine lv_aload_n hx hb dX11_makesGroups_118 rfl (lv_at hl 0 rfl) ?_
                    refine gt_X11_168 B hw dX11_makesGroups_119 ?_
                    refine lv_iconst (v := 3) hx hb dX11_makesGroups_122 (by decide) ?_
                    refine lv_iload_n hx hb dX11_makesGroups_123 rfl (lv_at hl 1 rfl) ?_
                    refine lv_imul hx hb dX11_makesGroups_124 ?_
                    refine lv_iconst (v := 2) hx hb dX11_makesGroups_125 (by decide) ?_
                    refine lv_iadd hx hb dX11_makesGroups_126 ?_
                    refine lv_aload_n hx hb dX11_makesGroups_127 rfl (lv_at hl 0 rfl) ?_
                    refine gt_X11_177 B hw dX11_makesGroups_128 ?_
                    refine lv_iload_n hx hb dX11_makesGroups_131 rfl (lv_at hl 2 rfl) ?_
                    refine m_iald B hw (i := 55) rfl g_16 dX11_makesGroups_132 ?_
                    obtain ⟨g_21, hf⟩ := grd_e hf
                    refine m_iast B hw (i := 52) rfl g_21 dX11_makesGroups_133 hf (fun M_22 H locs hw hf => ?_)
                    refine lv_aload_n hx hb dX11_makesGroups_134 rfl (lv_at hl 0 rfl) ?_
                    refine lv_iload_n hx hb dX11_makesGroups_135 rfl (lv_at hl 1 rfl) ?_
                    refine lv_iconst (v := 1) hx hb dX11_makesGroups_136 (by decide) ?_
                    refine lv_iadd hx hb dX11_makesGroups_137 ?_
                    refine pt_X11_429 B hw dX11_makesGroups_138 hf (fun M_23 H locs hw hf => ?_)
                    refine r_iinc (v := (x2_9 + 1)) hx hb dX11_makesGroups_141 hl (k := 2) rfl rfl (by decide) hf (fun x2_24 ls hl hf => ?_)
                    have hl : lv_has ls 5 [(2, .int x2_24), (0, .ref (X.2.2 0)), (1, .int x1_2), (3, .int x3_13)] := hl
                    refine lv_goto (tgt := 25) hx hb dX11_makesGroups_144 (by decide) ?_
                    exact ih_25 x2_24 M_23 _ _ _ hw (lv_sub hl [1, 2, 0] rfl) hf
                have hL_38 : ∀ (n_38 : Nat) (x3_25 : Int32) (x4_26 : Int32) (H : Heap) (locs : List Loc) (ls : Array Slot), HW LM X M_10 s H locs → lv_has ls 5 [(0, .ref (X.2.2 0)), (1, .int x1_2), (2, .int x2_9), (3, .int x3_25), (4, .int x4_26)] → f_X11_makesGroups_L38 fu x2_9 M_10 k83_12 n_38 x3_25 x4_26 = some rs → W p l e rm_X11_makesGroups s m args below meth c H locs 0 0 Q (F0 m 38 ls []) := by
                  intro n_38
                  induction n_38 with
                  | zero => intro x3_25 x4_26 H locs ls hw hl hf; exact no_none hf
                  | succ n_38 ih_38 =>
                    intro x3_25 x4_26 H locs ls hw hl hf
                    rw [f_X11_makesGroups_L38] at hf
                    refine lv_iload hx hb dX11_makesGroups_38 (lv_at hl 4 rfl) ?_
                    refine lv_aload_n hx hb dX11_makesGroups_40 rfl (lv_at hl 0 rfl) ?_
                    refine gt_X11_432 B hw dX11_makesGroups_41 ?_
                    refine lv_icmp_ge (tgt := 83) hx hb dX11_makesGroups_44 (by decide) (fun c_27 => ?_) (fun c_27 => ?_)
                    · have hf := it_e hf c_27
                      exact J83_12 x3_25 _ _ _ hw (lv_sub hl [0, 1, 2, 3] rfl) hf
                    · have hf := ie_e hf c_27
                      refine lv_iload_n hx hb dX11_makesGroups_47 rfl (lv_at hl 3 rfl) ?_
                      refine lv_aload_n hx hb dX11_makesGroups_48 rfl (lv_at hl 0 rfl) ?_
                      refine gt_X11_171 B hw dX11_makesGroups_49 ?_
                      refine lv_iload hx hb dX11_makesGroups_52 (lv_at hl 4 rfl) ?_
                      obtain ⟨g_28, hf⟩ := grd_e hf
                      refine m_iald B hw (i := 53) rfl g_28 dX11_makesGroups_54 ?_
                      refine q_callSi (M' := M_10) (As := [.int (M_10 53 x4_26.toNatClampNeg)]) (rest := [.int x3_25]) B hw (c_X11_rankOf l X (M_10 53 x4_26.toNatClampNeg) _ rfl M_10 _) cs_X11_435 rfl hl.1 rfl rfl ⟨Nat.le_of_ble_eq_true rfl, Nat.le_of_ble_eq_true rfl⟩ (Nat.le_of_ble_eq_true rfl) ⟨Nat.le_of_ble_eq_true rfl, Nat.le_of_ble_eq_true rfl⟩ dX11_makesGroups_55 rfl (fun H locs hw => ?_)
                      refine lv_aload_n hx hb dX11_makesGroups_58 rfl (lv_at hl 0 rfl) ?_
                      refine gt_X11_171 B hw dX11_makesGroups_59 ?_
                      refine lv_iload_n hx hb dX11_makesGroups_62 rfl (lv_at hl 2 rfl) ?_
                      obtain ⟨g_29, hf⟩ := grd_e hf
                      refine m_iald B hw (i := 53) rfl g_29 dX11_makesGroups_63 ?_
                      refine q_callSi (M' := M_10) (As := [.int (M_10 53 x2_9.toNatClampNeg)]) (rest := [.int (f_X11_rankOf (M_10 53 x4_26.toNatClampNeg)), .int x3_25]) B hw (c_X11_rankOf l X (M_10 53 x2_9.toNatClampNeg) _ rfl M_10 _) cs_X11_435 rfl hl.1 rfl rfl ⟨Nat.le_of_ble_eq_true rfl, Nat.le_of_ble_eq_true rfl⟩ (Nat.le_of_ble_eq_true rfl) ⟨Nat.le_of_ble_eq_true rfl, Nat.le_of_ble_eq_true rfl⟩ dX11_makesGroups_64 rfl (fun H locs hw => ?_)
                      refine nmv_e hf (fun kk => ∀ (H : Heap) (locs : List Loc), HW LM X M_10 s H locs → W p l e rm_X11_makesGroups s m args below meth c H locs 0 0 Q (F0 m 75 ls [.int kk, .int x3_25])) (fun J => ?_) (fun v_31 hf H locs hw => ?_)
                      · refine lv_icmp_ge (tgt := 74) hx hb dX11_makesGroups_67 (by decide) (fun c_30 => ?_) (fun c_30 => ?_)
                        · rw [if_pos c_30] at J
                          refine lv_iconst (v := 0) hx hb dX11_makesGroups_74 (by decide) ?_
                          exact J _ _ hw
                        · rw [if_neg c_30] at J
                          refine lv_iconst (v := 1) hx hb dX11_makesGroups_70 (by decide) ?_
                          refine lv_goto (tgt := 75) hx hb dX11_makesGroups_71 (by decide) ?_
                          exact J _ _ hw
                      · refine lv_iadd hx hb dX11_makesGroups_75 ?_
                        refine r_topn hf (fun x3_32 hf => ?_)
                        refine lv_istore_n (lv' := [(3, .int x3_32), (0, .ref (X.2.2 0)), (1, .int x1_2), (2, .int x2_9), (4, .int x4_26)]) hx hb dX11_makesGroups_76 rfl hl (by decide) rfl (fun ls hl => ?_)
                        refine r_iinc (v := (x4_26 + 1)) hx hb dX11_makesGroups_77 hl (k := 4) rfl rfl (by decide) hf (fun x4_33 ls hl hf => ?_)
                        have hl : lv_has ls 5 [(4, .int x4_33), (3, .int x3_32), (0, .ref (X.2.2 0)), (1, .int x1_2), (2, .int x2_9)] := hl
                        refine lv_goto (tgt := 38) hx hb dX11_makesGroups_80 (by decide) ?_
                        exact ih_38 x3_32 x4_33 _ _ _ hw (lv_sub hl [2, 3, 4, 1, 0] rfl) hf
                exact hL_38 fu 0 0 _ _ _ hw (lv_sub hl [2, 3, 4, 1, 0] rfl) hf
          exact hL_25 fu 0 M_3 _ _ _ hw (lv_sub hl [1, 2, 0] rfl) hf
  exact hL_7 fu 0 M_1 _ _ _ hw (lv_sub hl [1, 0] rfl) hf
abbrev rm_X11_makes : Room := { frames := 4, cells := 0, slots := 0, locals := 90 }
set_option maxRecDepth 100000 in
set_option maxHeartbeats 4000000 in
theorem c_X11_makes (l : Launch) (X : XT) (fu : Nat) (p1 : Int32) (M : Mem)  (rs : Mem) (hf : f_X11_makes fu p1 M = some rs) (sz : Nat) : Met l yX11_makes (wbig yX11_makes cX11_makes 5 none) rm_X11_makes (va_Pc [.ref (X.2.2 0), .int p1] (PW LM X M sz)) (QV LM X rs sz) 0 0 (AX LM X sz) := by
  refine met_go (L := LM) (M := M) (by decide +kernel) (Nat.le_of_ble_eq_true rfl) ?_
  intro p e s m args below meth c hsz B hr hlk hw ls hl
  subst hsz
  have hx := B.hx
  have hb := B.hb
  have hl : lv_has ls 5 [(0, .ref (X.2.2 0)), (1, .int p1)] := hl
  generalize hQ : MQ below _ args s 0 0 (AX LM X s.heap.size) = Q
  unfold f_X11_makes at hf
  refine lv_iconst (v := 1) hx hb dX11_makes_0 (by decide) ?_
  refine lv_istore_n (lv' := [(2, .int 1), (0, .ref (X.2.2 0)), (1, .int p1)]) hx hb dX11_makes_1 rfl hl (by decide) rfl (fun ls hl => ?_)
  refine lv_iconst (v := 0) hx hb dX11_makes_2 (by decide) ?_
  refine lv_istore_n (lv' := [(3, .int 0), (2, .int 1), (0, .ref (X.2.2 0)), (1, .int p1)]) hx hb dX11_makes_3 rfl hl (by decide) rfl (fun ls hl => ?_)
  refine jn_e hf (fun kk => ∀ (x2_2 : Int32) (M_3 : Mem) (H : Heap) (locs : List Loc) (ls : Array Slot), HW LM X M_3 s H locs → lv_has ls 5 [(0, .ref (X.2.2 0)), (2, .int x2_2)] → kk x2_2 M_3 = some rs → W p l e rm_X11_makes s m args below meth c H locs 0 0 Q (F0 m 97 ls [])) ?_ (fun k97_1 J97_1 hf => ?_)
  · intro x2_2 M_3 H locs ls hw hl hf
    refine lv_aload_n hx hb dX11_makes_97 rfl (lv_at hl 0 rfl) ?_
    refine lv_iconst (v := 0) hx hb dX11_makes_98 (by decide) ?_
    refine pt_X11_429 B hw dX11_makes_99 hf (fun M_4 H locs hw hf => ?_)
    refine lv_aload_n hx hb dX11_makes_102 rfl (lv_at hl 0 rfl) ?_
    refine lv_iconst (v := 0) hx hb dX11_makes_103 (by decide) ?_
    refine pt_X11_432 B hw dX11_makes_104 hf (fun M_5 H locs hw hf => ?_)
    refine lv_aload_n hx hb dX11_makes_107 rfl (lv_at hl 0 rfl) ?_
    refine lv_aload_n hx hb dX11_makes_108 rfl (lv_at hl 0 rfl) ?_
    refine gt_X11_317 B hw dX11_makes_109 ?_
    refine nmv_e hf (fun kk => ∀ (H : Heap) (locs : List Loc), HW LM X M_5 s H locs → W p l e rm_X11_makes s m args below meth c H locs 0 0 Q (F0 m 123 ls [.int kk, .ref (X.2.2 0)])) (fun J => ?_) (fun v_7 hf H locs hw => ?_)
    · refine lv_if_eq (tgt := 119) hx hb dX11_makes_112 (by decide) (fun c_6 => ?_) (fun c_6 => ?_)
      · rw [if_pos c_6] at J
        refine lv_aload_n hx hb dX11_makes_119 rfl (lv_at hl 0 rfl) ?_
        refine gt_X11_314 B hw dX11_makes_120 ?_
        exact J _ _ hw
      · rw [if_neg c_6] at J
        refine lv_iconst (v := 3) hx hb dX11_makes_115 (by decide) ?_
        refine lv_goto (tgt := 123) hx hb dX11_makes_116 (by decide) ?_
        exact J _ _ hw
    · refine pt_X11_442 B hw dX11_makes_123 hf (fun M_8 H locs hw hf => ?_)
      refine jn_e hf (fun kk => ∀ (M_10 : Mem) (H : Heap) (locs : List Loc) (ls : Array Slot), HW LM X M_10 s H locs → lv_has ls 5 [(0, .ref (X.2.2 0))] → kk M_10 = some rs → W p l e rm_X11_makes s m args below meth c H locs 0 0 Q (F0 m 170 ls [])) ?_ (fun k170_9 J170_9 hf => ?_)
      · intro M_10 H locs ls hw hl hf
        refine lv_aload_n hx hb dX11_makes_170 rfl (lv_at hl 0 rfl) ?_
        refine gt_X11_317 B hw dX11_makes_171 ?_
        refine lv_if_eq (tgt := 181) hx hb dX11_makes_174 (by decide) (fun c_11 => ?_) (fun c_11 => ?_)
        · have hf := it_e hf c_11
          cases hf
          subst hQ
          exact q_vret B hr hlk hw rfl dX11_makes_181
        · have hf := ie_e hf c_11
          refine lv_aload_n hx hb dX11_makes_177 rfl (lv_at hl 0 rfl) ?_
          obtain ⟨M_13, h_12, hf⟩ := bd_e hf
          refine q_callVv (M' := M_13) (i := 0) (As := []) (rest := []) B hw (c_X11_makesGroups l X fu M_10 M_13 h_12 _) cv_X11_458 (rc_11 B hw) rfl hl.1 rfl rfl ⟨Nat.le_of_ble_eq_true rfl, Nat.le_of_ble_eq_true rfl⟩ (Nat.le_of_ble_eq_true rfl) ⟨Nat.le_of_ble_eq_true rfl, Nat.le_of_ble_eq_true rfl⟩ dX11_makes_178 rfl (fun H locs hw => ?_)
          cases hf
          subst hQ
          exact q_vret B hr hlk hw rfl dX11_makes_181
      have hL_126 : ∀ (n_126 : Nat) (x2_14 : Int32) (M_15 : Mem) (H : Heap) (locs : List Loc) (ls : Array Slot), HW LM X M_15 s H locs → lv_has ls 5 [(0, .ref (X.2.2 0)), (2, .int x2_14)] → f_X11_makes_L126 fu k170_9 n_126 x2_14 M_15 = some rs → W p l e rm_X11_makes s m args below meth c H locs 0 0 Q (F0 m 126 ls []) := by
        intro n_126
        induction n_126 with
        | zero => intro x2_14 M_15 H locs ls hw hl hf; exact no_none hf
        | succ n_126 ih_126 =>
          intro x2_14 M_15 H locs ls hw hl hf
          rw [f_X11_makes_L126] at hf
          refine lv_iload_n hx hb dX11_makes_126 rfl (lv_at hl 1 rfl) ?_
          refine lv_if_eq (tgt := 170) hx hb dX11_makes_127 (by decide) (fun c_16 => ?_) (fun c_16 => ?_)
          · have hf := it_e hf c_16
            exact J170_9 M_15 _ _ _ hw (lv_sub hl [0] rfl) hf
          · have hf := ie_e hf c_16
            refine lv_aload_n hx hb dX11_makes_130 rfl (lv_at hl 0 rfl) ?_
            obtain ⟨r_18, h_17, hf⟩ := bd_e hf
            refine q_callVi (M' := M_15) (i := 0) (As := []) (rest := []) B hw (c_X11_areLinked l X fu M_15 r_18 h_17 _) cv_X11_445 (rc_11 B hw) rfl hl.1 rfl rfl ⟨Nat.le_of_ble_eq_true rfl, Nat.le_of_ble_eq_true rfl⟩ (Nat.le_of_ble_eq_true rfl) ⟨Nat.le_of_ble_eq_true rfl, Nat.le_of_ble_eq_true rfl⟩ dX11_makes_131 rfl (fun H locs hw => ?_)
            refine jn_e hf (fun kk => ∀ (M_20 : Mem) (H : Heap) (locs : List Loc) (ls : Array Slot), HW LM X M_20 s H locs → lv_has ls 5 [(0, .ref (X.2.2 0))] → kk M_20 = some rs → W p l e rm_X11_makes s m args below meth c H locs 0 0 Q (F0 m 162 ls [])) ?_ (fun k162_19 J162_19 hf => ?_)
            · intro M_20 H locs ls hw hl hf
              refine lv_aload_n hx hb dX11_makes_162 rfl (lv_at hl 0 rfl) ?_
              obtain ⟨r_22, M_23, h_21, hf⟩ := bm_e hf
              refine q_callVi (M' := M_23) (i := 0) (As := []) (rest := []) B hw (c_X11_goesOn l X fu M_20 (r_22, M_23) h_21 _) cv_X11_455 (rc_11 B hw) rfl hl.1 rfl rfl ⟨Nat.le_of_ble_eq_true rfl, Nat.le_of_ble_eq_true rfl⟩ (Nat.le_of_ble_eq_true rfl) ⟨Nat.le_of_ble_eq_true rfl, Nat.le_of_ble_eq_true rfl⟩ dX11_makes_163 rfl (fun H locs hw => ?_)
              refine lv_istore_n (lv' := [(2, .int r_22), (0, .ref (X.2.2 0))]) hx hb dX11_makes_166 rfl hl (by decide) rfl (fun ls hl => ?_)
              refine lv_goto (tgt := 126) hx hb dX11_makes_167 (by decide) ?_
              exact ih_126 r_22 M_23 _ _ _ hw (lv_sub hl [1, 0] rfl) hf
            refine jn_e hf (fun kk => ∀ (_ : Unit) (H : Heap) (locs : List Loc) (ls : Array Slot), HW LM X M_15 s H locs → lv_has ls 5 [(0, .ref (X.2.2 0))] → kk () = some rs → W p l e rm_X11_makes s m args below meth c H locs 0 0 Q (F0 m 151 ls [])) ?_ (fun k151_24 J151_24 hf => ?_)
            · intro _ H locs ls hw hl hf
              refine lv_aload_n hx hb dX11_makes_151 rfl (lv_at hl 0 rfl) ?_
              obtain ⟨r_26, h_25, hf⟩ := bd_e hf
              refine q_callVi (M' := M_15) (i := 0) (As := []) (rest := []) B hw (c_X11_areLinked l X fu M_15 r_26 h_25 _) cv_X11_445 (rc_11 B hw) rfl hl.1 rfl rfl ⟨Nat.le_of_ble_eq_true rfl, Nat.le_of_ble_eq_true rfl⟩ (Nat.le_of_ble_eq_true rfl) ⟨Nat.le_of_ble_eq_true rfl, Nat.le_of_ble_eq_true rfl⟩ dX11_makes_152 rfl (fun H locs hw => ?_)
              refine lv_if_eq (tgt := 162) hx hb dX11_makes_155 (by decide) (fun c_27 => ?_) (fun c_27 => ?_)
              · have hf := it_e hf c_27
                exact J162_19 M_15 _ _ _ hw (lv_sub hl [0] rfl) hf
              · have hf := ie_e hf c_27
                refine lv_aload_n hx hb dX11_makes_158 rfl (lv_at hl 0 rfl) ?_
                obtain ⟨M_29, h_28, hf⟩ := bd_e hf
                refine q_callVv (M' := M_29) (i := 0) (As := []) (rest := []) B hw (c_X11_addsMatch l X fu M_15 M_29 h_28 _) cv_X11_452 (rc_11 B hw) rfl hl.1 rfl rfl ⟨Nat.le_of_ble_eq_true rfl, Nat.le_of_ble_eq_true rfl⟩ (Nat.le_of_ble_eq_true rfl) ⟨Nat.le_of_ble_eq_true rfl, Nat.le_of_ble_eq_true rfl⟩ dX11_makes_159 rfl (fun H locs hw => ?_)
                exact J162_19 M_29 _ _ _ hw (lv_sub hl [0] rfl) hf
            refine lv_if_eq (tgt := 151) hx hb dX11_makes_134 (by decide) (fun c_30 => ?_) (fun c_30 => ?_)
            · have hf := it_e hf c_30
              exact J151_24 () _ _ _ hw (lv_sub hl [0] rfl) hf
            · have hf := ie_e hf c_30
              refine lv_aload_n hx hb dX11_makes_137 rfl (lv_at hl 0 rfl) ?_
              refine gt_X11_317 B hw dX11_makes_138 ?_
              refine lv_if_eq (tgt := 151) hx hb dX11_makes_141 (by decide) (fun c_31 => ?_) (fun c_31 => ?_)
              · have hf := it_e hf c_31
                exact J151_24 () _ _ _ hw (lv_sub hl [0] rfl) hf
              · have hf := ie_e hf c_31
                refine lv_aload_n hx hb dX11_makes_144 rfl (lv_at hl 0 rfl) ?_
                obtain ⟨M_33, h_32, hf⟩ := bd_e hf
                refine q_callVv (M' := M_33) (i := 0) (As := []) (rest := []) B hw (c_X11_addsToGroup l X fu M_15 M_33 h_32 _) cv_X11_449 (rc_11 B hw) rfl hl.1 rfl rfl ⟨Nat.le_of_ble_eq_true rfl, Nat.le_of_ble_eq_true rfl⟩ (Nat.le_of_ble_eq_true rfl) ⟨Nat.le_of_ble_eq_true rfl, Nat.le_of_ble_eq_true rfl⟩ dX11_makes_145 rfl (fun H locs hw => ?_)
                refine lv_goto (tgt := 162) hx hb dX11_makes_148 (by decide) ?_
                exact J162_19 M_33 _ _ _ hw (lv_sub hl [0] rfl) hf
      exact hL_126 fu x2_2 M_8 _ _ _ hw (lv_sub hl [0, 1] rfl) hf
  have hL_4 : ∀ (n_4 : Nat) (x2_34 : Int32) (x3_35 : Int32) (M_36 : Mem) (H : Heap) (locs : List Loc) (ls : Array Slot), HW LM X M_36 s H locs → lv_has ls 5 [(0, .ref (X.2.2 0)), (1, .int p1), (2, .int x2_34), (3, .int x3_35)] → f_X11_makes_L4 fu p1 k97_1 n_4 x2_34 x3_35 M_36 = some rs → W p l e rm_X11_makes s m args below meth c H locs 0 0 Q (F0 m 4 ls []) := by
    intro n_4
    induction n_4 with
    | zero => intro x2_34 x3_35 M_36 H locs ls hw hl hf; exact no_none hf
    | succ n_4 ih_4 =>
      intro x2_34 x3_35 M_36 H locs ls hw hl hf
      rw [f_X11_makes_L4] at hf
      refine lv_iload_n hx hb dX11_makes_4 rfl (lv_at hl 3 rfl) ?_
      refine lv_aload_n hx hb dX11_makes_5 rfl (lv_at hl 0 rfl) ?_
      refine gt_X11_299 B hw dX11_makes_6 ?_
      refine lv_icmp_ge (tgt := 97) hx hb dX11_makes_9 (by decide) (fun c_37 => ?_) (fun c_37 => ?_)
      · have hf := it_e hf c_37
        exact J97_1 x2_34 M_36 _ _ _ hw (lv_sub hl [0, 2] rfl) hf
      · have hf := ie_e hf c_37
        refine lv_aload_n hx hb dX11_makes_12 rfl (lv_at hl 0 rfl) ?_
        refine gt_X11_159 B hw dX11_makes_13 ?_
        refine lv_iload_n hx hb dX11_makes_16 rfl (lv_at hl 3 rfl) ?_
        refine lv_iconst (v := 0) hx hb dX11_makes_17 (by decide) ?_
        obtain ⟨g_38, hf⟩ := grd_e hf
        refine m_iast B hw (i := 49) rfl g_38 dX11_makes_18 hf (fun M_39 H locs hw hf => ?_)
        refine lv_aload_n hx hb dX11_makes_19 rfl (lv_at hl 0 rfl) ?_
        refine gt_X11_165 B hw dX11_makes_20 ?_
        refine lv_iload_n hx hb dX11_makes_23 rfl (lv_at hl 3 rfl) ?_
        refine lv_iconst (v := 0) hx hb dX11_makes_24 (by decide) ?_
        refine m_iast B hw (i := 51) rfl g_38 dX11_makes_25 hf (fun M_40 H locs hw hf => ?_)
        refine lv_iconst (v := 0) hx hb dX11_makes_26 (by decide) ?_
        refine lv_istore (lv' := [(4, .int 0), (0, .ref (X.2.2 0)), (1, .int p1), (2, .int x2_34), (3, .int x3_35)]) hx hb dX11_makes_27 hl (by decide) rfl (fun ls hl => ?_)
        refine jn_e hf (fun kk => ∀ (M_42 : Mem) (H : Heap) (locs : List Loc) (ls : Array Slot), HW LM X M_42 s H locs → lv_has ls 5 [(0, .ref (X.2.2 0)), (1, .int p1), (2, .int x2_34), (3, .int x3_35)] → kk M_42 = some rs → W p l e rm_X11_makes s m args below meth c H locs 0 0 Q (F0 m 72 ls [])) ?_ (fun k72_41 J72_41 hf => ?_)
        · intro M_42 H locs ls hw hl hf
          refine lv_iload_n hx hb dX11_makes_72 rfl (lv_at hl 2 rfl) ?_
          refine jn_e hf (fun kk => ∀ (_ : Unit) (H : Heap) (locs : List Loc) (ls : Array Slot), HW LM X M_42 s H locs → lv_has ls 5 [(0, .ref (X.2.2 0)), (1, .int p1), (3, .int x3_35)] → kk () = some rs → W p l e rm_X11_makes s m args below meth c H locs 0 0 Q (F0 m 89 ls [])) ?_ (fun k89_43 J89_43 hf => ?_)
          · intro _ H locs ls hw hl hf
            refine lv_iconst (v := 0) hx hb dX11_makes_89 (by decide) ?_
            refine lv_istore_n (lv' := [(2, .int 0), (0, .ref (X.2.2 0)), (1, .int p1), (3, .int x3_35)]) hx hb dX11_makes_90 rfl hl (by decide) rfl (fun ls hl => ?_)
            refine r_iinc (v := (x3_35 + 1)) hx hb dX11_makes_91 hl (k := 3) rfl rfl (by decide) hf (fun x3_44 ls hl hf => ?_)
            have hl : lv_has ls 5 [(3, .int x3_44), (2, .int 0), (0, .ref (X.2.2 0)), (1, .int p1)] := hl
            refine lv_goto (tgt := 4) hx hb dX11_makes_94 (by decide) ?_
            exact ih_4 0 x3_44 M_42 _ _ _ hw (lv_sub hl [2, 3, 1, 0] rfl) hf
          refine lv_if_eq (tgt := 89) hx hb dX11_makes_73 (by decide) (fun c_45 => ?_) (fun c_45 => ?_)
          · have hf := it_e hf c_45
            exact J89_43 () _ _ _ hw (lv_sub hl [0, 1, 3] rfl) hf
          · have hf := ie_e hf c_45
            refine lv_aload_n hx hb dX11_makes_76 rfl (lv_at hl 0 rfl) ?_
            refine gt_X11_159 B hw dX11_makes_77 ?_
            refine lv_iload_n hx hb dX11_makes_80 rfl (lv_at hl 3 rfl) ?_
            refine m_iald B hw (i := 49) rfl g_38 dX11_makes_81 ?_
            refine lv_if_le (tgt := 89) hx hb dX11_makes_82 (by decide) (fun c_46 => ?_) (fun c_46 => ?_)
            · have hf := it_e hf c_46
              exact J89_43 () _ _ _ hw (lv_sub hl [0, 1, 3] rfl) hf
            · have hf := ie_e hf c_46
              refine lv_iconst (v := 1) hx hb dX11_makes_85 (by decide) ?_
              refine lv_goto (tgt := 90) hx hb dX11_makes_86 (by decide) ?_
              refine lv_istore_n (lv' := [(2, .int 1), (0, .ref (X.2.2 0)), (1, .int p1), (3, .int x3_35)]) hx hb dX11_makes_90 rfl hl (by decide) rfl (fun ls hl => ?_)
              refine r_iinc (v := (x3_35 + 1)) hx hb dX11_makes_91 hl (k := 3) rfl rfl (by decide) hf (fun x3_47 ls hl hf => ?_)
              have hl : lv_has ls 5 [(3, .int x3_47), (2, .int 1), (0, .ref (X.2.2 0)), (1, .int p1)] := hl
              refine lv_goto (tgt := 4) hx hb dX11_makes_94 (by decide) ?_
              exact ih_4 1 x3_47 M_42 _ _ _ hw (lv_sub hl [2, 3, 1, 0] rfl) hf
        have hL_29 : ∀ (n_29 : Nat) (x4_48 : Int32) (M_49 : Mem) (H : Heap) (locs : List Loc) (ls : Array Slot), HW LM X M_49 s H locs → lv_has ls 5 [(0, .ref (X.2.2 0)), (1, .int p1), (2, .int x2_34), (3, .int x3_35), (4, .int x4_48)] → f_X11_makes_L29 fu p1 x3_35 k72_41 n_29 x4_48 M_49 = some rs → W p l e rm_X11_makes s m args below meth c H locs 0 0 Q (F0 m 29 ls []) := by
          intro n_29
          induction n_29 with
          | zero => intro x4_48 M_49 H locs ls hw hl hf; exact no_none hf
          | succ n_29 ih_29 =>
            intro x4_48 M_49 H locs ls hw hl hf
            rw [f_X11_makes_L29] at hf
            refine lv_iload hx hb dX11_makes_29 (lv_at hl 4 rfl) ?_
            refine lv_iload_n hx hb dX11_makes_31 rfl (lv_at hl 1 rfl) ?_
            refine jn_e hf (fun kk => ∀ (v_51 : Int32) (H : Heap) (locs : List Loc) (ls : Array Slot), HW LM X M_49 s H locs → lv_has ls 5 [(0, .ref (X.2.2 0)), (1, .int p1), (2, .int x2_34), (3, .int x3_35), (4, .int x4_48)] → kk v_51 = some rs → W p l e rm_X11_makes s m args below meth c H locs 0 0 Q (F0 m 55 ls [.int v_51, .int x4_48])) ?_ (fun k55_50 J55_50 hf => ?_)
            · intro v_51 H locs ls hw hl hf
              refine lv_icmp_ge (tgt := 72) hx hb dX11_makes_55 (by decide) (fun c_52 => ?_) (fun c_52 => ?_)
              · have hf := it_e hf c_52
                exact J72_41 M_49 _ _ _ hw (lv_sub hl [0, 1, 2, 3] rfl) hf
              · have hf := ie_e hf c_52
                refine lv_aload_n hx hb dX11_makes_58 rfl (lv_at hl 0 rfl) ?_
                refine lv_iload_n hx hb dX11_makes_59 rfl (lv_at hl 3 rfl) ?_
                refine lv_iload_n hx hb dX11_makes_60 rfl (lv_at hl 1 rfl) ?_
                refine lv_iload hx hb dX11_makes_61 (lv_at hl 4 rfl) ?_
                obtain ⟨M_54, h_53, hf⟩ := bd_e hf
                refine q_callVv (M' := M_54) (i := 0) (As := [.int x3_35, .int p1, .int x4_48]) (rest := []) B hw (c_X11_laysRow l X fu x3_35 p1 x4_48 M_49 M_54 h_53 _) cv_X11_438 (rc_11 B hw) rfl hl.1 rfl rfl ⟨Nat.le_of_ble_eq_true rfl, Nat.le_of_ble_eq_true rfl⟩ (Nat.le_of_ble_eq_true rfl) ⟨Nat.le_of_ble_eq_true rfl, Nat.le_of_ble_eq_true rfl⟩ dX11_makes_63 rfl (fun H locs hw => ?_)
                refine r_iinc (v := (x4_48 + 1)) hx hb dX11_makes_66 hl (k := 4) rfl rfl (by decide) hf (fun x4_55 ls hl hf => ?_)
                have hl : lv_has ls 5 [(4, .int x4_55), (0, .ref (X.2.2 0)), (1, .int p1), (2, .int x2_34), (3, .int x3_35)] := hl
                refine lv_goto (tgt := 29) hx hb dX11_makes_69 (by decide) ?_
                exact ih_29 x4_55 M_54 _ _ _ hw (lv_sub hl [1, 2, 3, 4, 0] rfl) hf
            refine lv_if_eq (tgt := 44) hx hb dX11_makes_32 (by decide) (fun c_56 => ?_) (fun c_56 => ?_)
            · have hf := it_e hf c_56
              refine lv_aload_n hx hb dX11_makes_44 rfl (lv_at hl 0 rfl) ?_
              refine gt_X11_7 B hw dX11_makes_45 ?_
              refine lv_aload_n hx hb dX11_makes_48 rfl (lv_at hl 0 rfl) ?_
              refine gt_X11_65 B hw dX11_makes_49 ?_
              refine lv_iload_n hx hb dX11_makes_52 rfl (lv_at hl 3 rfl) ?_
              obtain ⟨g_57, hf⟩ := grd_e hf
              refine m_iald B hw (i := 19) rfl g_57 dX11_makes_53 ?_
              obtain ⟨g_58, hf⟩ := grd_e hf
              refine m_iald B hw (i := 1) rfl g_58 dX11_makes_54 ?_
              exact J55_50 (M_49 1 (M_49 19 x3_35.toNatClampNeg).toNatClampNeg) _ _ _ hw (lv_sub hl [0, 1, 2, 3, 4] rfl) hf
            · have hf := ie_e hf c_56
              refine lv_aload_n hx hb dX11_makes_35 rfl (lv_at hl 0 rfl) ?_
              refine gt_X11_141 B hw dX11_makes_36 ?_
              refine lv_iload_n hx hb dX11_makes_39 rfl (lv_at hl 3 rfl) ?_
              obtain ⟨g_59, hf⟩ := grd_e hf
              refine m_iald B hw (i := 43) rfl g_59 dX11_makes_40 ?_
              refine lv_goto (tgt := 55) hx hb dX11_makes_41 (by decide) ?_
              exact J55_50 (M_49 43 x3_35.toNatClampNeg) _ _ _ hw (lv_sub hl [0, 1, 2, 3, 4] rfl) hf
        exact hL_29 fu 0 M_40 _ _ _ hw (lv_sub hl [1, 2, 3, 4, 0] rfl) hf
  exact hL_4 fu 1 0 M _ _ _ hw (lv_sub hl [2, 3, 1, 0] rfl) hf
abbrev rm_X11_isDrafted : Room := { frames := 0, cells := 0, slots := 0, locals := 0 }
set_option maxRecDepth 100000 in
set_option maxHeartbeats 4000000 in
theorem c_X11_isDrafted (l : Launch) (X : XT) (fu : Nat) (M : Mem)  (rs : Int32) (hf : f_X11_isDrafted fu M = some rs) (sz : Nat) : Met l yX11_isDrafted (wbig yX11_isDrafted cX11_isDrafted 1 (some .boolean)) rm_X11_isDrafted (va_Pc [.ref (X.2.2 0)] (PW LM X M sz)) (QI LM X M rs sz) 0 0 (AX LM X sz) := by
  refine met_go (L := LM) (M := M) (by decide +kernel) (Nat.le_of_ble_eq_true rfl) ?_
  intro p e s m args below meth c hsz B hr hlk hw ls hl
  subst hsz
  have hx := B.hx
  have hb := B.hb
  have hl : lv_has ls 1 [(0, .ref (X.2.2 0))] := hl
  generalize hQ : MQ below _ args s 0 0 (AX LM X s.heap.size) = Q
  unfold f_X11_isDrafted at hf
  refine lv_aload_n hx hb dX11_isDrafted_0 rfl (lv_at hl 0 rfl) ?_
  refine gt_X11_299 B hw dX11_isDrafted_1 ?_
  refine lv_if_le (tgt := 18) hx hb dX11_isDrafted_4 (by decide) (fun c_1 => ?_) (fun c_1 => ?_)
  · have hf := it_e hf c_1
    refine lv_iconst (v := 0) hx hb dX11_isDrafted_18 (by decide) ?_
    cases hf
    subst hQ
    exact q_zret B hr hlk rfl hw rfl rfl dX11_isDrafted_19
  · have hf := ie_e hf c_1
    refine lv_aload_n hx hb dX11_isDrafted_7 rfl (lv_at hl 0 rfl) ?_
    refine gt_X11_314 B hw dX11_isDrafted_8 ?_
    refine lv_if_le (tgt := 18) hx hb dX11_isDrafted_11 (by decide) (fun c_2 => ?_) (fun c_2 => ?_)
    · have hf := it_e hf c_2
      refine lv_iconst (v := 0) hx hb dX11_isDrafted_18 (by decide) ?_
      cases hf
      subst hQ
      exact q_zret B hr hlk rfl hw rfl rfl dX11_isDrafted_19
    · have hf := ie_e hf c_2
      refine lv_iconst (v := 1) hx hb dX11_isDrafted_14 (by decide) ?_
      refine lv_goto (tgt := 19) hx hb dX11_isDrafted_15 (by decide) ?_
      cases hf
      subst hQ
      exact q_zret B hr hlk rfl hw rfl rfl dX11_isDrafted_19
abbrev rm_X11_claimed : Room := { frames := 0, cells := 0, slots := 0, locals := 0 }
set_option maxRecDepth 100000 in
set_option maxHeartbeats 4000000 in
theorem c_X11_claimed (l : Launch) (X : XT) (fu : Nat) (M : Mem)  (rs : Int32) (hf : f_X11_claimed fu M = some rs) (sz : Nat) : Met l yX11_claimed (wbig yX11_claimed cX11_claimed 4 (some .int)) rm_X11_claimed (va_Pc [.ref (X.2.2 0)] (PW LM X M sz)) (QI LM X M rs sz) 0 0 (AX LM X sz) := by
  refine met_go (L := LM) (M := M) (by decide +kernel) (Nat.le_of_ble_eq_true rfl) ?_
  intro p e s m args below meth c hsz B hr hlk hw ls hl
  subst hsz
  have hx := B.hx
  have hb := B.hb
  have hl : lv_has ls 4 [(0, .ref (X.2.2 0))] := hl
  generalize hQ : MQ below _ args s 0 0 (AX LM X s.heap.size) = Q
  unfold f_X11_claimed at hf
  refine lv_iconst (v := 0) hx hb dX11_claimed_0 (by decide) ?_
  refine lv_istore_n (lv' := [(1, .int 0), (0, .ref (X.2.2 0))]) hx hb dX11_claimed_1 rfl hl (by decide) rfl (fun ls hl => ?_)
  refine lv_aload_n hx hb dX11_claimed_2 rfl (lv_at hl 1 rfl) ?_
  refine gt_X11_242 B hw dX11_claimed_3 ?_
  refine r_topn hf (fun x2_1 hf => ?_)
  refine lv_istore_n (lv' := [(2, .int x2_1), (1, .int 0), (0, .ref (X.2.2 0))]) hx hb dX11_claimed_6 rfl hl (by decide) rfl (fun ls hl => ?_)
  refine lv_iconst (v := 0) hx hb dX11_claimed_7 (by decide) ?_
  refine lv_istore_n (lv' := [(3, .int 0), (2, .int x2_1), (1, .int 0), (0, .ref (X.2.2 0))]) hx hb dX11_claimed_8 rfl hl (by decide) rfl (fun ls hl => ?_)
  refine jn_e hf (fun kk => ∀ (x1_3 : Int32) (x2_4 : Int32) (H : Heap) (locs : List Loc) (ls : Array Slot), HW LM X M s H locs → lv_has ls 4 [(0, .ref (X.2.2 0)), (1, .int x1_3), (2, .int x2_4)] → kk x1_3 x2_4 = some rs → W p l e rm_X11_claimed s m args below meth c H locs 0 0 Q (F0 m 65 ls [])) ?_ (fun k65_2 J65_2 hf => ?_)
  · intro x1_3 x2_4 H locs ls hw hl hf
    refine lv_aload_n hx hb dX11_claimed_65 rfl (lv_at hl 0 rfl) ?_
    refine gt_X11_420 B hw dX11_claimed_66 ?_
    refine lv_if_ne (tgt := 81) hx hb dX11_claimed_69 (by decide) (fun c_5 => ?_) (fun c_5 => ?_)
    · have hf := ie_e hf c_5
      refine lv_iconst (v := (-1)) hx hb dX11_claimed_81 (by decide) ?_
      cases hf
      subst hQ
      exact q_iret B hr hlk hw rfl rfl dX11_claimed_82
    · have hf := it_e hf c_5
      refine lv_iload_n hx hb dX11_claimed_72 rfl (lv_at hl 1 rfl) ?_
      refine lv_iload_n hx hb dX11_claimed_73 rfl (lv_at hl 2 rfl) ?_
      refine lv_icmp_gt (tgt := 81) hx hb dX11_claimed_74 (by decide) (fun c_6 => ?_) (fun c_6 => ?_)
      · have hf := it_e hf c_6
        refine lv_iconst (v := (-1)) hx hb dX11_claimed_81 (by decide) ?_
        cases hf
        subst hQ
        exact q_iret B hr hlk hw rfl rfl dX11_claimed_82
      · have hf := ie_e hf c_6
        refine lv_iload_n hx hb dX11_claimed_77 rfl (lv_at hl 2 rfl) ?_
        refine lv_goto (tgt := 82) hx hb dX11_claimed_78 (by decide) ?_
        cases hf
        subst hQ
        exact q_iret B hr hlk hw rfl rfl dX11_claimed_82
  have hL_9 : ∀ (n_9 : Nat) (x1_7 : Int32) (x2_8 : Int32) (x3_9 : Int32) (H : Heap) (locs : List Loc) (ls : Array Slot), HW LM X M s H locs → lv_has ls 4 [(0, .ref (X.2.2 0)), (1, .int x1_7), (2, .int x2_8), (3, .int x3_9)] → f_X11_claimed_L9 fu M k65_2 n_9 x1_7 x2_8 x3_9 = some rs → W p l e rm_X11_claimed s m args below meth c H locs 0 0 Q (F0 m 9 ls []) := by
    intro n_9
    induction n_9 with
    | zero => intro x1_7 x2_8 x3_9 H locs ls hw hl hf; exact no_none hf
    | succ n_9 ih_9 =>
      intro x1_7 x2_8 x3_9 H locs ls hw hl hf
      rw [f_X11_claimed_L9] at hf
      refine lv_iload_n hx hb dX11_claimed_9 rfl (lv_at hl 3 rfl) ?_
      refine lv_aload_n hx hb dX11_claimed_10 rfl (lv_at hl 0 rfl) ?_
      refine gt_X11_299 B hw dX11_claimed_11 ?_
      refine lv_icmp_ge (tgt := 65) hx hb dX11_claimed_14 (by decide) (fun c_10 => ?_) (fun c_10 => ?_)
      · have hf := it_e hf c_10
        exact J65_2 x1_7 x2_8 _ _ _ hw (lv_sub hl [0, 1, 2] rfl) hf
      · have hf := ie_e hf c_10
        refine lv_aload_n hx hb dX11_claimed_17 rfl (lv_at hl 0 rfl) ?_
        refine gt_X11_150 B hw dX11_claimed_18 ?_
        refine lv_iload_n hx hb dX11_claimed_21 rfl (lv_at hl 3 rfl) ?_
        obtain ⟨g_11, hf⟩ := grd_e hf
        refine m_iald B hw (i := 46) rfl g_11 dX11_claimed_22 ?_
        refine lv_iload_n hx hb dX11_claimed_23 rfl (lv_at hl 1 rfl) ?_
        refine nmv_e hf (fun kk => ∀ (H : Heap) (locs : List Loc), HW LM X M s H locs → W p l e rm_X11_claimed s m args below meth c H locs 0 0 Q (F0 m 37 ls [.int kk])) (fun J => ?_) (fun v_13 hf H locs hw => ?_)
        · refine lv_icmp_le (tgt := 36) hx hb dX11_claimed_24 (by decide) (fun c_12 => ?_) (fun c_12 => ?_)
          · rw [if_pos c_12] at J
            refine lv_iload_n hx hb dX11_claimed_36 rfl (lv_at hl 1 rfl) ?_
            exact J _ _ hw
          · rw [if_neg c_12] at J
            refine lv_aload_n hx hb dX11_claimed_27 rfl (lv_at hl 0 rfl) ?_
            refine gt_X11_150 B hw dX11_claimed_28 ?_
            refine lv_iload_n hx hb dX11_claimed_31 rfl (lv_at hl 3 rfl) ?_
            refine m_iald B hw (i := 46) rfl g_11 dX11_claimed_32 ?_
            refine lv_goto (tgt := 37) hx hb dX11_claimed_33 (by decide) ?_
            exact J _ _ hw
        · refine lv_istore_n (lv' := [(1, .int v_13), (0, .ref (X.2.2 0)), (2, .int x2_8), (3, .int x3_9)]) hx hb dX11_claimed_37 rfl hl (by decide) rfl (fun ls hl => ?_)
          refine lv_aload_n hx hb dX11_claimed_38 rfl (lv_at hl 1 rfl) ?_
          refine gt_X11_153 B hw dX11_claimed_39 ?_
          refine lv_iload_n hx hb dX11_claimed_42 rfl (lv_at hl 3 rfl) ?_
          refine m_iald B hw (i := 47) rfl g_11 dX11_claimed_43 ?_
          refine lv_iload_n hx hb dX11_claimed_44 rfl (lv_at hl 2 rfl) ?_
          refine lv_icmp_ge (tgt := 57) hx hb dX11_claimed_45 (by decide) (fun c_14 => ?_) (fun c_14 => ?_)
          · have hf := it_e hf c_14
            refine lv_iload_n hx hb dX11_claimed_57 rfl (lv_at hl 2 rfl) ?_
            refine lv_istore_n (lv' := [(2, .int x2_8), (1, .int v_13), (0, .ref (X.2.2 0)), (3, .int x3_9)]) hx hb dX11_claimed_58 rfl hl (by decide) rfl (fun ls hl => ?_)
            refine r_iinc (v := (x3_9 + 1)) hx hb dX11_claimed_59 hl (k := 3) rfl rfl (by decide) hf (fun x3_15 ls hl hf => ?_)
            have hl : lv_has ls 4 [(3, .int x3_15), (2, .int x2_8), (1, .int v_13), (0, .ref (X.2.2 0))] := hl
            refine lv_goto (tgt := 9) hx hb dX11_claimed_62 (by decide) ?_
            exact ih_9 v_13 x2_8 x3_15 _ _ _ hw (lv_sub hl [3, 2, 1, 0] rfl) hf
          · have hf := ie_e hf c_14
            refine lv_aload_n hx hb dX11_claimed_48 rfl (lv_at hl 1 rfl) ?_
            refine gt_X11_153 B hw dX11_claimed_49 ?_
            refine lv_iload_n hx hb dX11_claimed_52 rfl (lv_at hl 3 rfl) ?_
            refine m_iald B hw (i := 47) rfl g_11 dX11_claimed_53 ?_
            refine lv_goto (tgt := 58) hx hb dX11_claimed_54 (by decide) ?_
            refine r_topn hf (fun x2_16 hf => ?_)
            refine lv_istore_n (lv' := [(2, .int x2_16), (1, .int v_13), (0, .ref (X.2.2 0)), (3, .int x3_9)]) hx hb dX11_claimed_58 rfl hl (by decide) rfl (fun ls hl => ?_)
            refine r_iinc (v := (x3_9 + 1)) hx hb dX11_claimed_59 hl (k := 3) rfl rfl (by decide) hf (fun x3_17 ls hl hf => ?_)
            have hl : lv_has ls 4 [(3, .int x3_17), (2, .int x2_16), (1, .int v_13), (0, .ref (X.2.2 0))] := hl
            refine lv_goto (tgt := 9) hx hb dX11_claimed_62 (by decide) ?_
            exact ih_9 v_13 x2_16 x3_17 _ _ _ hw (lv_sub hl [3, 2, 1, 0] rfl) hf
  exact hL_9 fu 0 x2_1 0 _ _ _ hw (lv_sub hl [3, 2, 1, 0] rfl) hf
abbrev rm_X11_ask : Room := { frames := 8, cells := 0, slots := 0, locals := 188 }
set_option maxRecDepth 100000 in
set_option maxHeartbeats 4000000 in
theorem c_X11_ask (l : Launch) (X : XT) (fu : Nat) (p1 : Int32) (p2 : Int32) (M : Mem)  (rs : (Int32 × Mem)) (hf : f_X11_ask fu p1 p2 M = some rs) (sz : Nat) : Met l yX11_ask (wbig yX11_ask cX11_ask 4 (some .int)) rm_X11_ask (va_Pc [.ref (X.2.2 0), .int p1, .int p2] (PW LM X M sz)) (QI LM X rs.2 rs.1 sz) 0 0 (AX LM X sz) := by
  refine met_go (L := LM) (M := M) (by decide +kernel) (Nat.le_of_ble_eq_true rfl) ?_
  intro p e s m args below meth c hsz B hr hlk hw ls hl
  subst hsz
  have hx := B.hx
  have hb := B.hb
  have hl : lv_has ls 4 [(0, .ref (X.2.2 0)), (1, .int p1), (2, .int p2)] := hl
  generalize hQ : MQ below _ args s 0 0 (AX LM X s.heap.size) = Q
  unfold f_X11_ask at hf
  refine lv_aload_n hx hb dX11_ask_0 rfl (lv_at hl 0 rfl) ?_
  refine lv_iload_n hx hb dX11_ask_1 rfl (lv_at hl 1 rfl) ?_
  refine lv_iconst (v := 0) hx hb dX11_ask_2 (by decide) ?_
  refine lv_sipush (v := 200) hx hb dX11_ask_3 (by decide) ?_
  refine q_callSi (M' := M) (As := [.int p1, .int 0, .int 200]) (rest := [.ref (X.2.2 0)]) B hw (c_X11_in l X p1 0 200 _ rfl M _) cs_X11_216 rfl hl.1 rfl rfl ⟨Nat.le_of_ble_eq_true rfl, Nat.le_of_ble_eq_true rfl⟩ (Nat.le_of_ble_eq_true rfl) ⟨Nat.le_of_ble_eq_true rfl, Nat.le_of_ble_eq_true rfl⟩ dX11_ask_6 rfl (fun H locs hw => ?_)
  refine jn_e hf (fun kk => ∀ (v_2 : Int32) (H : Heap) (locs : List Loc) (ls : Array Slot), HW LM X M s H locs → lv_has ls 4 [(0, .ref (X.2.2 0)), (1, .int p1), (2, .int p2)] → kk v_2 = some rs → W p l e rm_X11_ask s m args below meth c H locs 0 0 Q (F0 m 39 ls [.int v_2, .ref (X.2.2 0)])) ?_ (fun k39_1 J39_1 hf => ?_)
  · intro v_2 H locs ls hw hl hf
    refine pt_X11_213 B hw dX11_ask_39 hf (fun M_3 H locs hw hf => ?_)
    refine lv_aload_n hx hb dX11_ask_42 rfl (lv_at hl 0 rfl) ?_
    refine gt_X11_213 B hw dX11_ask_43 ?_
    refine lv_if_le (tgt := 51) hx hb dX11_ask_46 (by decide) (fun c_4 => ?_) (fun c_4 => ?_)
    · have hf := it_e hf c_4
      refine lv_aload_n hx hb dX11_ask_51 rfl (lv_at hl 0 rfl) ?_
      refine lv_aload_n hx hb dX11_ask_52 rfl (lv_at hl 0 rfl) ?_
      refine gt_X11_235 B hw dX11_ask_53 ?_
      refine pt_X11_330 B hw dX11_ask_56 hf (fun M_5 H locs hw hf => ?_)
      refine lv_aload_n hx hb dX11_ask_59 rfl (lv_at hl 0 rfl) ?_
      refine lv_iload_n hx hb dX11_ask_60 rfl (lv_at hl 1 rfl) ?_
      refine pt_X11_380 B hw dX11_ask_61 hf (fun M_6 H locs hw hf => ?_)
      refine lv_aload_n hx hb dX11_ask_64 rfl (lv_at hl 0 rfl) ?_
      refine lv_iload_n hx hb dX11_ask_65 rfl (lv_at hl 2 rfl) ?_
      refine pt_X11_333 B hw dX11_ask_66 hf (fun M_7 H locs hw hf => ?_)
      refine lv_aload_n hx hb dX11_ask_69 rfl (lv_at hl 0 rfl) ?_
      refine lv_iconst (v := 0) hx hb dX11_ask_70 (by decide) ?_
      refine pt_X11_420 B hw dX11_ask_71 hf (fun M_8 H locs hw hf => ?_)
      refine lv_aload_n hx hb dX11_ask_74 rfl (lv_at hl 0 rfl) ?_
      refine lv_iconst (v := 0) hx hb dX11_ask_75 (by decide) ?_
      refine pt_X11_342 B hw dX11_ask_76 hf (fun M_9 H locs hw hf => ?_)
      refine lv_aload_n hx hb dX11_ask_79 rfl (lv_at hl 0 rfl) ?_
      refine lv_iconst (v := 0) hx hb dX11_ask_80 (by decide) ?_
      refine pt_X11_336 B hw dX11_ask_81 hf (fun M_10 H locs hw hf => ?_)
      refine lv_aload_n hx hb dX11_ask_84 rfl (lv_at hl 0 rfl) ?_
      refine lv_iconst (v := 0) hx hb dX11_ask_85 (by decide) ?_
      refine pt_X11_364 B hw dX11_ask_86 hf (fun M_11 H locs hw hf => ?_)
      refine lv_aload_n hx hb dX11_ask_89 rfl (lv_at hl 0 rfl) ?_
      refine lv_iconst (v := 0) hx hb dX11_ask_90 (by decide) ?_
      refine pt_X11_423 B hw dX11_ask_91 hf (fun M_12 H locs hw hf => ?_)
      refine lv_iconst (v := 0) hx hb dX11_ask_94 (by decide) ?_
      refine lv_istore_n (lv' := [(3, .int 0), (0, .ref (X.2.2 0)), (1, .int p1), (2, .int p2)]) hx hb dX11_ask_95 rfl hl (by decide) rfl (fun ls hl => ?_)
      refine jn_e hf (fun kk => ∀ (M_14 : Mem) (H : Heap) (locs : List Loc) (ls : Array Slot), HW LM X M_14 s H locs → lv_has ls 4 [(0, .ref (X.2.2 0))] → kk M_14 = some rs → W p l e rm_X11_ask s m args below meth c H locs 0 0 Q (F0 m 114 ls [])) ?_ (fun k114_13 J114_13 hf => ?_)
      · intro M_14 H locs ls hw hl hf
        refine jn_e hf (fun kk => ∀ (M_16 : Mem) (H : Heap) (locs : List Loc) (ls : Array Slot), HW LM X M_16 s H locs → lv_has ls 4 [(0, .ref (X.2.2 0))] → kk M_16 = some rs → W p l e rm_X11_ask s m args below meth c H locs 0 0 Q (F0 m 136 ls [])) ?_ (fun k136_15 J136_15 hf => ?_)
        · intro M_16 H locs ls hw hl hf
          refine lv_aload_n hx hb dX11_ask_136 rfl (lv_at hl 0 rfl) ?_
          refine lv_iconst (v := 1) hx hb dX11_ask_137 (by decide) ?_
          obtain ⟨M_18, h_17, hf⟩ := bd_e hf
          refine q_callVv (M' := M_18) (i := 0) (As := [.int 1]) (rest := []) B hw (c_X11_makes l X fu 1 M_16 M_18 h_17 _) cv_X11_471 (rc_11 B hw) rfl hl.1 rfl rfl ⟨Nat.le_of_ble_eq_true rfl, Nat.le_of_ble_eq_true rfl⟩ (Nat.le_of_ble_eq_true rfl) ⟨Nat.le_of_ble_eq_true rfl, Nat.le_of_ble_eq_true rfl⟩ dX11_ask_138 rfl (fun H locs hw => ?_)
          refine lv_aload_n hx hb dX11_ask_141 rfl (lv_at hl 0 rfl) ?_
          refine lv_aload_n hx hb dX11_ask_142 rfl (lv_at hl 0 rfl) ?_
          refine gt_X11_429 B hw dX11_ask_143 ?_
          refine pt_X11_475 B hw dX11_ask_146 hf (fun M_19 H locs hw hf => ?_)
          refine lv_aload_n hx hb dX11_ask_149 rfl (lv_at hl 0 rfl) ?_
          refine lv_aload_n hx hb dX11_ask_150 rfl (lv_at hl 0 rfl) ?_
          refine gt_X11_442 B hw dX11_ask_151 ?_
          refine pt_X11_478 B hw dX11_ask_154 hf (fun M_20 H locs hw hf => ?_)
          refine lv_iconst (v := 0) hx hb dX11_ask_157 (by decide) ?_
          refine lv_istore_n (lv' := [(3, .int 0), (0, .ref (X.2.2 0))]) hx hb dX11_ask_158 rfl hl (by decide) rfl (fun ls hl => ?_)
          refine jn_e hf (fun kk => ∀ (M_22 : Mem) (H : Heap) (locs : List Loc) (ls : Array Slot), HW LM X M_22 s H locs → lv_has ls 4 [(0, .ref (X.2.2 0))] → kk M_22 = some rs → W p l e rm_X11_ask s m args below meth c H locs 0 0 Q (F0 m 183 ls [])) ?_ (fun k183_21 J183_21 hf => ?_)
          · intro M_22 H locs ls hw hl hf
            refine lv_aload_n hx hb dX11_ask_183 rfl (lv_at hl 0 rfl) ?_
            refine lv_aload_n hx hb dX11_ask_184 rfl (lv_at hl 0 rfl) ?_
            obtain ⟨r_24, h_23, hf⟩ := bd_e hf
            refine q_callVi (M' := M_22) (i := 0) (As := []) (rest := [.ref (X.2.2 0)]) B hw (c_X11_claimed l X fu M_22 r_24 h_23 _) cv_X11_481 (rc_11 B hw) rfl hl.1 rfl rfl ⟨Nat.le_of_ble_eq_true rfl, Nat.le_of_ble_eq_true rfl⟩ (Nat.le_of_ble_eq_true rfl) ⟨Nat.le_of_ble_eq_true rfl, Nat.le_of_ble_eq_true rfl⟩ dX11_ask_185 rfl (fun H locs hw => ?_)
            refine pt_X11_183 B hw dX11_ask_188 hf (fun M_25 H locs hw hf => ?_)
            refine lv_aload_n hx hb dX11_ask_191 rfl (lv_at hl 0 rfl) ?_
            refine gt_X11_475 B hw dX11_ask_192 ?_
            cases hf
            subst hQ
            exact q_iret B hr hlk hw rfl rfl dX11_ask_195
          have hL_159 : ∀ (n_159 : Nat) (x3_26 : Int32) (M_27 : Mem) (H : Heap) (locs : List Loc) (ls : Array Slot), HW LM X M_27 s H locs → lv_has ls 4 [(0, .ref (X.2.2 0)), (3, .int x3_26)] → f_X11_ask_L159 fu k183_21 n_159 x3_26 M_27 = some rs → W p l e rm_X11_ask s m args below meth c H locs 0 0 Q (F0 m 159 ls []) := by
            intro n_159
            induction n_159 with
            | zero => intro x3_26 M_27 H locs ls hw hl hf; exact no_none hf
            | succ n_159 ih_159 =>
              intro x3_26 M_27 H locs ls hw hl hf
              rw [f_X11_ask_L159] at hf
              refine lv_iload_n hx hb dX11_ask_159 rfl (lv_at hl 1 rfl) ?_
              refine lv_bipush (v := 120) hx hb dX11_ask_160 (by decide) ?_
              refine lv_icmp_ge (tgt := 183) hx hb dX11_ask_162 (by decide) (fun c_28 => ?_) (fun c_28 => ?_)
              · have hf := it_e hf c_28
                exact J183_21 M_27 _ _ _ hw (lv_sub hl [0] rfl) hf
              · have hf := ie_e hf c_28
                refine lv_aload_n hx hb dX11_ask_165 rfl (lv_at hl 0 rfl) ?_
                refine gt_X11_180 B hw dX11_ask_166 ?_
                refine lv_iload_n hx hb dX11_ask_169 rfl (lv_at hl 1 rfl) ?_
                refine lv_aload_n hx hb dX11_ask_170 rfl (lv_at hl 0 rfl) ?_
                refine gt_X11_168 B hw dX11_ask_171 ?_
                refine lv_iload_n hx hb dX11_ask_174 rfl (lv_at hl 1 rfl) ?_
                obtain ⟨g_29, hf⟩ := grd_e hf
                refine m_iald B hw (i := 52) rfl g_29 dX11_ask_175 ?_
                refine m_iast B hw (i := 56) rfl g_29 dX11_ask_176 hf (fun M_30 H locs hw hf => ?_)
                refine r_iinc (v := (x3_26 + 1)) hx hb dX11_ask_177 hl (k := 1) rfl rfl (by decide) hf (fun x3_31 ls hl hf => ?_)
                have hl : lv_has ls 4 [(3, .int x3_31), (0, .ref (X.2.2 0))] := hl
                refine lv_goto (tgt := 159) hx hb dX11_ask_180 (by decide) ?_
                exact ih_159 x3_31 M_30 _ _ _ hw (lv_sub hl [1, 0] rfl) hf
          exact hL_159 fu 0 M_20 _ _ _ hw (lv_sub hl [1, 0] rfl) hf
        have hL_114 : ∀ (n_114 : Nat) (M_32 : Mem) (H : Heap) (locs : List Loc) (ls : Array Slot), HW LM X M_32 s H locs → lv_has ls 4 [(0, .ref (X.2.2 0))] → f_X11_ask_L114 fu k136_15 n_114 M_32 = some rs → W p l e rm_X11_ask s m args below meth c H locs 0 0 Q (F0 m 114 ls []) := by
          intro n_114
          induction n_114 with
          | zero => intro M_32 H locs ls hw hl hf; exact no_none hf
          | succ n_114 ih_114 =>
            intro M_32 H locs ls hw hl hf
            rw [f_X11_ask_L114] at hf
            refine lv_aload_n hx hb dX11_ask_114 rfl (lv_at hl 0 rfl) ?_
            refine gt_X11_423 B hw dX11_ask_115 ?_
            refine lv_aload_n hx hb dX11_ask_118 rfl (lv_at hl 0 rfl) ?_
            refine gt_X11_299 B hw dX11_ask_119 ?_
            refine lv_icmp_ge (tgt := 136) hx hb dX11_ask_122 (by decide) (fun c_33 => ?_) (fun c_33 => ?_)
            · have hf := it_e hf c_33
              exact J136_15 M_32 _ _ _ hw (lv_sub hl [0] rfl) hf
            · have hf := ie_e hf c_33
              refine lv_aload_n hx hb dX11_ask_125 rfl (lv_at hl 0 rfl) ?_
              refine lv_aload_n hx hb dX11_ask_126 rfl (lv_at hl 0 rfl) ?_
              obtain ⟨r_35, h_34, hf⟩ := bd_e hf
              refine q_callVi (M' := M_32) (i := 0) (As := []) (rest := [.ref (X.2.2 0)]) B hw (c_X11_nextSeat l X fu M_32 r_35 h_34 _) cv_X11_464 (rc_11 B hw) rfl hl.1 rfl rfl ⟨Nat.le_of_ble_eq_true rfl, Nat.le_of_ble_eq_true rfl⟩ (Nat.le_of_ble_eq_true rfl) ⟨Nat.le_of_ble_eq_true rfl, Nat.le_of_ble_eq_true rfl⟩ dX11_ask_127 rfl (fun H locs hw => ?_)
              obtain ⟨M_37, h_36, hf⟩ := bd_e hf
              refine q_callVv (M' := M_37) (i := 0) (As := [.int r_35]) (rest := []) B hw (c_X11_takes l X fu r_35 M_32 M_37 h_36 _) cv_X11_468 (rc_11 B hw) rfl hl.1 rfl rfl ⟨Nat.le_of_ble_eq_true rfl, Nat.le_of_ble_eq_true rfl⟩ (Nat.le_of_ble_eq_true rfl) ⟨Nat.le_of_ble_eq_true rfl, Nat.le_of_ble_eq_true rfl⟩ dX11_ask_130 rfl (fun H locs hw => ?_)
              refine lv_goto (tgt := 114) hx hb dX11_ask_133 (by decide) ?_
              exact ih_114 M_37 _ _ _ hw (lv_sub hl [0] rfl) hf
        exact hL_114 fu M_14 _ _ _ hw (lv_sub hl [0] rfl) hf
      have hL_96 : ∀ (n_96 : Nat) (x3_38 : Int32) (M_39 : Mem) (H : Heap) (locs : List Loc) (ls : Array Slot), HW LM X M_39 s H locs → lv_has ls 4 [(0, .ref (X.2.2 0)), (3, .int x3_38)] → f_X11_ask_L96 fu k114_13 n_96 x3_38 M_39 = some rs → W p l e rm_X11_ask s m args below meth c H locs 0 0 Q (F0 m 96 ls []) := by
        intro n_96
        induction n_96 with
        | zero => intro x3_38 M_39 H locs ls hw hl hf; exact no_none hf
        | succ n_96 ih_96 =>
          intro x3_38 M_39 H locs ls hw hl hf
          rw [f_X11_ask_L96] at hf
          refine lv_iload_n hx hb dX11_ask_96 rfl (lv_at hl 1 rfl) ?_
          refine lv_iconst (v := 3) hx hb dX11_ask_97 (by decide) ?_
          refine lv_icmp_ge (tgt := 114) hx hb dX11_ask_98 (by decide) (fun c_40 => ?_) (fun c_40 => ?_)
          · have hf := it_e hf c_40
            exact J114_13 M_39 _ _ _ hw (lv_sub hl [0] rfl) hf
          · have hf := ie_e hf c_40
            refine lv_aload_n hx hb dX11_ask_101 rfl (lv_at hl 0 rfl) ?_
            refine gt_X11_138 B hw dX11_ask_102 ?_
            refine lv_iload_n hx hb dX11_ask_105 rfl (lv_at hl 1 rfl) ?_
            refine lv_iconst (v := 0) hx hb dX11_ask_106 (by decide) ?_
            obtain ⟨g_41, hf⟩ := grd_e hf
            refine m_zast B hw (i := 42) rfl g_41 rfl dX11_ask_107 hf (fun M_42 H locs hw hf => ?_)
            refine r_iinc (v := (x3_38 + 1)) hx hb dX11_ask_108 hl (k := 1) rfl rfl (by decide) hf (fun x3_43 ls hl hf => ?_)
            have hl : lv_has ls 4 [(3, .int x3_43), (0, .ref (X.2.2 0))] := hl
            refine lv_goto (tgt := 96) hx hb dX11_ask_111 (by decide) ?_
            exact ih_96 x3_43 M_42 _ _ _ hw (lv_sub hl [1, 0] rfl) hf
      exact hL_96 fu 0 M_12 _ _ _ hw (lv_sub hl [1, 0] rfl) hf
    · have hf := ie_e hf c_4
      refine lv_iconst (v := 0) hx hb dX11_ask_49 (by decide) ?_
      cases hf
      subst hQ
      exact q_iret B hr hlk hw rfl rfl dX11_ask_50
  refine jn_e hf (fun kk => ∀ (_ : Unit) (H : Heap) (locs : List Loc) (ls : Array Slot), HW LM X M s H locs → lv_has ls 4 [(0, .ref (X.2.2 0)), (1, .int p1), (2, .int p2)] → kk () = some rs → W p l e rm_X11_ask s m args below meth c H locs 0 0 Q (F0 m 23 ls [.ref (X.2.2 0)])) ?_ (fun k23_44 J23_44 hf => ?_)
  · intro _ H locs ls hw hl hf
    refine lv_iconst (v := 1) hx hb dX11_ask_23 (by decide) ?_
    refine lv_goto (tgt := 39) hx hb dX11_ask_24 (by decide) ?_
    exact J39_1 1 _ _ _ hw (lv_sub hl [0, 1, 2] rfl) hf
  refine lv_if_eq (tgt := 23) hx hb dX11_ask_9 (by decide) (fun c_45 => ?_) (fun c_45 => ?_)
  · have hf := it_e hf c_45
    exact J23_44 () _ _ _ hw (lv_sub hl [0, 1, 2] rfl) hf
  · have hf := ie_e hf c_45
    refine lv_iload_n hx hb dX11_ask_12 rfl (lv_at hl 2 rfl) ?_
    refine lv_iconst (v := 0) hx hb dX11_ask_13 (by decide) ?_
    refine lv_sipush (v := 200) hx hb dX11_ask_14 (by decide) ?_
    refine q_callSi (M' := M) (As := [.int p2, .int 0, .int 200]) (rest := [.ref (X.2.2 0)]) B hw (c_X11_in l X p2 0 200 _ rfl M _) cs_X11_216 rfl hl.1 rfl rfl ⟨Nat.le_of_ble_eq_true rfl, Nat.le_of_ble_eq_true rfl⟩ (Nat.le_of_ble_eq_true rfl) ⟨Nat.le_of_ble_eq_true rfl, Nat.le_of_ble_eq_true rfl⟩ dX11_ask_17 rfl (fun H locs hw => ?_)
    refine lv_if_ne (tgt := 27) hx hb dX11_ask_20 (by decide) (fun c_46 => ?_) (fun c_46 => ?_)
    · have hf := ie_e hf c_46
      refine lv_aload_n hx hb dX11_ask_27 rfl (lv_at hl 0 rfl) ?_
      obtain ⟨r_48, h_47, hf⟩ := bd_e hf
      refine q_callVi (M' := M) (i := 0) (As := []) (rest := [.ref (X.2.2 0)]) B hw (c_X11_isDrafted l X fu M r_48 h_47 _) cv_X11_461 (rc_11 B hw) rfl hl.1 rfl rfl ⟨Nat.le_of_ble_eq_true rfl, Nat.le_of_ble_eq_true rfl⟩ (Nat.le_of_ble_eq_true rfl) ⟨Nat.le_of_ble_eq_true rfl, Nat.le_of_ble_eq_true rfl⟩ dX11_ask_28 rfl (fun H locs hw => ?_)
      refine lv_if_eq (tgt := 38) hx hb dX11_ask_31 (by decide) (fun c_49 => ?_) (fun c_49 => ?_)
      · have hf := it_e hf c_49
        refine lv_iconst (v := 2) hx hb dX11_ask_38 (by decide) ?_
        exact J39_1 2 _ _ _ hw (lv_sub hl [0, 1, 2] rfl) hf
      · have hf := ie_e hf c_49
        refine lv_iconst (v := 0) hx hb dX11_ask_34 (by decide) ?_
        refine lv_goto (tgt := 39) hx hb dX11_ask_35 (by decide) ?_
        exact J39_1 0 _ _ _ hw (lv_sub hl [0, 1, 2] rfl) hf
    · have hf := it_e hf c_46
      exact J23_44 () _ _ _ hw (lv_sub hl [0, 1, 2] rfl) hf
abbrev rm_X11_answers : Room := { frames := 0, cells := 0, slots := 0, locals := 0 }
set_option maxRecDepth 100000 in
set_option maxHeartbeats 4000000 in
theorem c_X11_answers (l : Launch) (X : XT) (fu : Nat) (M : Mem)  (rs : (Int32 × Mem)) (hf : f_X11_answers fu M = some rs) (sz : Nat) : Met l yX11_answers (wbig yX11_answers cX11_answers 1 (some .int)) rm_X11_answers (va_Pc [.ref (X.2.2 0)] (PW LM X M sz)) (QI LM X rs.2 rs.1 sz) 0 0 (AX LM X sz) := by
  refine met_go (L := LM) (M := M) (by decide +kernel) (Nat.le_of_ble_eq_true rfl) ?_
  intro p e s m args below meth c hsz B hr hlk hw ls hl
  subst hsz
  have hx := B.hx
  have hb := B.hb
  have hl : lv_has ls 1 [(0, .ref (X.2.2 0))] := hl
  generalize hQ : MQ below _ args s 0 0 (AX LM X s.heap.size) = Q
  unfold f_X11_answers at hf
  refine lv_aload_n hx hb dX11_answers_0 rfl (lv_at hl 0 rfl) ?_
  refine lv_iconst (v := 0) hx hb dX11_answers_1 (by decide) ?_
  refine pt_X11_213 B hw dX11_answers_2 hf (fun M_1 H locs hw hf => ?_)
  refine lv_aload_n hx hb dX11_answers_5 rfl (lv_at hl 0 rfl) ?_
  refine gt_X11_475 B hw dX11_answers_6 ?_
  cases hf
  subst hQ
  exact q_iret B hr hlk hw rfl rfl dX11_answers_9
abbrev rm_X11_answer : Room := { frames := 1, cells := 0, slots := 0, locals := 22 }
set_option maxRecDepth 100000 in
set_option maxHeartbeats 4000000 in
theorem c_X11_answer (l : Launch) (X : XT) (fu : Nat) (p1 : Int32) (p2 : Int32) (M : Mem)  (rs : (Int32 × Mem)) (hf : f_X11_answer fu p1 p2 M = some rs) (sz : Nat) : Met l yX11_answer (wbig yX11_answer cX11_answer 3 (some .int)) rm_X11_answer (va_Pc [.ref (X.2.2 0), .int p1, .int p2] (PW LM X M sz)) (QI LM X rs.2 rs.1 sz) 0 0 (AX LM X sz) := by
  refine met_go (L := LM) (M := M) (by decide +kernel) (Nat.le_of_ble_eq_true rfl) ?_
  intro p e s m args below meth c hsz B hr hlk hw ls hl
  subst hsz
  have hx := B.hx
  have hb := B.hb
  have hl : lv_has ls 3 [(0, .ref (X.2.2 0)), (1, .int p1), (2, .int p2)] := hl
  generalize hQ : MQ below _ args s 0 0 (AX LM X s.heap.size) = Q
  unfold f_X11_answer at hf
  refine lv_aload_n hx hb dX11_answer_0 rfl (lv_at hl 0 rfl) ?_
  refine lv_iload_n hx hb dX11_answer_1 rfl (lv_at hl 1 rfl) ?_
  refine lv_iconst (v := 0) hx hb dX11_answer_2 (by decide) ?_
  refine lv_aload_n hx hb dX11_answer_3 rfl (lv_at hl 0 rfl) ?_
  refine gt_X11_475 B hw dX11_answer_4 ?_
  refine lv_iconst (v := 1) hx hb dX11_answer_7 (by decide) ?_
  refine lv_isub hx hb dX11_answer_8 ?_
  refine q_callSi (M' := M) (As := [.int p1, .int 0, .int ((M 0 75) - 1)]) (rest := [.ref (X.2.2 0)]) B hw (c_X11_in l X p1 0 ((M 0 75) - 1) _ rfl M _) cs_X11_216 rfl hl.1 rfl rfl ⟨Nat.le_of_ble_eq_true rfl, Nat.le_of_ble_eq_true rfl⟩ (Nat.le_of_ble_eq_true rfl) ⟨Nat.le_of_ble_eq_true rfl, Nat.le_of_ble_eq_true rfl⟩ dX11_answer_9 rfl (fun H locs hw => ?_)
  refine nmv_e hf (fun kk => ∀ (H : Heap) (locs : List Loc), HW LM X M s H locs → W p l e rm_X11_answer s m args below meth c H locs 0 0 Q (F0 m 34 ls [.int kk, .ref (X.2.2 0)])) (fun J => ?_) (fun v_3 hf H locs hw => ?_)
  · refine lv_if_eq (tgt := 33) hx hb dX11_answer_12 (by decide) (fun c_1 => ?_) (fun c_1 => ?_)
    · rw [if_pos c_1] at J
      refine lv_iconst (v := 1) hx hb dX11_answer_33 (by decide) ?_
      exact J _ _ hw
    · rw [if_neg c_1] at J
      refine lv_iload_n hx hb dX11_answer_15 rfl (lv_at hl 2 rfl) ?_
      refine lv_iconst (v := 0) hx hb dX11_answer_16 (by decide) ?_
      refine lv_aload_n hx hb dX11_answer_17 rfl (lv_at hl 0 rfl) ?_
      refine gt_X11_478 B hw dX11_answer_18 ?_
      refine lv_iconst (v := 1) hx hb dX11_answer_21 (by decide) ?_
      refine lv_isub hx hb dX11_answer_22 ?_
      refine q_callSi (M' := M) (As := [.int p2, .int 0, .int ((M 0 76) - 1)]) (rest := [.ref (X.2.2 0)]) B hw (c_X11_in l X p2 0 ((M 0 76) - 1) _ rfl M _) cs_X11_216 rfl hl.1 rfl rfl ⟨Nat.le_of_ble_eq_true rfl, Nat.le_of_ble_eq_true rfl⟩ (Nat.le_of_ble_eq_true rfl) ⟨Nat.le_of_ble_eq_true rfl, Nat.le_of_ble_eq_true rfl⟩ dX11_answer_23 rfl (fun H locs hw => ?_)
      refine lv_if_eq (tgt := 33) hx hb dX11_answer_26 (by decide) (fun c_2 => ?_) (fun c_2 => ?_)
      · rw [if_pos c_2] at J
        refine lv_iconst (v := 1) hx hb dX11_answer_33 (by decide) ?_
        exact J _ _ hw
      · rw [if_neg c_2] at J
        refine lv_iconst (v := 0) hx hb dX11_answer_29 (by decide) ?_
        refine lv_goto (tgt := 34) hx hb dX11_answer_30 (by decide) ?_
        exact J _ _ hw
  · refine pt_X11_213 B hw dX11_answer_34 hf (fun M_4 H locs hw hf => ?_)
    refine lv_aload_n hx hb dX11_answer_37 rfl (lv_at hl 0 rfl) ?_
    refine gt_X11_213 B hw dX11_answer_38 ?_
    refine lv_if_le (tgt := 48) hx hb dX11_answer_41 (by decide) (fun c_5 => ?_) (fun c_5 => ?_)
    · have hf := it_e hf c_5
      refine lv_aload_n hx hb dX11_answer_48 rfl (lv_at hl 0 rfl) ?_
      refine gt_X11_180 B hw dX11_answer_49 ?_
      refine lv_iconst (v := 3) hx hb dX11_answer_52 (by decide) ?_
      refine lv_iload_n hx hb dX11_answer_53 rfl (lv_at hl 1 rfl) ?_
      refine lv_imul hx hb dX11_answer_54 ?_
      refine lv_iload_n hx hb dX11_answer_55 rfl (lv_at hl 2 rfl) ?_
      refine lv_iadd hx hb dX11_answer_56 ?_
      obtain ⟨g_6, hf⟩ := grd_e hf
      refine m_iald B hw (i := 56) rfl g_6 dX11_answer_57 ?_
      cases hf
      subst hQ
      exact q_iret B hr hlk hw rfl rfl dX11_answer_58
    · have hf := ie_e hf c_5
      refine lv_iconst (v := 0) hx hb dX11_answer_44 (by decide) ?_
      refine lv_goto (tgt := 58) hx hb dX11_answer_45 (by decide) ?_
      cases hf
      subst hQ
      exact q_iret B hr hlk hw rfl rfl dX11_answer_58
abbrev rm_X11_missing : Room := { frames := 0, cells := 0, slots := 0, locals := 0 }
set_option maxRecDepth 100000 in
set_option maxHeartbeats 4000000 in
theorem c_X11_missing (l : Launch) (X : XT) (fu : Nat) (M : Mem)  (rs : (Int32 × Mem)) (hf : f_X11_missing fu M = some rs) (sz : Nat) : Met l yX11_missing (wbig yX11_missing cX11_missing 1 (some .int)) rm_X11_missing (va_Pc [.ref (X.2.2 0)] (PW LM X M sz)) (QI LM X rs.2 rs.1 sz) 0 0 (AX LM X sz) := by
  refine met_go (L := LM) (M := M) (by decide +kernel) (Nat.le_of_ble_eq_true rfl) ?_
  intro p e s m args below meth c hsz B hr hlk hw ls hl
  subst hsz
  have hx := B.hx
  have hb := B.hb
  have hl : lv_has ls 1 [(0, .ref (X.2.2 0))] := hl
  generalize hQ : MQ below _ args s 0 0 (AX LM X s.heap.size) = Q
  unfold f_X11_missing at hf
  refine lv_aload_n hx hb dX11_missing_0 rfl (lv_at hl 0 rfl) ?_
  refine lv_iconst (v := 0) hx hb dX11_missing_1 (by decide) ?_
  refine pt_X11_213 B hw dX11_missing_2 hf (fun M_1 H locs hw hf => ?_)
  refine lv_aload_n hx hb dX11_missing_5 rfl (lv_at hl 0 rfl) ?_
  refine gt_X11_420 B hw dX11_missing_6 ?_
  cases hf
  subst hQ
  exact q_iret B hr hlk hw rfl rfl dX11_missing_9
abbrev rm_X11_claims : Room := { frames := 0, cells := 0, slots := 0, locals := 0 }
set_option maxRecDepth 100000 in
set_option maxHeartbeats 4000000 in
theorem c_X11_claims (l : Launch) (X : XT) (fu : Nat) (M : Mem)  (rs : (Int32 × Mem)) (hf : f_X11_claims fu M = some rs) (sz : Nat) : Met l yX11_claims (wbig yX11_claims cX11_claims 1 (some .int)) rm_X11_claims (va_Pc [.ref (X.2.2 0)] (PW LM X M sz)) (QI LM X rs.2 rs.1 sz) 0 0 (AX LM X sz) := by
  refine met_go (L := LM) (M := M) (by decide +kernel) (Nat.le_of_ble_eq_true rfl) ?_
  intro p e s m args below meth c hsz B hr hlk hw ls hl
  subst hsz
  have hx := B.hx
  have hb := B.hb
  have hl : lv_has ls 1 [(0, .ref (X.2.2 0))] := hl
  generalize hQ : MQ below _ args s 0 0 (AX LM X s.heap.size) = Q
  unfold f_X11_claims at hf
  refine lv_aload_n hx hb dX11_claims_0 rfl (lv_at hl 0 rfl) ?_
  refine lv_iconst (v := 0) hx hb dX11_claims_1 (by decide) ?_
  refine pt_X11_213 B hw dX11_claims_2 hf (fun M_1 H locs hw hf => ?_)
  refine lv_aload_n hx hb dX11_claims_5 rfl (lv_at hl 0 rfl) ?_
  refine gt_X11_183 B hw dX11_claims_6 ?_
  cases hf
  subst hQ
  exact q_iret B hr hlk hw rfl rfl dX11_claims_9
abbrev rm_X11_cost : Room := { frames := 0, cells := 0, slots := 0, locals := 0 }
set_option maxRecDepth 100000 in
set_option maxHeartbeats 4000000 in
theorem c_X11_cost (l : Launch) (X : XT) (fu : Nat) (M : Mem)  (rs : (Int32 × Mem)) (hf : f_X11_cost fu M = some rs) (sz : Nat) : Met l yX11_cost (wbig yX11_cost cX11_cost 1 (some .int)) rm_X11_cost (va_Pc [.ref (X.2.2 0)] (PW LM X M sz)) (QI LM X rs.2 rs.1 sz) 0 0 (AX LM X sz) := by
  refine met_go (L := LM) (M := M) (by decide +kernel) (Nat.le_of_ble_eq_true rfl) ?_
  intro p e s m args below meth c hsz B hr hlk hw ls hl
  subst hsz
  have hx := B.hx
  have hb := B.hb
  have hl : lv_has ls 1 [(0, .ref (X.2.2 0))] := hl
  generalize hQ : MQ below _ args s 0 0 (AX LM X s.heap.size) = Q
  unfold f_X11_cost at hf
  refine lv_aload_n hx hb dX11_cost_0 rfl (lv_at hl 0 rfl) ?_
  refine lv_iconst (v := 0) hx hb dX11_cost_1 (by decide) ?_
  refine pt_X11_213 B hw dX11_cost_2 hf (fun M_1 H locs hw hf => ?_)
  refine lv_aload_n hx hb dX11_cost_5 rfl (lv_at hl 0 rfl) ?_
  refine gt_X11_342 B hw dX11_cost_6 ?_
  cases hf
  subst hQ
  exact q_iret B hr hlk hw rfl rfl dX11_cost_9
abbrev rm_X11_attempts : Room := { frames := 0, cells := 0, slots := 0, locals := 0 }
set_option maxRecDepth 100000 in
set_option maxHeartbeats 4000000 in
theorem c_X11_attempts (l : Launch) (X : XT) (fu : Nat) (M : Mem)  (rs : (Int32 × Mem)) (hf : f_X11_attempts fu M = some rs) (sz : Nat) : Met l yX11_attempts (wbig yX11_attempts cX11_attempts 1 (some .int)) rm_X11_attempts (va_Pc [.ref (X.2.2 0)] (PW LM X M sz)) (QI LM X rs.2 rs.1 sz) 0 0 (AX LM X sz) := by
  refine met_go (L := LM) (M := M) (by decide +kernel) (Nat.le_of_ble_eq_true rfl) ?_
  intro p e s m args below meth c hsz B hr hlk hw ls hl
  subst hsz
  have hx := B.hx
  have hb := B.hb
  have hl : lv_has ls 1 [(0, .ref (X.2.2 0))] := hl
  generalize hQ : MQ below _ args s 0 0 (AX LM X s.heap.size) = Q
  unfold f_X11_attempts at hf
  refine lv_aload_n hx hb dX11_attempts_0 rfl (lv_at hl 0 rfl) ?_
  refine lv_iconst (v := 0) hx hb dX11_attempts_1 (by decide) ?_
  refine pt_X11_213 B hw dX11_attempts_2 hf (fun M_1 H locs hw hf => ?_)
  refine lv_aload_n hx hb dX11_attempts_5 rfl (lv_at hl 0 rfl) ?_
  refine gt_X11_336 B hw dX11_attempts_6 ?_
  cases hf
  subst hQ
  exact q_iret B hr hlk hw rfl rfl dX11_attempts_9
abbrev rm_X11_shipped : Room := { frames := 0, cells := 0, slots := 0, locals := 0 }
set_option maxRecDepth 100000 in
set_option maxHeartbeats 4000000 in
theorem c_X11_shipped (l : Launch) (X : XT) (fu : Nat) (M : Mem)  (rs : (Int32 × Mem)) (hf : f_X11_shipped fu M = some rs) (sz : Nat) : Met l yX11_shipped (wbig yX11_shipped cX11_shipped 1 (some .int)) rm_X11_shipped (va_Pc [.ref (X.2.2 0)] (PW LM X M sz)) (QI LM X rs.2 rs.1 sz) 0 0 (AX LM X sz) := by
  refine met_go (L := LM) (M := M) (by decide +kernel) (Nat.le_of_ble_eq_true rfl) ?_
  intro p e s m args below meth c hsz B hr hlk hw ls hl
  subst hsz
  have hx := B.hx
  have hb := B.hb
  have hl : lv_has ls 1 [(0, .ref (X.2.2 0))] := hl
  generalize hQ : MQ below _ args s 0 0 (AX LM X s.heap.size) = Q
  unfold f_X11_shipped at hf
  refine lv_aload_n hx hb dX11_shipped_0 rfl (lv_at hl 0 rfl) ?_
  refine lv_iconst (v := 0) hx hb dX11_shipped_1 (by decide) ?_
  refine pt_X11_213 B hw dX11_shipped_2 hf (fun M_1 H locs hw hf => ?_)
  refine lv_aload_n hx hb dX11_shipped_5 rfl (lv_at hl 0 rfl) ?_
  refine gt_X11_364 B hw dX11_shipped_6 ?_
  cases hf
  subst hQ
  exact q_iret B hr hlk hw rfl rfl dX11_shipped_9
abbrev rm_X11_taken : Room := { frames := 1, cells := 0, slots := 0, locals := 22 }
set_option maxRecDepth 100000 in
set_option maxHeartbeats 4000000 in
theorem c_X11_taken (l : Launch) (X : XT) (fu : Nat) (p1 : Int32) (M : Mem)  (rs : (Int32 × Mem)) (hf : f_X11_taken fu p1 M = some rs) (sz : Nat) : Met l yX11_taken (wbig yX11_taken cX11_taken 2 (some .int)) rm_X11_taken (va_Pc [.ref (X.2.2 0), .int p1] (PW LM X M sz)) (QI LM X rs.2 rs.1 sz) 0 0 (AX LM X sz) := by
  refine met_go (L := LM) (M := M) (by decide +kernel) (Nat.le_of_ble_eq_true rfl) ?_
  intro p e s m args below meth c hsz B hr hlk hw ls hl
  subst hsz
  have hx := B.hx
  have hb := B.hb
  have hl : lv_has ls 2 [(0, .ref (X.2.2 0)), (1, .int p1)] := hl
  generalize hQ : MQ below _ args s 0 0 (AX LM X s.heap.size) = Q
  unfold f_X11_taken at hf
  refine lv_aload_n hx hb dX11_taken_0 rfl (lv_at hl 0 rfl) ?_
  refine lv_iload_n hx hb dX11_taken_1 rfl (lv_at hl 1 rfl) ?_
  refine lv_iconst (v := 0) hx hb dX11_taken_2 (by decide) ?_
  refine lv_aload_n hx hb dX11_taken_3 rfl (lv_at hl 0 rfl) ?_
  refine gt_X11_423 B hw dX11_taken_4 ?_
  refine lv_iconst (v := 1) hx hb dX11_taken_7 (by decide) ?_
  refine lv_isub hx hb dX11_taken_8 ?_
  refine q_callSi (M' := M) (As := [.int p1, .int 0, .int ((M 0 83) - 1)]) (rest := [.ref (X.2.2 0)]) B hw (c_X11_in l X p1 0 ((M 0 83) - 1) _ rfl M _) cs_X11_216 rfl hl.1 rfl rfl ⟨Nat.le_of_ble_eq_true rfl, Nat.le_of_ble_eq_true rfl⟩ (Nat.le_of_ble_eq_true rfl) ⟨Nat.le_of_ble_eq_true rfl, Nat.le_of_ble_eq_true rfl⟩ dX11_taken_9 rfl (fun H locs hw => ?_)
  refine nmv_e hf (fun kk => ∀ (H : Heap) (locs : List Loc), HW LM X M s H locs → W p l e rm_X11_taken s m args below meth c H locs 0 0 Q (F0 m 20 ls [.int kk, .ref (X.2.2 0)])) (fun J => ?_) (fun v_2 hf H locs hw => ?_)
  · refine lv_if_eq (tgt := 19) hx hb dX11_taken_12 (by decide) (fun c_1 => ?_) (fun c_1 => ?_)
    · rw [if_pos c_1] at J
      refine lv_iconst (v := 1) hx hb dX11_taken_19 (by decide) ?_
      exact J _ _ hw
    · rw [if_neg c_1] at J
      refine lv_iconst (v := 0) hx hb dX11_taken_15 (by decide) ?_
      refine lv_goto (tgt := 20) hx hb dX11_taken_16 (by decide) ?_
      exact J _ _ hw
  · refine pt_X11_213 B hw dX11_taken_20 hf (fun M_3 H locs hw hf => ?_)
    refine lv_aload_n hx hb dX11_taken_23 rfl (lv_at hl 0 rfl) ?_
    refine gt_X11_213 B hw dX11_taken_24 ?_
    refine lv_if_le (tgt := 34) hx hb dX11_taken_27 (by decide) (fun c_4 => ?_) (fun c_4 => ?_)
    · have hf := it_e hf c_4
      refine lv_aload_n hx hb dX11_taken_34 rfl (lv_at hl 0 rfl) ?_
      refine gt_X11_186 B hw dX11_taken_35 ?_
      refine lv_iload_n hx hb dX11_taken_38 rfl (lv_at hl 1 rfl) ?_
      obtain ⟨g_5, hf⟩ := grd_e hf
      refine m_iald B hw (i := 57) rfl g_5 dX11_taken_39 ?_
      cases hf
      subst hQ
      exact q_iret B hr hlk hw rfl rfl dX11_taken_40
    · have hf := ie_e hf c_4
      refine lv_iconst (v := 0) hx hb dX11_taken_30 (by decide) ?_
      refine lv_goto (tgt := 40) hx hb dX11_taken_31 (by decide) ?_
      cases hf
      subst hQ
      exact q_iret B hr hlk hw rfl rfl dX11_taken_40
abbrev rm_X11_size : Room := { frames := 2, cells := 0, slots := 0, locals := 42 }
set_option maxRecDepth 100000 in
set_option maxHeartbeats 4000000 in
theorem c_X11_size (l : Launch) (X : XT) (fu : Nat) (p1 : Int32) (M : Mem)  (rs : (Int32 × Mem)) (hf : f_X11_size fu p1 M = some rs) (sz : Nat) : Met l yX11_size (wbig yX11_size cX11_size 2 (some .int)) rm_X11_size (va_Pc [.ref (X.2.2 0), .int p1] (PW LM X M sz)) (QI LM X rs.2 rs.1 sz) 0 0 (AX LM X sz) := by
  refine met_go (L := LM) (M := M) (by decide +kernel) (Nat.le_of_ble_eq_true rfl) ?_
  intro p e s m args below meth c hsz B hr hlk hw ls hl
  subst hsz
  have hx := B.hx
  have hb := B.hb
  have hl : lv_has ls 2 [(0, .ref (X.2.2 0)), (1, .int p1)] := hl
  generalize hQ : MQ below _ args s 0 0 (AX LM X s.heap.size) = Q
  unfold f_X11_size at hf
  refine lv_aload_n hx hb dX11_size_0 rfl (lv_at hl 0 rfl) ?_
  refine lv_iload_n hx hb dX11_size_1 rfl (lv_at hl 1 rfl) ?_
  refine q_callSi (M' := M) (As := [.int p1]) (rest := [.ref (X.2.2 0)]) B hw (c_X11_isSource l X p1 _ rfl M _) cs_X11_270 rfl hl.1 rfl rfl ⟨Nat.le_of_ble_eq_true rfl, Nat.le_of_ble_eq_true rfl⟩ (Nat.le_of_ble_eq_true rfl) ⟨Nat.le_of_ble_eq_true rfl, Nat.le_of_ble_eq_true rfl⟩ dX11_size_2 rfl (fun H locs hw => ?_)
  refine nmv_e hf (fun kk => ∀ (H : Heap) (locs : List Loc), HW LM X M s H locs → W p l e rm_X11_size s m args below meth c H locs 0 0 Q (F0 m 13 ls [.int kk, .ref (X.2.2 0)])) (fun J => ?_) (fun v_2 hf H locs hw => ?_)
  · refine lv_if_eq (tgt := 12) hx hb dX11_size_5 (by decide) (fun c_1 => ?_) (fun c_1 => ?_)
    · rw [if_pos c_1] at J
      refine lv_iconst (v := 1) hx hb dX11_size_12 (by decide) ?_
      exact J _ _ hw
    · rw [if_neg c_1] at J
      refine lv_iconst (v := 0) hx hb dX11_size_8 (by decide) ?_
      refine lv_goto (tgt := 13) hx hb dX11_size_9 (by decide) ?_
      exact J _ _ hw
  · refine pt_X11_213 B hw dX11_size_13 hf (fun M_3 H locs hw hf => ?_)
    refine lv_aload_n hx hb dX11_size_16 rfl (lv_at hl 0 rfl) ?_
    refine gt_X11_213 B hw dX11_size_17 ?_
    refine lv_if_le (tgt := 27) hx hb dX11_size_20 (by decide) (fun c_4 => ?_) (fun c_4 => ?_)
    · have hf := it_e hf c_4
      refine lv_aload_n hx hb dX11_size_27 rfl (lv_at hl 0 rfl) ?_
      refine gt_X11_62 B hw dX11_size_28 ?_
      refine lv_iload_n hx hb dX11_size_31 rfl (lv_at hl 1 rfl) ?_
      obtain ⟨g_5, hf⟩ := grd_e hf
      refine m_iald B hw (i := 18) rfl g_5 dX11_size_32 ?_
      cases hf
      subst hQ
      exact q_iret B hr hlk hw rfl rfl dX11_size_33
    · have hf := ie_e hf c_4
      refine lv_iconst (v := 0) hx hb dX11_size_23 (by decide) ?_
      refine lv_goto (tgt := 33) hx hb dX11_size_24 (by decide) ?_
      cases hf
      subst hQ
      exact q_iret B hr hlk hw rfl rfl dX11_size_33
abbrev rm_X11_entries : Room := { frames := 0, cells := 0, slots := 0, locals := 0 }
set_option maxRecDepth 100000 in
set_option maxHeartbeats 4000000 in
theorem c_X11_entries (l : Launch) (X : XT) (fu : Nat) (M : Mem)  (rs : (Int32 × Mem)) (hf : f_X11_entries fu M = some rs) (sz : Nat) : Met l yX11_entries (wbig yX11_entries cX11_entries 1 (some .int)) rm_X11_entries (va_Pc [.ref (X.2.2 0)] (PW LM X M sz)) (QI LM X rs.2 rs.1 sz) 0 0 (AX LM X sz) := by
  refine met_go (L := LM) (M := M) (by decide +kernel) (Nat.le_of_ble_eq_true rfl) ?_
  intro p e s m args below meth c hsz B hr hlk hw ls hl
  subst hsz
  have hx := B.hx
  have hb := B.hb
  have hl : lv_has ls 1 [(0, .ref (X.2.2 0))] := hl
  generalize hQ : MQ below _ args s 0 0 (AX LM X s.heap.size) = Q
  unfold f_X11_entries at hf
  refine lv_aload_n hx hb dX11_entries_0 rfl (lv_at hl 0 rfl) ?_
  refine lv_iconst (v := 0) hx hb dX11_entries_1 (by decide) ?_
  refine pt_X11_213 B hw dX11_entries_2 hf (fun M_1 H locs hw hf => ?_)
  refine lv_aload_n hx hb dX11_entries_5 rfl (lv_at hl 0 rfl) ?_
  refine gt_X11_232 B hw dX11_entries_6 ?_
  cases hf
  subst hQ
  exact q_iret B hr hlk hw rfl rfl dX11_entries_9
abbrev rm_X11_answersAnew : Room := { frames := 5, cells := 0, slots := 0, locals := 114 }
set_option maxRecDepth 100000 in
set_option maxHeartbeats 4000000 in
theorem c_X11_answersAnew (l : Launch) (X : XT) (fu : Nat) (M : Mem)  (rs : (Int32 × Mem)) (hf : f_X11_answersAnew fu M = some rs) (sz : Nat) : Met l yX11_answersAnew (wbig yX11_answersAnew cX11_answersAnew 1 (some .int)) rm_X11_answersAnew (va_Pc [.ref (X.2.2 0)] (PW LM X M sz)) (QI LM X rs.2 rs.1 sz) 0 0 (AX LM X sz) := by
  refine met_go (L := LM) (M := M) (by decide +kernel) (Nat.le_of_ble_eq_true rfl) ?_
  intro p e s m args below meth c hsz B hr hlk hw ls hl
  subst hsz
  have hx := B.hx
  have hb := B.hb
  have hl : lv_has ls 1 [(0, .ref (X.2.2 0))] := hl
  generalize hQ : MQ below _ args s 0 0 (AX LM X s.heap.size) = Q
  unfold f_X11_answersAnew at hf
  refine lv_aload_n hx hb dX11_answersAnew_0 rfl (lv_at hl 0 rfl) ?_
  refine lv_aload_n hx hb dX11_answersAnew_1 rfl (lv_at hl 0 rfl) ?_
  obtain ⟨r_2, h_1, hf⟩ := bd_e hf
  refine q_callVi (M' := M) (i := 0) (As := []) (rest := [.ref (X.2.2 0)]) B hw (c_X11_isDrafted l X fu M r_2 h_1 _) cv_X11_461 (rc_11 B hw) rfl hl.1 rfl rfl ⟨Nat.le_of_ble_eq_true rfl, Nat.le_of_ble_eq_true rfl⟩ (Nat.le_of_ble_eq_true rfl) ⟨Nat.le_of_ble_eq_true rfl, Nat.le_of_ble_eq_true rfl⟩ dX11_answersAnew_2 rfl (fun H locs hw => ?_)
  refine nmv_e hf (fun kk => ∀ (H : Heap) (locs : List Loc), HW LM X M s H locs → W p l e rm_X11_answersAnew s m args below meth c H locs 0 0 Q (F0 m 13 ls [.int kk, .ref (X.2.2 0)])) (fun J => ?_) (fun v_4 hf H locs hw => ?_)
  · refine lv_if_eq (tgt := 12) hx hb dX11_answersAnew_5 (by decide) (fun c_3 => ?_) (fun c_3 => ?_)
    · rw [if_pos c_3] at J
      refine lv_iconst (v := 1) hx hb dX11_answersAnew_12 (by decide) ?_
      exact J _ _ hw
    · rw [if_neg c_3] at J
      refine lv_iconst (v := 0) hx hb dX11_answersAnew_8 (by decide) ?_
      refine lv_goto (tgt := 13) hx hb dX11_answersAnew_9 (by decide) ?_
      exact J _ _ hw
  · refine pt_X11_213 B hw dX11_answersAnew_13 hf (fun M_5 H locs hw hf => ?_)
    refine lv_aload_n hx hb dX11_answersAnew_16 rfl (lv_at hl 0 rfl) ?_
    refine gt_X11_213 B hw dX11_answersAnew_17 ?_
    refine lv_if_le (tgt := 25) hx hb dX11_answersAnew_20 (by decide) (fun c_6 => ?_) (fun c_6 => ?_)
    · have hf := it_e hf c_6
      refine lv_aload_n hx hb dX11_answersAnew_25 rfl (lv_at hl 0 rfl) ?_
      refine lv_iconst (v := 0) hx hb dX11_answersAnew_26 (by decide) ?_
      obtain ⟨M_8, h_7, hf⟩ := bd_e hf
      refine q_callVv (M' := M_8) (i := 0) (As := [.int 0]) (rest := []) B hw (c_X11_makes l X fu 0 M_5 M_8 h_7 _) cv_X11_471 (rc_11 B hw) rfl hl.1 rfl rfl ⟨Nat.le_of_ble_eq_true rfl, Nat.le_of_ble_eq_true rfl⟩ (Nat.le_of_ble_eq_true rfl) ⟨Nat.le_of_ble_eq_true rfl, Nat.le_of_ble_eq_true rfl⟩ dX11_answersAnew_27 rfl (fun H locs hw => ?_)
      refine lv_aload_n hx hb dX11_answersAnew_30 rfl (lv_at hl 0 rfl) ?_
      refine gt_X11_429 B hw dX11_answersAnew_31 ?_
      cases hf
      subst hQ
      exact q_iret B hr hlk hw rfl rfl dX11_answersAnew_34
    · have hf := ie_e hf c_6
      refine lv_iconst (v := 0) hx hb dX11_answersAnew_23 (by decide) ?_
      cases hf
      subst hQ
      exact q_iret B hr hlk hw rfl rfl dX11_answersAnew_24
abbrev rm_X11_answerAnew : Room := { frames := 5, cells := 0, slots := 0, locals := 114 }
set_option maxRecDepth 100000 in
set_option maxHeartbeats 4000000 in
theorem c_X11_answerAnew (l : Launch) (X : XT) (fu : Nat) (p1 : Int32) (p2 : Int32) (M : Mem)  (rs : (Int32 × Mem)) (hf : f_X11_answerAnew fu p1 p2 M = some rs) (sz : Nat) : Met l yX11_answerAnew (wbig yX11_answerAnew cX11_answerAnew 3 (some .int)) rm_X11_answerAnew (va_Pc [.ref (X.2.2 0), .int p1, .int p2] (PW LM X M sz)) (QI LM X rs.2 rs.1 sz) 0 0 (AX LM X sz) := by
  refine met_go (L := LM) (M := M) (by decide +kernel) (Nat.le_of_ble_eq_true rfl) ?_
  intro p e s m args below meth c hsz B hr hlk hw ls hl
  subst hsz
  have hx := B.hx
  have hb := B.hb
  have hl : lv_has ls 3 [(0, .ref (X.2.2 0)), (1, .int p1), (2, .int p2)] := hl
  generalize hQ : MQ below _ args s 0 0 (AX LM X s.heap.size) = Q
  unfold f_X11_answerAnew at hf
  refine lv_aload_n hx hb dX11_answerAnew_0 rfl (lv_at hl 0 rfl) ?_
  refine lv_aload_n hx hb dX11_answerAnew_1 rfl (lv_at hl 0 rfl) ?_
  obtain ⟨r_2, h_1, hf⟩ := bd_e hf
  refine q_callVi (M' := M) (i := 0) (As := []) (rest := [.ref (X.2.2 0)]) B hw (c_X11_isDrafted l X fu M r_2 h_1 _) cv_X11_461 (rc_11 B hw) rfl hl.1 rfl rfl ⟨Nat.le_of_ble_eq_true rfl, Nat.le_of_ble_eq_true rfl⟩ (Nat.le_of_ble_eq_true rfl) ⟨Nat.le_of_ble_eq_true rfl, Nat.le_of_ble_eq_true rfl⟩ dX11_answerAnew_2 rfl (fun H locs hw => ?_)
  refine nmv_e hf (fun kk => ∀ (H : Heap) (locs : List Loc), HW LM X M s H locs → W p l e rm_X11_answerAnew s m args below meth c H locs 0 0 Q (F0 m 13 ls [.int kk, .ref (X.2.2 0)])) (fun J => ?_) (fun v_4 hf H locs hw => ?_)
  · refine lv_if_eq (tgt := 12) hx hb dX11_answerAnew_5 (by decide) (fun c_3 => ?_) (fun c_3 => ?_)
    · rw [if_pos c_3] at J
      refine lv_iconst (v := 1) hx hb dX11_answerAnew_12 (by decide) ?_
      exact J _ _ hw
    · rw [if_neg c_3] at J
      refine lv_iconst (v := 0) hx hb dX11_answerAnew_8 (by decide) ?_
      refine lv_goto (tgt := 13) hx hb dX11_answerAnew_9 (by decide) ?_
      exact J _ _ hw
  · refine pt_X11_213 B hw dX11_answerAnew_13 hf (fun M_5 H locs hw hf => ?_)
    refine lv_aload_n hx hb dX11_answerAnew_16 rfl (lv_at hl 0 rfl) ?_
    refine gt_X11_213 B hw dX11_answerAnew_17 ?_
    refine lv_if_le (tgt := 25) hx hb dX11_answerAnew_20 (by decide) (fun c_6 => ?_) (fun c_6 => ?_)
    · have hf := it_e hf c_6
      refine lv_aload_n hx hb dX11_answerAnew_25 rfl (lv_at hl 0 rfl) ?_
      refine lv_iconst (v := 0) hx hb dX11_answerAnew_26 (by decide) ?_
      obtain ⟨M_8, h_7, hf⟩ := bd_e hf
      refine q_callVv (M' := M_8) (i := 0) (As := [.int 0]) (rest := []) B hw (c_X11_makes l X fu 0 M_5 M_8 h_7 _) cv_X11_471 (rc_11 B hw) rfl hl.1 rfl rfl ⟨Nat.le_of_ble_eq_true rfl, Nat.le_of_ble_eq_true rfl⟩ (Nat.le_of_ble_eq_true rfl) ⟨Nat.le_of_ble_eq_true rfl, Nat.le_of_ble_eq_true rfl⟩ dX11_answerAnew_27 rfl (fun H locs hw => ?_)
      refine lv_aload_n hx hb dX11_answerAnew_30 rfl (lv_at hl 0 rfl) ?_
      refine lv_iload_n hx hb dX11_answerAnew_31 rfl (lv_at hl 1 rfl) ?_
      refine lv_iconst (v := 0) hx hb dX11_answerAnew_32 (by decide) ?_
      refine lv_aload_n hx hb dX11_answerAnew_33 rfl (lv_at hl 0 rfl) ?_
      refine gt_X11_429 B hw dX11_answerAnew_34 ?_
      refine lv_iconst (v := 1) hx hb dX11_answerAnew_37 (by decide) ?_
      refine lv_isub hx hb dX11_answerAnew_38 ?_
      refine q_callSi (M' := M_8) (As := [.int p1, .int 0, .int ((M_8 0 68) - 1)]) (rest := [.ref (X.2.2 0)]) B hw (c_X11_in l X p1 0 ((M_8 0 68) - 1) _ rfl M_8 _) cs_X11_216 rfl hl.1 rfl rfl ⟨Nat.le_of_ble_eq_true rfl, Nat.le_of_ble_eq_true rfl⟩ (Nat.le_of_ble_eq_true rfl) ⟨Nat.le_of_ble_eq_true rfl, Nat.le_of_ble_eq_true rfl⟩ dX11_answerAnew_39 rfl (fun H locs hw => ?_)
      refine nmv_e hf (fun kk => ∀ (H : Heap) (locs : List Loc), HW LM X M_8 s H locs → W p l e rm_X11_answerAnew s m args below meth c H locs 0 0 Q (F0 m 64 ls [.int kk, .ref (X.2.2 0)])) (fun J => ?_) (fun v_11 hf H locs hw => ?_)
      · refine lv_if_eq (tgt := 63) hx hb dX11_answerAnew_42 (by decide) (fun c_9 => ?_) (fun c_9 => ?_)
        · rw [if_pos c_9] at J
          refine lv_iconst (v := 2) hx hb dX11_answerAnew_63 (by decide) ?_
          exact J _ _ hw
        · rw [if_neg c_9] at J
          refine lv_iload_n hx hb dX11_answerAnew_45 rfl (lv_at hl 2 rfl) ?_
          refine lv_iconst (v := 0) hx hb dX11_answerAnew_46 (by decide) ?_
          refine lv_aload_n hx hb dX11_answerAnew_47 rfl (lv_at hl 0 rfl) ?_
          refine gt_X11_442 B hw dX11_answerAnew_48 ?_
          refine lv_iconst (v := 1) hx hb dX11_answerAnew_51 (by decide) ?_
          refine lv_isub hx hb dX11_answerAnew_52 ?_
          refine q_callSi (M' := M_8) (As := [.int p2, .int 0, .int ((M_8 0 69) - 1)]) (rest := [.ref (X.2.2 0)]) B hw (c_X11_in l X p2 0 ((M_8 0 69) - 1) _ rfl M_8 _) cs_X11_216 rfl hl.1 rfl rfl ⟨Nat.le_of_ble_eq_true rfl, Nat.le_of_ble_eq_true rfl⟩ (Nat.le_of_ble_eq_true rfl) ⟨Nat.le_of_ble_eq_true rfl, Nat.le_of_ble_eq_true rfl⟩ dX11_answerAnew_53 rfl (fun H locs hw => ?_)
          refine lv_if_eq (tgt := 63) hx hb dX11_answerAnew_56 (by decide) (fun c_10 => ?_) (fun c_10 => ?_)
          · rw [if_pos c_10] at J
            refine lv_iconst (v := 2) hx hb dX11_answerAnew_63 (by decide) ?_
            exact J _ _ hw
          · rw [if_neg c_10] at J
            refine lv_iconst (v := 0) hx hb dX11_answerAnew_59 (by decide) ?_
            refine lv_goto (tgt := 64) hx hb dX11_answerAnew_60 (by decide) ?_
            exact J _ _ hw
      · refine pt_X11_213 B hw dX11_answerAnew_64 hf (fun M_12 H locs hw hf => ?_)
        refine lv_aload_n hx hb dX11_answerAnew_67 rfl (lv_at hl 0 rfl) ?_
        refine gt_X11_213 B hw dX11_answerAnew_68 ?_
        refine lv_if_le (tgt := 78) hx hb dX11_answerAnew_71 (by decide) (fun c_13 => ?_) (fun c_13 => ?_)
        · have hf := it_e hf c_13
          refine lv_aload_n hx hb dX11_answerAnew_78 rfl (lv_at hl 0 rfl) ?_
          refine gt_X11_168 B hw dX11_answerAnew_79 ?_
          refine lv_iconst (v := 3) hx hb dX11_answerAnew_82 (by decide) ?_
          refine lv_iload_n hx hb dX11_answerAnew_83 rfl (lv_at hl 1 rfl) ?_
          refine lv_imul hx hb dX11_answerAnew_84 ?_
          refine lv_iload_n hx hb dX11_answerAnew_85 rfl (lv_at hl 2 rfl) ?_
          refine lv_iadd hx hb dX11_answerAnew_86 ?_
          obtain ⟨g_14, hf⟩ := grd_e hf
          refine m_iald B hw (i := 52) rfl g_14 dX11_answerAnew_87 ?_
          cases hf
          subst hQ
          exact q_iret B hr hlk hw rfl rfl dX11_answerAnew_88
        · have hf := ie_e hf c_13
          refine lv_iconst (v := 0) hx hb dX11_answerAnew_74 (by decide) ?_
          refine lv_goto (tgt := 88) hx hb dX11_answerAnew_75 (by decide) ?_
          cases hf
          subst hQ
          exact q_iret B hr hlk hw rfl rfl dX11_answerAnew_88
    · have hf := ie_e hf c_6
      refine lv_iconst (v := 0) hx hb dX11_answerAnew_23 (by decide) ?_
      cases hf
      subst hQ
      exact q_iret B hr hlk hw rfl rfl dX11_answerAnew_24
abbrev rm_X11_step : Room := { frames := 2, cells := 0, slots := 0, locals := 42 }
set_option maxRecDepth 100000 in
set_option maxHeartbeats 4000000 in
theorem c_X11_step (l : Launch) (X : XT) (fu : Nat) (p1 : Int32) (p2 : Int32) (p3 : Int32) (p4 : Int32) (p5 : Int32) (p6 : Int32) (M : Mem)  (rs : (Int32 × Mem)) (hf : f_X11_step fu p1 p2 p3 p4 p5 p6 M = some rs) (sz : Nat) : Met l yX11_step (wbig yX11_step cX11_step 8 (some .int)) rm_X11_step (va_Pc [.ref (X.2.2 0), .int p1, .int p2, .int p3, .int p4, .int p5, .int p6] (PW LM X M sz)) (QI LM X rs.2 rs.1 sz) 0 0 (AX LM X sz) := by
  refine met_go (L := LM) (M := M) (by decide +kernel) (Nat.le_of_ble_eq_true rfl) ?_
  intro p e s m args below meth c hsz B hr hlk hw ls hl
  subst hsz
  have hx := B.hx
  have hb := B.hb
  have hl : lv_has ls 8 [(0, .ref (X.2.2 0)), (1, .int p1), (2, .int p2), (3, .int p3), (4, .int p4), (5, .int p5), (6, .int p6)] := hl
  generalize hQ : MQ below _ args s 0 0 (AX LM X s.heap.size) = Q
  unfold f_X11_step at hf
  refine lv_iload_n hx hb dX11_step_0 rfl (lv_at hl 1 rfl) ?_
  refine lv_iconst (v := 0) hx hb dX11_step_1 (by decide) ?_
  refine lv_iconst (v := 2) hx hb dX11_step_2 (by decide) ?_
  refine q_callSi (M' := M) (As := [.int p1, .int 0, .int 2]) (rest := []) B hw (c_X11_in l X p1 0 2 _ rfl M _) cs_X11_216 rfl hl.1 rfl rfl ⟨Nat.le_of_ble_eq_true rfl, Nat.le_of_ble_eq_true rfl⟩ (Nat.le_of_ble_eq_true rfl) ⟨Nat.le_of_ble_eq_true rfl, Nat.le_of_ble_eq_true rfl⟩ dX11_step_3 rfl (fun H locs hw => ?_)
  refine nmv_e hf (fun kk => ∀ (H : Heap) (locs : List Loc), HW LM X M s H locs → W p l e rm_X11_step s m args below meth c H locs 0 0 Q (F0 m 38 ls [.int kk])) (fun J => ?_) (fun v_10 hf H locs hw => ?_)
  · refine lv_if_eq (tgt := 37) hx hb dX11_step_6 (by decide) (fun c_1 => ?_) (fun c_1 => ?_)
    · rw [if_pos c_1] at J
      refine lv_iconst (v := 0) hx hb dX11_step_37 (by decide) ?_
      exact J _ _ hw
    · rw [if_neg c_1] at J
      refine lv_iload_n hx hb dX11_step_9 rfl (lv_at hl 1 rfl) ?_
      refine lv_if_eq (tgt := 18) hx hb dX11_step_10 (by decide) (fun c_2 => ?_) (fun c_2 => ?_)
      · rw [if_pos c_2] at J
        refine lv_iload_n hx hb dX11_step_18 rfl (lv_at hl 1 rfl) ?_
        refine lv_iconst (v := 2) hx hb dX11_step_19 (by decide) ?_
        refine lv_icmp_ne (tgt := 33) hx hb dX11_step_20 (by decide) (fun c_3 => ?_) (fun c_3 => ?_)
        · rw [if_neg c_3] at J
          refine lv_iconst (v := 1) hx hb dX11_step_33 (by decide) ?_
          refine lv_goto (tgt := 38) hx hb dX11_step_34 (by decide) ?_
          exact J _ _ hw
        · rw [if_pos c_3] at J
          refine lv_iload hx hb dX11_step_23 (lv_at hl 4 rfl) ?_
          refine lv_if_ne (tgt := 37) hx hb dX11_step_25 (by decide) (fun c_4 => ?_) (fun c_4 => ?_)
          · rw [if_neg c_4] at J
            refine lv_iconst (v := 0) hx hb dX11_step_37 (by decide) ?_
            exact J _ _ hw
          · rw [if_pos c_4] at J
            refine lv_iload hx hb dX11_step_28 (lv_at hl 5 rfl) ?_
            refine lv_if_ne (tgt := 37) hx hb dX11_step_30 (by decide) (fun c_5 => ?_) (fun c_5 => ?_)
            · rw [if_neg c_5] at J
              refine lv_iconst (v := 0) hx hb dX11_step_37 (by decide) ?_
              exact J _ _ hw
            · rw [if_pos c_5] at J
              refine lv_iconst (v := 1) hx hb dX11_step_33 (by decide) ?_
              refine lv_goto (tgt := 38) hx hb dX11_step_34 (by decide) ?_
              exact J _ _ hw
      · rw [if_neg c_2] at J
        refine lv_iload hx hb dX11_step_13 (lv_at hl 6 rfl) ?_
        refine lv_if_ne (tgt := 37) hx hb dX11_step_15 (by decide) (fun c_6 => ?_) (fun c_6 => ?_)
        · rw [if_neg c_6] at J
          refine lv_iconst (v := 0) hx hb dX11_step_37 (by decide) ?_
          exact J _ _ hw
        · rw [if_pos c_6] at J
          refine lv_iload_n hx hb dX11_step_18 rfl (lv_at hl 1 rfl) ?_
          refine lv_iconst (v := 2) hx hb dX11_step_19 (by decide) ?_
          refine lv_icmp_ne (tgt := 33) hx hb dX11_step_20 (by decide) (fun c_7 => ?_) (fun c_7 => ?_)
          · rw [if_neg c_7] at J
            refine lv_iconst (v := 1) hx hb dX11_step_33 (by decide) ?_
            refine lv_goto (tgt := 38) hx hb dX11_step_34 (by decide) ?_
            exact J _ _ hw
          · rw [if_pos c_7] at J
            refine lv_iload hx hb dX11_step_23 (lv_at hl 4 rfl) ?_
            refine lv_if_ne (tgt := 37) hx hb dX11_step_25 (by decide) (fun c_8 => ?_) (fun c_8 => ?_)
            · rw [if_neg c_8] at J
              refine lv_iconst (v := 0) hx hb dX11_step_37 (by decide) ?_
              exact J _ _ hw
            · rw [if_pos c_8] at J
              refine lv_iload hx hb dX11_step_28 (lv_at hl 5 rfl) ?_
              refine lv_if_ne (tgt := 37) hx hb dX11_step_30 (by decide) (fun c_9 => ?_) (fun c_9 => ?_)
              · rw [if_neg c_9] at J
                refine lv_iconst (v := 0) hx hb dX11_step_37 (by decide) ?_
                exact J _ _ hw
              · rw [if_pos c_9] at J
                refine lv_iconst (v := 1) hx hb dX11_step_33 (by decide) ?_
                refine lv_goto (tgt := 38) hx hb dX11_step_34 (by decide) ?_
                exact J _ _ hw
  · refine lv_istore (lv' := [(7, .int v_10), (0, .ref (X.2.2 0)), (1, .int p1), (2, .int p2), (3, .int p3), (4, .int p4), (5, .int p5), (6, .int p6)]) hx hb dX11_step_38 hl (by decide) rfl (fun ls hl => ?_)
    refine lv_aload_n hx hb dX11_step_40 rfl (lv_at hl 1 rfl) ?_
    refine lv_iload_n hx hb dX11_step_41 rfl (lv_at hl 3 rfl) ?_
    refine q_callSi (M' := M) (As := [.int p2]) (rest := [.ref (X.2.2 0)]) B hw (c_X11_isSource l X p2 _ rfl M _) cs_X11_270 rfl hl.1 rfl rfl ⟨Nat.le_of_ble_eq_true rfl, Nat.le_of_ble_eq_true rfl⟩ (Nat.le_of_ble_eq_true rfl) ⟨Nat.le_of_ble_eq_true rfl, Nat.le_of_ble_eq_true rfl⟩ dX11_step_42 rfl (fun H locs hw => ?_)
    refine nmv_e hf (fun kk => ∀ (H : Heap) (locs : List Loc), HW LM X M s H locs → W p l e rm_X11_step s m args below meth c H locs 0 0 Q (F0 m 74 ls [.int kk, .ref (X.2.2 0)])) (fun J => ?_) (fun v_14 hf H locs hw => ?_)
    · refine lv_if_ne (tgt := 52) hx hb dX11_step_45 (by decide) (fun c_11 => ?_) (fun c_11 => ?_)
      · rw [if_neg c_11] at J
        refine lv_iload hx hb dX11_step_52 (lv_at hl 0 rfl) ?_
        refine lv_if_ne (tgt := 61) hx hb dX11_step_54 (by decide) (fun c_12 => ?_) (fun c_12 => ?_)
        · rw [if_neg c_12] at J
          refine lv_aload_n hx hb dX11_step_61 rfl (lv_at hl 1 rfl) ?_
          refine gt_X11_484 B hw dX11_step_62 ?_
          refine lv_iconst (v := 4) hx hb dX11_step_65 (by decide) ?_
          refine lv_icmp_ne (tgt := 73) hx hb dX11_step_66 (by decide) (fun c_13 => ?_) (fun c_13 => ?_)
          · rw [if_neg c_13] at J
            refine lv_iconst (v := 0) hx hb dX11_step_73 (by decide) ?_
            exact J _ _ hw
          · rw [if_pos c_13] at J
            refine lv_iconst (v := 3) hx hb dX11_step_69 (by decide) ?_
            refine lv_goto (tgt := 74) hx hb dX11_step_70 (by decide) ?_
            exact J _ _ hw
        · rw [if_pos c_12] at J
          refine lv_iconst (v := 2) hx hb dX11_step_57 (by decide) ?_
          refine lv_goto (tgt := 74) hx hb dX11_step_58 (by decide) ?_
          exact J _ _ hw
      · rw [if_pos c_11] at J
        refine lv_iconst (v := 1) hx hb dX11_step_48 (by decide) ?_
        refine lv_goto (tgt := 74) hx hb dX11_step_49 (by decide) ?_
        exact J _ _ hw
    · refine pt_X11_213 B hw dX11_step_74 hf (fun M_15 H locs hw hf => ?_)
      refine lv_aload_n hx hb dX11_step_77 rfl (lv_at hl 1 rfl) ?_
      refine gt_X11_213 B hw dX11_step_78 ?_
      refine lv_if_le (tgt := 86) hx hb dX11_step_81 (by decide) (fun c_16 => ?_) (fun c_16 => ?_)
      · have hf := it_e hf c_16
        refine lv_aload_n hx hb dX11_step_86 rfl (lv_at hl 1 rfl) ?_
        refine gt_X11_189 B hw dX11_step_87 ?_
        refine lv_aload_n hx hb dX11_step_90 rfl (lv_at hl 1 rfl) ?_
        refine gt_X11_484 B hw dX11_step_91 ?_
        refine lv_iload_n hx hb dX11_step_94 rfl (lv_at hl 2 rfl) ?_
        obtain ⟨g_17, hf⟩ := grd_e hf
        refine m_iast B hw (i := 58) rfl g_17 dX11_step_95 hf (fun M_18 H locs hw hf => ?_)
        refine lv_aload_n hx hb dX11_step_96 rfl (lv_at hl 1 rfl) ?_
        refine gt_X11_192 B hw dX11_step_97 ?_
        refine lv_aload_n hx hb dX11_step_100 rfl (lv_at hl 1 rfl) ?_
        refine gt_X11_484 B hw dX11_step_101 ?_
        refine lv_iload_n hx hb dX11_step_104 rfl (lv_at hl 3 rfl) ?_
        obtain ⟨g_19, hf⟩ := grd_e hf
        refine m_iast B hw (i := 59) rfl g_19 dX11_step_105 hf (fun M_20 H locs hw hf => ?_)
        refine lv_aload_n hx hb dX11_step_106 rfl (lv_at hl 1 rfl) ?_
        refine gt_X11_195 B hw dX11_step_107 ?_
        refine lv_aload_n hx hb dX11_step_110 rfl (lv_at hl 1 rfl) ?_
        refine gt_X11_484 B hw dX11_step_111 ?_
        refine lv_iload_n hx hb dX11_step_114 rfl (lv_at hl 4 rfl) ?_
        obtain ⟨g_21, hf⟩ := grd_e hf
        refine m_iast B hw (i := 60) rfl g_21 dX11_step_115 hf (fun M_22 H locs hw hf => ?_)
        refine lv_aload_n hx hb dX11_step_116 rfl (lv_at hl 1 rfl) ?_
        refine gt_X11_198 B hw dX11_step_117 ?_
        refine lv_aload_n hx hb dX11_step_120 rfl (lv_at hl 1 rfl) ?_
        refine gt_X11_484 B hw dX11_step_121 ?_
        refine lv_iload hx hb dX11_step_124 (lv_at hl 5 rfl) ?_
        obtain ⟨g_23, hf⟩ := grd_e hf
        refine m_iast B hw (i := 61) rfl g_23 dX11_step_126 hf (fun M_24 H locs hw hf => ?_)
        refine lv_aload_n hx hb dX11_step_127 rfl (lv_at hl 1 rfl) ?_
        refine gt_X11_201 B hw dX11_step_128 ?_
        refine lv_aload_n hx hb dX11_step_131 rfl (lv_at hl 1 rfl) ?_
        refine gt_X11_484 B hw dX11_step_132 ?_
        refine lv_iload hx hb dX11_step_135 (lv_at hl 6 rfl) ?_
        obtain ⟨g_25, hf⟩ := grd_e hf
        refine m_iast B hw (i := 62) rfl g_25 dX11_step_137 hf (fun M_26 H locs hw hf => ?_)
        refine lv_aload_n hx hb dX11_step_138 rfl (lv_at hl 1 rfl) ?_
        refine gt_X11_204 B hw dX11_step_139 ?_
        refine lv_aload_n hx hb dX11_step_142 rfl (lv_at hl 1 rfl) ?_
        refine gt_X11_484 B hw dX11_step_143 ?_
        refine lv_iload hx hb dX11_step_146 (lv_at hl 7 rfl) ?_
        obtain ⟨g_27, hf⟩ := grd_e hf
        refine m_iast B hw (i := 63) rfl g_27 dX11_step_148 hf (fun M_28 H locs hw hf => ?_)
        refine lv_aload_n hx hb dX11_step_149 rfl (lv_at hl 1 rfl) ?_
        refine lv_dup hx hb dX11_step_150 rfl ?_
        refine gt_X11_484 B hw dX11_step_151 ?_
        refine lv_iconst (v := 1) hx hb dX11_step_154 (by decide) ?_
        refine lv_iadd hx hb dX11_step_155 ?_
        refine pt_X11_484 B hw dX11_step_156 hf (fun M_29 H locs hw hf => ?_)
        refine lv_aload_n hx hb dX11_step_159 rfl (lv_at hl 1 rfl) ?_
        refine gt_X11_484 B hw dX11_step_160 ?_
        cases hf
        subst hQ
        exact q_iret B hr hlk hw rfl rfl dX11_step_163
      · have hf := ie_e hf c_16
        refine lv_iconst (v := 0) hx hb dX11_step_84 (by decide) ?_
        cases hf
        subst hQ
        exact q_iret B hr hlk hw rfl rfl dX11_step_85
abbrev rm_X11_canStep : Room := { frames := 4, cells := 0, slots := 0, locals := 90 }
set_option maxRecDepth 100000 in
set_option maxHeartbeats 4000000 in
theorem c_X11_canStep (l : Launch) (X : XT) (fu : Nat) (p1 : Int32) (M : Mem)  (rs : Int32) (hf : f_X11_canStep fu p1 M = some rs) (sz : Nat) : Met l yX11_canStep (wbig yX11_canStep cX11_canStep 3 (some .boolean)) rm_X11_canStep (va_Pc [.ref (X.2.2 0), .int p1] (PW LM X M sz)) (QI LM X M rs sz) 0 0 (AX LM X sz) := by
  refine met_go (L := LM) (M := M) (by decide +kernel) (Nat.le_of_ble_eq_true rfl) ?_
  intro p e s m args below meth c hsz B hr hlk hw ls hl
  subst hsz
  have hx := B.hx
  have hb := B.hb
  have hl : lv_has ls 3 [(0, .ref (X.2.2 0)), (1, .int p1)] := hl
  generalize hQ : MQ below _ args s 0 0 (AX LM X s.heap.size) = Q
  unfold f_X11_canStep at hf
  refine lv_aload_n hx hb dX11_canStep_0 rfl (lv_at hl 0 rfl) ?_
  refine gt_X11_192 B hw dX11_canStep_1 ?_
  refine lv_iload_n hx hb dX11_canStep_4 rfl (lv_at hl 1 rfl) ?_
  obtain ⟨g_1, hf⟩ := grd_e hf
  refine m_iald B hw (i := 59) rfl g_1 dX11_canStep_5 ?_
  refine r_topn hf (fun x2_2 hf => ?_)
  refine lv_istore_n (lv' := [(2, .int x2_2), (0, .ref (X.2.2 0)), (1, .int p1)]) hx hb dX11_canStep_6 rfl hl (by decide) rfl (fun ls hl => ?_)
  refine lv_aload_n hx hb dX11_canStep_7 rfl (lv_at hl 1 rfl) ?_
  refine gt_X11_189 B hw dX11_canStep_8 ?_
  refine lv_iload_n hx hb dX11_canStep_11 rfl (lv_at hl 2 rfl) ?_
  refine m_iald B hw (i := 58) rfl g_1 dX11_canStep_12 ?_
  refine lv_if_ne (tgt := 54) hx hb dX11_canStep_13 (by decide) (fun c_3 => ?_) (fun c_3 => ?_)
  · have hf := ie_e hf c_3
    refine lv_aload_n hx hb dX11_canStep_54 rfl (lv_at hl 1 rfl) ?_
    refine gt_X11_189 B hw dX11_canStep_55 ?_
    refine lv_iload_n hx hb dX11_canStep_58 rfl (lv_at hl 2 rfl) ?_
    refine m_iald B hw (i := 58) rfl g_1 dX11_canStep_59 ?_
    refine lv_iconst (v := 1) hx hb dX11_canStep_60 (by decide) ?_
    refine lv_icmp_ne (tgt := 98) hx hb dX11_canStep_61 (by decide) (fun c_4 => ?_) (fun c_4 => ?_)
    · have hf := ie_e hf c_4
      refine lv_aload_n hx hb dX11_canStep_98 rfl (lv_at hl 1 rfl) ?_
      refine lv_iload_n hx hb dX11_canStep_99 rfl (lv_at hl 0 rfl) ?_
      refine lv_aload_n hx hb dX11_canStep_100 rfl (lv_at hl 1 rfl) ?_
      refine gt_X11_195 B hw dX11_canStep_101 ?_
      refine lv_iload_n hx hb dX11_canStep_104 rfl (lv_at hl 2 rfl) ?_
      refine m_iald B hw (i := 60) rfl g_1 dX11_canStep_105 ?_
      obtain ⟨r_6, h_5, hf⟩ := bd_e hf
      refine q_callVi (M' := M) (i := 0) (As := [.int x2_2, .int (M 60 p1.toNatClampNeg)]) (rest := []) B hw (c_X11_placeOf l X fu x2_2 (M 60 p1.toNatClampNeg) M r_6 h_5 _) cv_X11_252 (rc_11 B hw) rfl hl.1 rfl rfl ⟨Nat.le_of_ble_eq_true rfl, Nat.le_of_ble_eq_true rfl⟩ (Nat.le_of_ble_eq_true rfl) ⟨Nat.le_of_ble_eq_true rfl, Nat.le_of_ble_eq_true rfl⟩ dX11_canStep_106 rfl (fun H locs hw => ?_)
      refine lv_iconst (v := (-1)) hx hb dX11_canStep_109 (by decide) ?_
      refine lv_icmp_eq (tgt := 117) hx hb dX11_canStep_110 (by decide) (fun c_7 => ?_) (fun c_7 => ?_)
      · have hf := it_e hf c_7
        refine lv_iconst (v := 0) hx hb dX11_canStep_117 (by decide) ?_
        cases hf
        subst hQ
        exact q_zret B hr hlk rfl hw rfl rfl dX11_canStep_118
      · have hf := ie_e hf c_7
        refine lv_iconst (v := 1) hx hb dX11_canStep_113 (by decide) ?_
        refine lv_goto (tgt := 118) hx hb dX11_canStep_114 (by decide) ?_
        cases hf
        subst hQ
        exact q_zret B hr hlk rfl hw rfl rfl dX11_canStep_118
    · have hf := it_e hf c_4
      refine lv_aload_n hx hb dX11_canStep_64 rfl (lv_at hl 1 rfl) ?_
      refine lv_iload_n hx hb dX11_canStep_65 rfl (lv_at hl 0 rfl) ?_
      refine lv_aload_n hx hb dX11_canStep_66 rfl (lv_at hl 1 rfl) ?_
      refine gt_X11_195 B hw dX11_canStep_67 ?_
      refine lv_iload_n hx hb dX11_canStep_70 rfl (lv_at hl 2 rfl) ?_
      refine m_iald B hw (i := 60) rfl g_1 dX11_canStep_71 ?_
      refine lv_aload_n hx hb dX11_canStep_72 rfl (lv_at hl 1 rfl) ?_
      refine gt_X11_198 B hw dX11_canStep_73 ?_
      refine lv_iload_n hx hb dX11_canStep_76 rfl (lv_at hl 2 rfl) ?_
      refine m_iald B hw (i := 61) rfl g_1 dX11_canStep_77 ?_
      refine lv_aload_n hx hb dX11_canStep_78 rfl (lv_at hl 1 rfl) ?_
      refine gt_X11_201 B hw dX11_canStep_79 ?_
      refine lv_iload_n hx hb dX11_canStep_82 rfl (lv_at hl 2 rfl) ?_
      refine m_iald B hw (i := 62) rfl g_1 dX11_canStep_83 ?_
      obtain ⟨r_9, h_8, hf⟩ := bd_e hf
      refine q_callVi (M' := M) (i := 0) (As := [.int x2_2, .int (M 60 p1.toNatClampNeg), .int (M 61 p1.toNatClampNeg), .int (M 62 p1.toNatClampNeg)]) (rest := []) B hw (c_X11_canChange l X fu x2_2 (M 60 p1.toNatClampNeg) (M 61 p1.toNatClampNeg) (M 62 p1.toNatClampNeg) M r_9 h_8 _) cv_X11_280 (rc_11 B hw) rfl hl.1 rfl rfl ⟨Nat.le_of_ble_eq_true rfl, Nat.le_of_ble_eq_true rfl⟩ (Nat.le_of_ble_eq_true rfl) ⟨Nat.le_of_ble_eq_true rfl, Nat.le_of_ble_eq_true rfl⟩ dX11_canStep_84 rfl (fun H locs hw => ?_)
      refine lv_if_ne (tgt := 94) hx hb dX11_canStep_87 (by decide) (fun c_10 => ?_) (fun c_10 => ?_)
      · have hf := ie_e hf c_10
        refine lv_iconst (v := 0) hx hb dX11_canStep_94 (by decide) ?_
        refine lv_goto (tgt := 118) hx hb dX11_canStep_95 (by decide) ?_
        cases hf
        subst hQ
        exact q_zret B hr hlk rfl hw rfl rfl dX11_canStep_118
      · have hf := it_e hf c_10
        refine lv_iconst (v := 1) hx hb dX11_canStep_90 (by decide) ?_
        refine lv_goto (tgt := 118) hx hb dX11_canStep_91 (by decide) ?_
        cases hf
        subst hQ
        exact q_zret B hr hlk rfl hw rfl rfl dX11_canStep_118
  · have hf := it_e hf c_3
    refine lv_aload_n hx hb dX11_canStep_16 rfl (lv_at hl 1 rfl) ?_
    refine lv_iload_n hx hb dX11_canStep_17 rfl (lv_at hl 0 rfl) ?_
    refine lv_aload_n hx hb dX11_canStep_18 rfl (lv_at hl 1 rfl) ?_
    refine gt_X11_195 B hw dX11_canStep_19 ?_
    refine lv_iload_n hx hb dX11_canStep_22 rfl (lv_at hl 2 rfl) ?_
    refine m_iald B hw (i := 60) rfl g_1 dX11_canStep_23 ?_
    refine lv_aload_n hx hb dX11_canStep_24 rfl (lv_at hl 1 rfl) ?_
    refine gt_X11_198 B hw dX11_canStep_25 ?_
    refine lv_iload_n hx hb dX11_canStep_28 rfl (lv_at hl 2 rfl) ?_
    refine m_iald B hw (i := 61) rfl g_1 dX11_canStep_29 ?_
    refine lv_aload_n hx hb dX11_canStep_30 rfl (lv_at hl 1 rfl) ?_
    refine gt_X11_201 B hw dX11_canStep_31 ?_
    refine lv_iload_n hx hb dX11_canStep_34 rfl (lv_at hl 2 rfl) ?_
    refine m_iald B hw (i := 62) rfl g_1 dX11_canStep_35 ?_
    refine lv_aload_n hx hb dX11_canStep_36 rfl (lv_at hl 1 rfl) ?_
    refine gt_X11_204 B hw dX11_canStep_37 ?_
    refine lv_iload_n hx hb dX11_canStep_40 rfl (lv_at hl 2 rfl) ?_
    refine m_iald B hw (i := 63) rfl g_1 dX11_canStep_41 ?_
    obtain ⟨r_12, h_11, hf⟩ := bd_e hf
    refine q_callVi (M' := M) (i := 0) (As := [.int x2_2, .int (M 60 p1.toNatClampNeg), .int (M 61 p1.toNatClampNeg), .int (M 62 p1.toNatClampNeg), .int (M 63 p1.toNatClampNeg)]) (rest := []) B hw (c_X11_canAdd l X fu x2_2 (M 60 p1.toNatClampNeg) (M 61 p1.toNatClampNeg) (M 62 p1.toNatClampNeg) (M 63 p1.toNatClampNeg) M r_12 h_11 _) cv_X11_273 (rc_11 B hw) rfl hl.1 rfl rfl ⟨Nat.le_of_ble_eq_true rfl, Nat.le_of_ble_eq_true rfl⟩ (Nat.le_of_ble_eq_true rfl) ⟨Nat.le_of_ble_eq_true rfl, Nat.le_of_ble_eq_true rfl⟩ dX11_canStep_42 rfl (fun H locs hw => ?_)
    refine lv_if_ne (tgt := 52) hx hb dX11_canStep_45 (by decide) (fun c_13 => ?_) (fun c_13 => ?_)
    · have hf := ie_e hf c_13
      refine lv_iconst (v := 0) hx hb dX11_canStep_52 (by decide) ?_
      cases hf
      subst hQ
      exact q_zret B hr hlk rfl hw rfl rfl dX11_canStep_53
    · have hf := it_e hf c_13
      refine lv_iconst (v := 1) hx hb dX11_canStep_48 (by decide) ?_
      refine lv_goto (tgt := 53) hx hb dX11_canStep_49 (by decide) ?_
      cases hf
      subst hQ
      exact q_zret B hr hlk rfl hw rfl rfl dX11_canStep_53
