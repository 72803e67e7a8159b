abbrev rm_X1_takeSeat : Room := { frames := 5, cells := 0, slots := 0, locals := 124 }
set_option maxRecDepth 100000 in
set_option maxHeartbeats 4000000 in
theorem c_X1_takeSeat (l : Launch) (X : XT) (fu : Nat) (p1 : Int32) (M : Mem)  (rs : Mem) (hf : f_X1_takeSeat fu p1 M = some rs) (sz : Nat) : Met l yX1_takeSeat (wbig yX1_takeSeat cX1_takeSeat 7 none) rm_X1_takeSeat (va_Pc [.ref (X.2.2 120), .int p1] (PW LC X M sz)) (QV LC X rs sz) 0 0 (AX LC X sz) := by
  refine met_go (L := LC) (M := M) (by decide +kernel) (Nat.le_of_ble_eq_true rfl) ?_
  intro p e s m args below meth c hsz B hr hlk hw ls hl
  subst hsz
  have hx := B.hx
  have hb := B.hb
  have hl : lv_has ls 7 [(0, .ref (X.2.2 120)), (1, .int p1)] := hl
  generalize hQ : MQ below _ args s 0 0 (AX LC X s.heap.size) = Q
  unfold f_X1_takeSeat at hf
  refine lv_aload_n hx hb dX1_takeSeat_0 rfl (lv_at hl 0 rfl) ?_
  refine gt_X1_27 B hw (i := 120) rfl dX1_takeSeat_1 ?_
  refine gt_X1_80 B hw (i := 80) rfl dX1_takeSeat_4 ?_
  refine lv_iload_n hx hb dX1_takeSeat_7 rfl (lv_at hl 1 rfl) ?_
  obtain ⟨g_1, hf⟩ := grd_e hf
  refine c_iald B hw (i := 81) rfl g_1 dX1_takeSeat_8 ?_
  refine r_topn hf (fun x2_2 hf => ?_)
  refine lv_istore_n (lv' := [(2, .int x2_2), (0, .ref (X.2.2 120)), (1, .int p1)]) hx hb dX1_takeSeat_9 rfl hl (by decide) rfl (fun ls hl => ?_)
  refine lv_aload_n hx hb dX1_takeSeat_10 rfl (lv_at hl 1 rfl) ?_
  refine gt_X1_23 B hw (i := 120) rfl dX1_takeSeat_11 ?_
  refine lv_aload_n hx hb dX1_takeSeat_14 rfl (lv_at hl 1 rfl) ?_
  refine gt_X1_27 B hw (i := 120) rfl dX1_takeSeat_15 ?_
  refine lv_iload_n hx hb dX1_takeSeat_18 rfl (lv_at hl 2 rfl) ?_
  refine lv_aload_n hx hb dX1_takeSeat_19 rfl (lv_at hl 1 rfl) ?_
  refine gt_X1_35 B hw (i := 120) rfl dX1_takeSeat_20 ?_
  obtain ⟨r_4, h_3, hf⟩ := bd_e hf
  refine q_callVq (M' := M) (i := 2) (As := [.ref (X.2.2 80), .int p1, .int (M 120 7)]) (rest := []) B hw (c_X3_serving l X fu p1 (M 120 7) M r_4 h_3 _) cv_X1_82 (rc_3 B hw rfl) rfl hl.1 rfl rfl ⟨Nat.le_of_ble_eq_true rfl, Nat.le_of_ble_eq_true rfl⟩ (Nat.le_of_ble_eq_true rfl) ⟨Nat.le_of_ble_eq_true rfl, Nat.le_of_ble_eq_true rfl⟩ dX1_takeSeat_23 rfl (fun H locs hw => ?_)
  cases r_4 with
  | none =>
    have hf : _ = some rs := hf
    refine lv_astore_nN (lv' := [(3, .null), (2, .int x2_2), (0, .ref (X.2.2 120)), (1, .int p1)]) hx hb dX1_takeSeat_26 rfl hl (by decide) rfl (fun ls hl => ?_)
    refine lv_aload_nN hx hb dX1_takeSeat_27 rfl (lv_at hl 0 rfl) ?_
    refine lv_ifnullN (tgt := 66) hx hb dX1_takeSeat_28 (by decide) ?_
    refine lv_aload_n hx hb dX1_takeSeat_66 rfl (lv_at hl 2 rfl) ?_
    refine lv_aload_n hx hb dX1_takeSeat_67 rfl (lv_at hl 2 rfl) ?_
    refine gt_X1_19 B hw (i := 120) rfl dX1_takeSeat_68 ?_
    refine gt_X1_112 B hw (i := 57) rfl dX1_takeSeat_71 ?_
    refine lv_iload_n hx hb dX1_takeSeat_74 rfl (lv_at hl 1 rfl) ?_
    obtain ⟨g_13, hf⟩ := grd_e hf
    refine c_iald B hw (i := 60) rfl g_13 dX1_takeSeat_75 ?_
    refine lv_aload_n hx hb dX1_takeSeat_76 rfl (lv_at hl 2 rfl) ?_
    refine gt_X1_45 B hw (i := 120) rfl dX1_takeSeat_77 ?_
    obtain ⟨M_15, h_14, hf⟩ := bd_e hf
    refine q_callVv (M' := M_15) (i := 120) (As := [.int (M 60 x2_2.toNatClampNeg), .int (M 120 10)]) (rest := []) B hw (c_X1_narrow l X fu (M 60 x2_2.toNatClampNeg) (M 120 10) M M_15 h_14 _) cv_X1_105 (rc_1 B hw rfl) rfl hl.1 rfl rfl ⟨Nat.le_of_ble_eq_true rfl, Nat.le_of_ble_eq_true rfl⟩ (Nat.le_of_ble_eq_true rfl) ⟨Nat.le_of_ble_eq_true rfl, Nat.le_of_ble_eq_true rfl⟩ dX1_takeSeat_80 rfl (fun H locs hw => ?_)
    refine lv_iconst (v := 3) hx hb dX1_takeSeat_83 (by decide) ?_
    refine lv_istore (lv' := [(4, .int 3), (3, .null), (2, .int x2_2), (0, .ref (X.2.2 120)), (1, .int p1)]) hx hb dX1_takeSeat_84 hl (by decide) rfl (fun ls hl => ?_)
    refine lv_aload_n hx hb dX1_takeSeat_86 rfl (lv_at hl 3 rfl) ?_
    refine lv_iload_n hx hb dX1_takeSeat_87 rfl (lv_at hl 4 rfl) ?_
    obtain ⟨r_17, h_16, hf⟩ := bd_e hf
    refine q_callVi (M' := M_15) (i := 120) (As := [.int p1]) (rest := []) B hw (c_X1_endOf l X fu p1 M_15 r_17 h_16 _) cv_X1_73 (rc_1 B hw rfl) rfl hl.1 rfl rfl ⟨Nat.le_of_ble_eq_true rfl, Nat.le_of_ble_eq_true rfl⟩ (Nat.le_of_ble_eq_true rfl) ⟨Nat.le_of_ble_eq_true rfl, Nat.le_of_ble_eq_true rfl⟩ dX1_takeSeat_88 rfl (fun H locs hw => ?_)
    refine lv_istore (lv' := [(5, .int r_17), (4, .int 3), (3, .null), (2, .int x2_2), (0, .ref (X.2.2 120)), (1, .int p1)]) hx hb dX1_takeSeat_91 hl (by decide) rfl (fun ls hl => ?_)
    refine lv_iload hx hb dX1_takeSeat_93 (lv_at hl 0 rfl) ?_
    refine lv_iconst (v := (-1)) hx hb dX1_takeSeat_95 (by decide) ?_
    refine jn_e hf (fun kk => ∀ (x4_19 : Int32) (M_20 : Mem) (H : Heap) (locs : List Loc) (ls : Array Slot), HW LC X M_20 s H locs → lv_has ls 7 [(0, .ref (X.2.2 120)), (1, .int p1), (4, .int x4_19)] → kk x4_19 M_20 = some rs → W p l e rm_X1_takeSeat s m args below meth c H locs 0 0 Q (F0 m 164 ls [])) ?_ (fun k164_18 J164_18 hf => ?_)
    · intro x4_19 M_20 H locs ls hw hl hf
      refine lv_iload hx hb dX1_takeSeat_164 (lv_at hl 2 rfl) ?_
      refine lv_iconst (v := 1) hx hb dX1_takeSeat_166 (by decide) ?_
      refine jn_e hf (fun kk => ∀ (M_22 : Mem) (H : Heap) (locs : List Loc) (ls : Array Slot), HW LC X M_22 s H locs → lv_has ls 7 [(0, .ref (X.2.2 120)), (1, .int p1), (4, .int x4_19)] → kk M_22 = some rs → W p l e rm_X1_takeSeat s m args below meth c H locs 0 0 Q (F0 m 175 ls [])) ?_ (fun k175_21 J175_21 hf => ?_)
      · intro M_22 H locs ls hw hl hf
        refine lv_aload_n hx hb dX1_takeSeat_175 rfl (lv_at hl 0 rfl) ?_
        refine lv_iload_n hx hb dX1_takeSeat_176 rfl (lv_at hl 1 rfl) ?_
        refine lv_iload hx hb dX1_takeSeat_177 (lv_at hl 2 rfl) ?_
        obtain ⟨M_24, h_23, hf⟩ := bd_e hf
        refine q_callVv (M' := M_24) (i := 120) (As := [.int p1, .int x4_19]) (rest := []) B hw (c_X1_close l X fu p1 x4_19 M_22 M_24 h_23 _) cv_X1_109 (rc_1 B hw rfl) rfl hl.1 rfl rfl ⟨Nat.le_of_ble_eq_true rfl, Nat.le_of_ble_eq_true rfl⟩ (Nat.le_of_ble_eq_true rfl) ⟨Nat.le_of_ble_eq_true rfl, Nat.le_of_ble_eq_true rfl⟩ dX1_takeSeat_179 rfl (fun H locs hw => ?_)
        cases hf
        subst hQ
        exact q_vret B hr hlk hw rfl dX1_takeSeat_182
      refine lv_icmp_eq (tgt := 175) hx hb dX1_takeSeat_167 (by decide) (fun c_25 => ?_) (fun c_25 => ?_)
      · have hf := it_e hf c_25
        exact J175_21 M_20 _ _ _ hw (lv_sub hl [0, 1, 2] rfl) hf
      · have hf := ie_e hf c_25
        refine lv_aload_n hx hb dX1_takeSeat_170 rfl (lv_at hl 0 rfl) ?_
        refine lv_iload_n hx hb dX1_takeSeat_171 rfl (lv_at hl 1 rfl) ?_
        obtain ⟨M_27, h_26, hf⟩ := bd_e hf
        refine q_callVv (M' := M_27) (i := 120) (As := [.int p1]) (rest := []) B hw (c_X1_scan l X fu p1 M_20 M_27 h_26 _) cv_X1_144 (rc_1 B hw rfl) rfl hl.1 rfl rfl ⟨Nat.le_of_ble_eq_true rfl, Nat.le_of_ble_eq_true rfl⟩ (Nat.le_of_ble_eq_true rfl) ⟨Nat.le_of_ble_eq_true rfl, Nat.le_of_ble_eq_true rfl⟩ dX1_takeSeat_172 rfl (fun H locs hw => ?_)
        exact J175_21 M_27 _ _ _ hw (lv_sub hl [0, 1, 2] rfl) hf
    refine lv_icmp_eq (tgt := 164) hx hb dX1_takeSeat_96 (by decide) (fun c_28 => ?_) (fun c_28 => ?_)
    · have hf := it_e hf c_28
      exact J164_18 3 M_15 _ _ _ hw (lv_sub hl [4, 5, 1] rfl) hf
    · have hf := ie_e hf c_28
      refine lv_aload_n hx hb dX1_takeSeat_99 rfl (lv_at hl 4 rfl) ?_
      refine lv_iload_n hx hb dX1_takeSeat_100 rfl (lv_at hl 3 rfl) ?_
      refine lv_iload hx hb dX1_takeSeat_101 (lv_at hl 0 rfl) ?_
      obtain ⟨r_30, h_29, hf⟩ := bd_e hf
      refine q_callVi (M' := M_15) (i := 120) (As := [.int x2_2, .int r_17]) (rest := []) B hw (c_X1_mayBind l X fu x2_2 r_17 M_15 r_30 h_29 _) cv_X1_117 (rc_1 B hw rfl) rfl hl.1 rfl rfl ⟨Nat.le_of_ble_eq_true rfl, Nat.le_of_ble_eq_true rfl⟩ (Nat.le_of_ble_eq_true rfl) ⟨Nat.le_of_ble_eq_true rfl, Nat.le_of_ble_eq_true rfl⟩ dX1_takeSeat_103 rfl (fun H locs hw => ?_)
      refine lv_if_eq (tgt := 164) hx hb dX1_takeSeat_106 (by decide) (fun c_31 => ?_) (fun c_31 => ?_)
      · have hf := it_e hf c_31
        exact J164_18 3 M_15 _ _ _ hw (lv_sub hl [4, 5, 1] rfl) hf
      · have hf := ie_e hf c_31
        refine lv_aload_n hx hb dX1_takeSeat_109 rfl (lv_at hl 4 rfl) ?_
        refine lv_iload_n hx hb dX1_takeSeat_110 rfl (lv_at hl 5 rfl) ?_
        obtain ⟨r_33, h_32, hf⟩ := bd_e hf
        refine q_callVi (M' := M_15) (i := 120) (As := [.int p1]) (rest := []) B hw (c_X1_scanCost l X fu p1 M_15 r_33 h_32 _) cv_X1_121 (rc_1 B hw rfl) rfl hl.1 rfl rfl ⟨Nat.le_of_ble_eq_true rfl, Nat.le_of_ble_eq_true rfl⟩ (Nat.le_of_ble_eq_true rfl) ⟨Nat.le_of_ble_eq_true rfl, Nat.le_of_ble_eq_true rfl⟩ dX1_takeSeat_111 rfl (fun H locs hw => ?_)
        refine lv_istore (lv' := [(6, .int r_33), (5, .int r_17), (4, .int 3), (3, .null), (2, .int x2_2), (0, .ref (X.2.2 120)), (1, .int p1)]) hx hb dX1_takeSeat_114 hl (by decide) rfl (fun ls hl => ?_)
        refine lv_aload_n hx hb dX1_takeSeat_116 rfl (lv_at hl 5 rfl) ?_
        refine lv_iload hx hb dX1_takeSeat_117 (lv_at hl 1 rfl) ?_
        refine lv_iconst (v := 1) hx hb dX1_takeSeat_119 (by decide) ?_
        refine lv_ixor hx hb dX1_takeSeat_120 ?_
        obtain ⟨M_35, h_34, hf⟩ := bd_e hf
        refine q_callVv (M' := M_35) (i := 120) (As := [.int (r_17 ^^^ 1)]) (rest := []) B hw (c_X1_gatherKeys l X fu (r_17 ^^^ 1) M_15 M_35 h_34 _) cv_X1_124 (rc_1 B hw rfl) rfl hl.1 rfl rfl ⟨Nat.le_of_ble_eq_true rfl, Nat.le_of_ble_eq_true rfl⟩ (Nat.le_of_ble_eq_true rfl) ⟨Nat.le_of_ble_eq_true rfl, Nat.le_of_ble_eq_true rfl⟩ dX1_takeSeat_121 rfl (fun H locs hw => ?_)
        refine lv_aload_n hx hb dX1_takeSeat_124 rfl (lv_at hl 5 rfl) ?_
        refine lv_iload_n hx hb dX1_takeSeat_125 rfl (lv_at hl 4 rfl) ?_
        refine q_callNi (M' := M_35) (As := [.int x2_2]) (rest := [.ref (X.2.2 120)]) B hw (c_X10_storeOf l X x2_2 _ rfl M_35 _) cn_X1_128 rfl hl.1 rfl rfl ⟨Nat.le_of_ble_eq_true rfl, Nat.le_of_ble_eq_true rfl⟩ (Nat.le_of_ble_eq_true rfl) ⟨Nat.le_of_ble_eq_true rfl, Nat.le_of_ble_eq_true rfl⟩ dX1_takeSeat_126 rfl (fun H locs hw => ?_)
        obtain ⟨r_37, h_36, hf⟩ := bd_e hf
        refine q_callVi (M' := M_35) (i := 120) (As := [.int (f_X10_storeOf x2_2)]) (rest := []) B hw (c_X1_bindCost l X fu (f_X10_storeOf x2_2) M_35 r_37 h_36 _) cv_X1_131 (rc_1 B hw rfl) rfl hl.1 rfl rfl ⟨Nat.le_of_ble_eq_true rfl, Nat.le_of_ble_eq_true rfl⟩ (Nat.le_of_ble_eq_true rfl) ⟨Nat.le_of_ble_eq_true rfl, Nat.le_of_ble_eq_true rfl⟩ dX1_takeSeat_129 rfl (fun H locs hw => ?_)
        refine lv_iload hx hb dX1_takeSeat_132 (lv_at hl 0 rfl) ?_
        refine lv_icmp_ge (tgt := 164) hx hb dX1_takeSeat_134 (by decide) (fun c_38 => ?_) (fun c_38 => ?_)
        · have hf := it_e hf c_38
          exact J164_18 3 M_35 _ _ _ hw (lv_sub hl [5, 6, 2] rfl) hf
        · have hf := ie_e hf c_38
          refine lv_aload_n hx hb dX1_takeSeat_137 rfl (lv_at hl 5 rfl) ?_
          refine lv_iload_n hx hb dX1_takeSeat_138 rfl (lv_at hl 6 rfl) ?_
          refine lv_aload_n hx hb dX1_takeSeat_139 rfl (lv_at hl 5 rfl) ?_
          refine gt_X1_27 B hw (i := 120) rfl dX1_takeSeat_140 ?_
          refine gt_X1_134 B hw (i := 80) rfl dX1_takeSeat_143 ?_
          refine lv_iload hx hb dX1_takeSeat_146 (lv_at hl 1 rfl) ?_
          obtain ⟨g_39, hf⟩ := grd_e hf
          refine c_iald B hw (i := 83) rfl g_39 dX1_takeSeat_148 ?_
          refine lv_aload_n hx hb dX1_takeSeat_149 rfl (lv_at hl 5 rfl) ?_
          refine gt_X1_31 B hw (i := 120) rfl dX1_takeSeat_150 ?_
          refine gt_X1_137 B hw (i := 90) rfl dX1_takeSeat_153 ?_
          refine lv_iload hx hb dX1_takeSeat_156 (lv_at hl 0 rfl) ?_
          refine lv_iadd hx hb dX1_takeSeat_158 ?_
          obtain ⟨r_41, M_42, h_40, hf⟩ := bm_e hf
          refine q_callVi (M' := M_42) (i := 120) (As := [.int p1, .int (M_35 83 r_17.toNatClampNeg), .int ((M_35 90 9) + r_33)]) (rest := []) B hw (c_X1_bind l X fu p1 (M_35 83 r_17.toNatClampNeg) ((M_35 90 9) + r_33) M_35 (r_41, M_42) h_40 _) cv_X1_140 (rc_1 B hw rfl) rfl hl.1 rfl rfl ⟨Nat.le_of_ble_eq_true rfl, Nat.le_of_ble_eq_true rfl⟩ (Nat.le_of_ble_eq_true rfl) ⟨Nat.le_of_ble_eq_true rfl, Nat.le_of_ble_eq_true rfl⟩ dX1_takeSeat_159 rfl (fun H locs hw => ?_)
          refine lv_istore (lv' := [(4, .int r_41), (6, .int r_33), (5, .int r_17), (3, .null), (2, .int x2_2), (0, .ref (X.2.2 120)), (1, .int p1)]) hx hb dX1_takeSeat_162 hl (by decide) rfl (fun ls hl => ?_)
          exact J164_18 r_41 M_42 _ _ _ hw (lv_sub hl [5, 6, 0] rfl) hf
  | some e_5 =>
    obtain ⟨he_5, hf⟩ := grd_e (show grd _ _ = some rs from hf)
    have he_5 := kb_e he_5
    refine lv_astore_n (lv' := [(3, .ref (X.2.2 e_5)), (2, .int x2_2), (0, .ref (X.2.2 120)), (1, .int p1)]) hx hb dX1_takeSeat_26 rfl hl (by decide) rfl (fun ls hl => ?_)
    refine lv_aload_n hx hb dX1_takeSeat_27 rfl (lv_at hl 0 rfl) ?_
    refine lv_ifnull hx hb dX1_takeSeat_28 ?_
    refine lv_aload_n hx hb dX1_takeSeat_31 rfl (lv_at hl 2 rfl) ?_
    refine gt_X1_31 B hw (i := 120) rfl dX1_takeSeat_32 ?_
    refine gt_X1_88 B hw (i := 90) rfl dX1_takeSeat_35 ?_
    refine lv_iload_n hx hb dX1_takeSeat_38 rfl (lv_at hl 3 rfl) ?_
    refine c_aldR B hw (i := 95) rfl g_1 dX1_takeSeat_39 ?_
    refine r_topk (kV rfl g_1) hf (fun a_6 ha_6 hf => ?_)
    refine lv_aload_n hx hb dX1_takeSeat_40 rfl (lv_at hl 0 rfl) ?_
    refine gt_X1_92 B hw (i := e_5) he_5 dX1_takeSeat_41 ?_
    obtain ⟨M_8, h_7, hf⟩ := bd_e hf
    refine q_callVv (M' := M_8) (i := a_6) (As := [.ref (X.2.2 (e_5 + 1))]) (rest := []) B hw (c_X6_copy l X fu a_6 (e_5 + 1) M ha_6 (kE1 he_5) M_8 h_7 _) cv_X1_97 (rc_6 B hw ha_6) rfl hl.1 rfl rfl ⟨Nat.le_of_ble_eq_true rfl, Nat.le_of_ble_eq_true rfl⟩ (Nat.le_of_ble_eq_true rfl) ⟨Nat.le_of_ble_eq_true rfl, Nat.le_of_ble_eq_true rfl⟩ dX1_takeSeat_44 rfl (fun H locs hw => ?_)
    refine lv_aload_n hx hb dX1_takeSeat_47 rfl (lv_at hl 2 rfl) ?_
    refine lv_aload_n hx hb dX1_takeSeat_48 rfl (lv_at hl 0 rfl) ?_
    refine gt_X1_103 B hw (i := e_5) he_5 dX1_takeSeat_49 ?_
    refine lv_aload_n hx hb dX1_takeSeat_52 rfl (lv_at hl 0 rfl) ?_
    refine gt_X1_104 B hw (i := e_5) he_5 dX1_takeSeat_53 ?_
    obtain ⟨M_10, h_9, hf⟩ := bd_e hf
    refine q_callVv (M' := M_10) (i := 120) (As := [.int (M_8 e_5 8), .int (M_8 e_5 9)]) (rest := []) B hw (c_X1_narrow l X fu (M_8 e_5 8) (M_8 e_5 9) M_8 M_10 h_9 _) cv_X1_105 (rc_1 B hw rfl) rfl hl.1 rfl rfl ⟨Nat.le_of_ble_eq_true rfl, Nat.le_of_ble_eq_true rfl⟩ (Nat.le_of_ble_eq_true rfl) ⟨Nat.le_of_ble_eq_true rfl, Nat.le_of_ble_eq_true rfl⟩ dX1_takeSeat_56 rfl (fun H locs hw => ?_)
    refine lv_aload_n hx hb dX1_takeSeat_59 rfl (lv_at hl 2 rfl) ?_
    refine lv_iload_n hx hb dX1_takeSeat_60 rfl (lv_at hl 3 rfl) ?_
    refine lv_iconst (v := 0) hx hb dX1_takeSeat_61 (by decide) ?_
    obtain ⟨M_12, h_11, hf⟩ := bd_e hf
    refine q_callVv (M' := M_12) (i := 120) (As := [.int p1, .int 0]) (rest := []) B hw (c_X1_close l X fu p1 0 M_10 M_12 h_11 _) cv_X1_109 (rc_1 B hw rfl) rfl hl.1 rfl rfl ⟨Nat.le_of_ble_eq_true rfl, Nat.le_of_ble_eq_true rfl⟩ (Nat.le_of_ble_eq_true rfl) ⟨Nat.le_of_ble_eq_true rfl, Nat.le_of_ble_eq_true rfl⟩ dX1_takeSeat_62 rfl (fun H locs hw => ?_)
    cases hf
    subst hQ
    exact q_vret B hr hlk hw rfl dX1_takeSeat_65
abbrev rm_X2_addStep : Room := { frames := 0, cells := 0, slots := 0, locals := 0 }
set_option maxRecDepth 100000 in
set_option maxHeartbeats 4000000 in
theorem c_X2_addStep (l : Launch) (X : XT) (fu : Nat) (p1 : Int32) (p2 : Int32) (p3 : Int32) (p4 : Int32) (p5 : Int32) (p6 : Int32) (M : Mem)  (rs : (Int32 × Mem)) (hf : f_X2_addStep fu p1 p2 p3 p4 p5 p6 M = some rs) (sz : Nat) : Met l yX2_addStep (wbig yX2_addStep cX2_addStep 8 (some .int)) rm_X2_addStep (va_Pc [.ref (X.2.2 122), .int p1, .int p2, .int p3, .int p4, .int p5, .int p6] (PW LC X M sz)) (QI LC X rs.2 rs.1 sz) 0 0 (AX LC X sz) := by
  refine met_go (L := LC) (M := M) (by decide +kernel) (Nat.le_of_ble_eq_true rfl) ?_
  intro p e s m args below meth c hsz B hr hlk hw ls hl
  subst hsz
  have hx := B.hx
  have hb := B.hb
  have hl : lv_has ls 8 [(0, .ref (X.2.2 122)), (1, .int p1), (2, .int p2), (3, .int p3), (4, .int p4), (5, .int p5), (6, .int p6)] := hl
  generalize hQ : MQ below _ args s 0 0 (AX LC X s.heap.size) = Q
  unfold f_X2_addStep at hf
  refine lv_aload_n hx hb dX2_addStep_0 rfl (lv_at hl 0 rfl) ?_
  refine gt_X2_9 B hw (i := 122) rfl dX2_addStep_1 ?_
  refine lv_aload_n hx hb dX2_addStep_4 rfl (lv_at hl 0 rfl) ?_
  refine gt_X2_46 B hw (i := 122) rfl dX2_addStep_5 ?_
  refine lv_iload_n hx hb dX2_addStep_8 rfl (lv_at hl 1 rfl) ?_
  obtain ⟨g_1, hf⟩ := grd_e hf
  refine c_iast B hw (i := 123) rfl g_1 dX2_addStep_9 hf (fun M_2 H locs hw hf => ?_)
  refine lv_aload_n hx hb dX2_addStep_10 rfl (lv_at hl 0 rfl) ?_
  refine gt_X2_15 B hw (i := 122) rfl dX2_addStep_11 ?_
  refine lv_aload_n hx hb dX2_addStep_14 rfl (lv_at hl 0 rfl) ?_
  refine gt_X2_46 B hw (i := 122) rfl dX2_addStep_15 ?_
  refine lv_iload_n hx hb dX2_addStep_18 rfl (lv_at hl 2 rfl) ?_
  obtain ⟨g_3, hf⟩ := grd_e hf
  refine c_iast B hw (i := 124) rfl g_3 dX2_addStep_19 hf (fun M_4 H locs hw hf => ?_)
  refine lv_aload_n hx hb dX2_addStep_20 rfl (lv_at hl 0 rfl) ?_
  refine gt_X2_46 B hw (i := 122) rfl dX2_addStep_21 ?_
  refine lv_iconst (v := 4) hx hb dX2_addStep_24 (by decide) ?_
  refine lv_imul hx hb dX2_addStep_25 ?_
  refine r_topn hf (fun x7_5 hf => ?_)
  refine lv_istore (lv' := [(7, .int x7_5), (0, .ref (X.2.2 122)), (1, .int p1), (2, .int p2), (3, .int p3), (4, .int p4), (5, .int p5), (6, .int p6)]) hx hb dX2_addStep_26 hl (by decide) rfl (fun ls hl => ?_)
  refine lv_aload_n hx hb dX2_addStep_28 rfl (lv_at hl 1 rfl) ?_
  refine gt_X2_18 B hw (i := 122) rfl dX2_addStep_29 ?_
  refine lv_iload hx hb dX2_addStep_32 (lv_at hl 0 rfl) ?_
  refine lv_iload_n hx hb dX2_addStep_34 rfl (lv_at hl 4 rfl) ?_
  obtain ⟨g_6, hf⟩ := grd_e hf
  refine c_iast B hw (i := 125) rfl g_6 dX2_addStep_35 hf (fun M_7 H locs hw hf => ?_)
  refine lv_aload_n hx hb dX2_addStep_36 rfl (lv_at hl 1 rfl) ?_
  refine gt_X2_18 B hw (i := 122) rfl dX2_addStep_37 ?_
  refine lv_iload hx hb dX2_addStep_40 (lv_at hl 0 rfl) ?_
  refine lv_iconst (v := 1) hx hb dX2_addStep_42 (by decide) ?_
  refine lv_iadd hx hb dX2_addStep_43 ?_
  refine lv_iload hx hb dX2_addStep_44 (lv_at hl 5 rfl) ?_
  obtain ⟨g_8, hf⟩ := grd_e hf
  refine c_iast B hw (i := 125) rfl g_8 dX2_addStep_46 hf (fun M_9 H locs hw hf => ?_)
  refine lv_aload_n hx hb dX2_addStep_47 rfl (lv_at hl 1 rfl) ?_
  refine gt_X2_18 B hw (i := 122) rfl dX2_addStep_48 ?_
  refine lv_iload hx hb dX2_addStep_51 (lv_at hl 0 rfl) ?_
  refine lv_iconst (v := 2) hx hb dX2_addStep_53 (by decide) ?_
  refine lv_iadd hx hb dX2_addStep_54 ?_
  refine lv_iload hx hb dX2_addStep_55 (lv_at hl 6 rfl) ?_
  obtain ⟨g_10, hf⟩ := grd_e hf
  refine c_iast B hw (i := 125) rfl g_10 dX2_addStep_57 hf (fun M_11 H locs hw hf => ?_)
  refine lv_aload_n hx hb dX2_addStep_58 rfl (lv_at hl 1 rfl) ?_
  refine gt_X2_18 B hw (i := 122) rfl dX2_addStep_59 ?_
  refine lv_iload hx hb dX2_addStep_62 (lv_at hl 0 rfl) ?_
  refine lv_iconst (v := 3) hx hb dX2_addStep_64 (by decide) ?_
  refine lv_iadd hx hb dX2_addStep_65 ?_
  refine lv_iload hx hb dX2_addStep_66 (lv_at hl 7 rfl) ?_
  obtain ⟨g_12, hf⟩ := grd_e hf
  refine c_iast B hw (i := 125) rfl g_12 dX2_addStep_68 hf (fun M_13 H locs hw hf => ?_)
  refine lv_aload_n hx hb dX2_addStep_69 rfl (lv_at hl 1 rfl) ?_
  refine gt_X2_21 B hw (i := 122) rfl dX2_addStep_70 ?_
  refine lv_aload_n hx hb dX2_addStep_73 rfl (lv_at hl 1 rfl) ?_
  refine gt_X2_46 B hw (i := 122) rfl dX2_addStep_74 ?_
  refine lv_iconst (v := 0) hx hb dX2_addStep_77 (by decide) ?_
  obtain ⟨g_14, hf⟩ := grd_e hf
  refine c_zast B hw (i := 126) rfl g_14 rfl dX2_addStep_78 hf (fun M_15 H locs hw hf => ?_)
  refine lv_aload_n hx hb dX2_addStep_79 rfl (lv_at hl 1 rfl) ?_
  refine lv_dup hx hb dX2_addStep_80 rfl ?_
  refine gt_X2_46 B hw (i := 122) rfl dX2_addStep_81 ?_
  refine lv_iconst (v := 1) hx hb dX2_addStep_84 (by decide) ?_
  refine lv_iadd hx hb dX2_addStep_85 ?_
  refine pt_X2_46 B hw (i := 122) rfl dX2_addStep_86 hf (fun M_16 H locs hw hf => ?_)
  refine lv_aload_n hx hb dX2_addStep_89 rfl (lv_at hl 1 rfl) ?_
  refine gt_X2_46 B hw (i := 122) rfl dX2_addStep_90 ?_
  cases hf
  subst hQ
  exact q_iret B hr hlk hw rfl rfl dX2_addStep_93
abbrev rm_X6_placeOf : Room := { frames := 0, cells := 0, slots := 0, locals := 0 }
set_option maxRecDepth 100000 in
set_option maxHeartbeats 4000000 in
theorem c_X6_placeOf (l : Launch) (X : XT) (fu : Nat) (a0 : Nat) (p1 : Int32) (M : Mem) (ha0 : kC a0 = (6, 0)) (rs : Int32) (hf : f_X6_placeOf fu a0 p1 M = some rs) (sz : Nat) : Met l yX6_placeOf (wbig yX6_placeOf cX6_placeOf 3 (some .int)) rm_X6_placeOf (va_Pc [.ref (X.2.2 a0), .int p1] (PW LC X M sz)) (QI LC X M rs sz) 0 0 (AX LC X sz) := by
  refine met_go (L := LC) (M := M) (by decide +kernel) (Nat.le_of_ble_eq_true rfl) ?_
  intro p e s m args below meth c hsz B hr hlk hw ls hl
  subst hsz
  have hx := B.hx
  have hb := B.hb
  have hl : lv_has ls 3 [(0, .ref (X.2.2 a0)), (1, .int p1)] := hl
  generalize hQ : MQ below _ args s 0 0 (AX LC X s.heap.size) = Q
  unfold f_X6_placeOf at hf
  refine lv_iconst (v := 0) hx hb dX6_placeOf_0 (by decide) ?_
  refine lv_istore_n (lv' := [(2, .int 0), (0, .ref (X.2.2 a0)), (1, .int p1)]) hx hb dX6_placeOf_1 rfl hl (by decide) rfl (fun ls hl => ?_)
  have hL_2 : ∀ (n_2 : Nat) (x2_1 : Int32) (H : Heap) (locs : List Loc) (ls : Array Slot), HW LC X M s H locs → lv_has ls 3 [(0, .ref (X.2.2 a0)), (1, .int p1), (2, .int x2_1)] → f_X6_placeOf_L2 fu a0 p1 M n_2 x2_1 = some rs → W p l e rm_X6_placeOf s m args below meth c H locs 0 0 Q (F0 m 2 ls []) := by
    intro n_2
    induction n_2 with
    | zero => intro x2_1 H locs ls hw hl hf; exact no_none hf
    | succ n_2 ih_2 =>
      intro x2_1 H locs ls hw hl hf
      rw [f_X6_placeOf_L2] at hf
      refine lv_iload_n hx hb dX6_placeOf_2 rfl (lv_at hl 2 rfl) ?_
      refine lv_aload_n hx hb dX6_placeOf_3 rfl (lv_at hl 0 rfl) ?_
      refine gt_X6_18 B hw (i := a0) ha0 dX6_placeOf_4 ?_
      refine lv_icmp_ge (tgt := 28) hx hb dX6_placeOf_7 (by decide) (fun c_2 => ?_) (fun c_2 => ?_)
      · have hf := it_e hf c_2
        refine lv_iconst (v := (-1)) hx hb dX6_placeOf_28 (by decide) ?_
        cases hf
        subst hQ
        exact q_iret B hr hlk hw rfl rfl dX6_placeOf_29
      · have hf := ie_e hf c_2
        refine lv_aload_n hx hb dX6_placeOf_10 rfl (lv_at hl 0 rfl) ?_
        refine gt_X6_9 B hw (i := a0) ha0 dX6_placeOf_11 ?_
        refine lv_iload_n hx hb dX6_placeOf_14 rfl (lv_at hl 2 rfl) ?_
        obtain ⟨g_3, hf⟩ := grd_e hf
        refine c_iald B hw (i := (a0 + 1)) (kR1 ha0) g_3 dX6_placeOf_15 ?_
        refine lv_iload_n hx hb dX6_placeOf_16 rfl (lv_at hl 1 rfl) ?_
        refine lv_icmp_ne (tgt := 22) hx hb dX6_placeOf_17 (by decide) (fun c_4 => ?_) (fun c_4 => ?_)
        · have hf := ie_e hf c_4
          refine r_iinc (v := (x2_1 + 1)) hx hb dX6_placeOf_22 hl (k := 2) rfl rfl (by decide) hf (fun x2_5 ls hl hf => ?_)
          have hl : lv_has ls 3 [(2, .int x2_5), (0, .ref (X.2.2 a0)), (1, .int p1)] := hl
          refine lv_goto (tgt := 2) hx hb dX6_placeOf_25 (by decide) ?_
          exact ih_2 x2_5 _ _ _ hw (lv_sub hl [1, 2, 0] rfl) hf
        · have hf := it_e hf c_4
          refine lv_iload_n hx hb dX6_placeOf_20 rfl (lv_at hl 2 rfl) ?_
          cases hf
          subst hQ
          exact q_iret B hr hlk hw rfl rfl dX6_placeOf_21
  exact hL_2 fu 0 _ _ _ hw (lv_sub hl [1, 2, 0] rfl) hf
abbrev rm_X6_hasMark : Room := { frames := 1, cells := 0, slots := 0, locals := 22 }
set_option maxRecDepth 100000 in
set_option maxHeartbeats 4000000 in
theorem c_X6_hasMark (l : Launch) (X : XT) (fu : Nat) (a0 : Nat) (p1 : Int32) (M : Mem) (ha0 : kC a0 = (6, 0)) (rs : Int32) (hf : f_X6_hasMark fu a0 p1 M = some rs) (sz : Nat) : Met l yX6_hasMark (wbig yX6_hasMark cX6_hasMark 2 (some .boolean)) rm_X6_hasMark (va_Pc [.ref (X.2.2 a0), .int p1] (PW LC X M sz)) (QI LC X M rs sz) 0 0 (AX LC X sz) := by
  refine met_go (L := LC) (M := M) (by decide +kernel) (Nat.le_of_ble_eq_true rfl) ?_
  intro p e s m args below meth c hsz B hr hlk hw ls hl
  subst hsz
  have hx := B.hx
  have hb := B.hb
  have hl : lv_has ls 2 [(0, .ref (X.2.2 a0)), (1, .int p1)] := hl
  generalize hQ : MQ below _ args s 0 0 (AX LC X s.heap.size) = Q
  unfold f_X6_hasMark at hf
  refine lv_aload_n hx hb dX6_hasMark_0 rfl (lv_at hl 0 rfl) ?_
  refine lv_iload_n hx hb dX6_hasMark_1 rfl (lv_at hl 1 rfl) ?_
  obtain ⟨r_2, h_1, hf⟩ := bd_e hf
  refine q_callVi (M' := M) (i := a0) (As := [.int p1]) (rest := []) B hw (c_X6_placeOf l X fu a0 p1 M ha0 r_2 h_1 _) cv_X6_22 (rc_6 B hw ha0) rfl hl.1 rfl rfl ⟨Nat.le_of_ble_eq_true rfl, Nat.le_of_ble_eq_true rfl⟩ (Nat.le_of_ble_eq_true rfl) ⟨Nat.le_of_ble_eq_true rfl, Nat.le_of_ble_eq_true rfl⟩ dX6_hasMark_2 rfl (fun H locs hw => ?_)
  refine lv_iconst (v := (-1)) hx hb dX6_hasMark_5 (by decide) ?_
  refine lv_icmp_eq (tgt := 13) hx hb dX6_hasMark_6 (by decide) (fun c_3 => ?_) (fun c_3 => ?_)
  · have hf := it_e hf c_3
    refine lv_iconst (v := 0) hx hb dX6_hasMark_13 (by decide) ?_
    cases hf
    subst hQ
    exact q_zret B hr hlk rfl hw rfl rfl dX6_hasMark_14
  · have hf := ie_e hf c_3
    refine lv_iconst (v := 1) hx hb dX6_hasMark_9 (by decide) ?_
    refine lv_goto (tgt := 14) hx hb dX6_hasMark_10 (by decide) ?_
    cases hf
    subst hQ
    exact q_zret B hr hlk rfl hw rfl rfl dX6_hasMark_14
abbrev rm_X7_hasRoom : Room := { frames := 2, cells := 0, slots := 0, locals := 43 }
set_option maxRecDepth 100000 in
set_option maxHeartbeats 4000000 in
theorem c_X7_hasRoom (l : Launch) (X : XT) (fu : Nat) (p1 : Int32) (p2 : Int32) (M : Mem)  (rs : Int32) (hf : f_X7_hasRoom fu p1 p2 M = some rs) (sz : Nat) : Met l yX7_hasRoom (wbig yX7_hasRoom cX7_hasRoom 3 (some .boolean)) rm_X7_hasRoom (va_Pc [.ref (X.2.2 57), .int p1, .int p2] (PW LC X M sz)) (QI LC X M rs sz) 0 0 (AX LC X sz) := by
  refine met_go (L := LC) (M := M) (by decide +kernel) (Nat.le_of_ble_eq_true rfl) ?_
  intro p e s m args below meth c hsz B hr hlk hw ls hl
  subst hsz
  have hx := B.hx
  have hb := B.hb
  have hl : lv_has ls 3 [(0, .ref (X.2.2 57)), (1, .int p1), (2, .int p2)] := hl
  generalize hQ : MQ below _ args s 0 0 (AX LC X s.heap.size) = Q
  unfold f_X7_hasRoom at hf
  refine lv_aload_n hx hb dX7_hasRoom_0 rfl (lv_at hl 0 rfl) ?_
  refine gt_X7_11 B hw (i := 57) rfl dX7_hasRoom_1 ?_
  refine lv_iload_n hx hb dX7_hasRoom_4 rfl (lv_at hl 1 rfl) ?_
  obtain ⟨g_1, hf⟩ := grd_e hf
  refine c_aldR B hw (i := 61) rfl g_1 dX7_hasRoom_5 ?_
  refine r_topk (kV rfl g_1) hf (fun a_2 ha_2 hf => ?_)
  refine gt_X7_36 B hw (i := a_2) ha_2 dX7_hasRoom_6 ?_
  refine lv_bipush (v := 12) hx hb dX7_hasRoom_9 (by decide) ?_
  refine lv_icmp_lt (tgt := 16) hx hb dX7_hasRoom_11 (by decide) (fun c_3 => ?_) (fun c_3 => ?_)
  · have hf := it_e hf c_3
    refine lv_iload_n hx hb dX7_hasRoom_16 rfl (lv_at hl 1 rfl) ?_
    refine q_callNi (M' := M) (As := [.int p1]) (rest := []) B hw (c_X10_storeOf l X p1 _ rfl M _) cn_X7_40 rfl hl.1 rfl rfl ⟨Nat.le_of_ble_eq_true rfl, Nat.le_of_ble_eq_true rfl⟩ (Nat.le_of_ble_eq_true rfl) ⟨Nat.le_of_ble_eq_true rfl, Nat.le_of_ble_eq_true rfl⟩ dX7_hasRoom_17 rfl (fun H locs hw => ?_)
    refine lv_if_ne (tgt := 42) hx hb dX7_hasRoom_20 (by decide) (fun c_4 => ?_) (fun c_4 => ?_)
    · have hf := ie_e hf c_4
      refine lv_aload_n hx hb dX7_hasRoom_42 rfl (lv_at hl 0 rfl) ?_
      refine gt_X7_11 B hw (i := 57) rfl dX7_hasRoom_43 ?_
      refine lv_iload_n hx hb dX7_hasRoom_46 rfl (lv_at hl 1 rfl) ?_
      refine c_aldR B hw (i := 61) rfl g_1 dX7_hasRoom_47 ?_
      refine r_topk (kV rfl g_1) hf (fun a_5 ha_5 hf => ?_)
      refine lv_iload_n hx hb dX7_hasRoom_48 rfl (lv_at hl 2 rfl) ?_
      obtain ⟨r_7, h_6, hf⟩ := bd_e hf
      refine q_callVi (M' := M) (i := a_5) (As := [.int p2]) (rest := []) B hw (c_X6_hasMark l X fu a_5 p2 M ha_5 r_7 h_6 _) cv_X7_44 (rc_6 B hw ha_5) rfl hl.1 rfl rfl ⟨Nat.le_of_ble_eq_true rfl, Nat.le_of_ble_eq_true rfl⟩ (Nat.le_of_ble_eq_true rfl) ⟨Nat.le_of_ble_eq_true rfl, Nat.le_of_ble_eq_true rfl⟩ dX7_hasRoom_49 rfl (fun H locs hw => ?_)
      refine lv_if_ne (tgt := 59) hx hb dX7_hasRoom_52 (by decide) (fun c_8 => ?_) (fun c_8 => ?_)
      · have hf := ie_e hf c_8
        refine lv_iconst (v := 0) hx hb dX7_hasRoom_59 (by decide) ?_
        cases hf
        subst hQ
        exact q_zret B hr hlk rfl hw rfl rfl dX7_hasRoom_60
      · have hf := it_e hf c_8
        refine lv_iconst (v := 1) hx hb dX7_hasRoom_55 (by decide) ?_
        refine lv_goto (tgt := 60) hx hb dX7_hasRoom_56 (by decide) ?_
        cases hf
        subst hQ
        exact q_zret B hr hlk rfl hw rfl rfl dX7_hasRoom_60
    · have hf := it_e hf c_4
      refine lv_aload_n hx hb dX7_hasRoom_23 rfl (lv_at hl 0 rfl) ?_
      refine gt_X7_17 B hw (i := 57) rfl dX7_hasRoom_24 ?_
      refine lv_iload_n hx hb dX7_hasRoom_27 rfl (lv_at hl 1 rfl) ?_
      refine c_iald B hw (i := 58) rfl g_1 dX7_hasRoom_28 ?_
      refine lv_bipush (v := 60) hx hb dX7_hasRoom_29 (by decide) ?_
      refine lv_icmp_ge (tgt := 38) hx hb dX7_hasRoom_31 (by decide) (fun c_9 => ?_) (fun c_9 => ?_)
      · have hf := it_e hf c_9
        refine lv_iconst (v := 0) hx hb dX7_hasRoom_38 (by decide) ?_
        refine lv_goto (tgt := 60) hx hb dX7_hasRoom_39 (by decide) ?_
        cases hf
        subst hQ
        exact q_zret B hr hlk rfl hw rfl rfl dX7_hasRoom_60
      · have hf := ie_e hf c_9
        refine lv_iconst (v := 1) hx hb dX7_hasRoom_34 (by decide) ?_
        refine lv_goto (tgt := 60) hx hb dX7_hasRoom_35 (by decide) ?_
        cases hf
        subst hQ
        exact q_zret B hr hlk rfl hw rfl rfl dX7_hasRoom_60
  · have hf := ie_e hf c_3
    refine lv_iconst (v := 0) hx hb dX7_hasRoom_14 (by decide) ?_
    cases hf
    subst hQ
    exact q_zret B hr hlk rfl hw rfl rfl dX7_hasRoom_15
abbrev rm_X2_canStep : Room := { frames := 3, cells := 0, slots := 0, locals := 68 }
set_option maxRecDepth 100000 in
set_option maxHeartbeats 4000000 in
theorem c_X2_canStep (l : Launch) (X : XT) (fu : Nat) (p1 : Int32) (M : Mem)  (rs : Int32) (hf : f_X2_canStep fu p1 M = some rs) (sz : Nat) : Met l yX2_canStep (wbig yX2_canStep cX2_canStep 5 (some .boolean)) rm_X2_canStep (va_Pc [.ref (X.2.2 122), .int p1] (PW LC X M sz)) (QI LC X M rs sz) 0 0 (AX LC X sz) := by
  refine met_go (L := LC) (M := M) (by decide +kernel) (Nat.le_of_ble_eq_true rfl) ?_
  intro p e s m args below meth c hsz B hr hlk hw ls hl
  subst hsz
  have hx := B.hx
  have hb := B.hb
  have hl : lv_has ls 5 [(0, .ref (X.2.2 122)), (1, .int p1)] := hl
  generalize hQ : MQ below _ args s 0 0 (AX LC X s.heap.size) = Q
  unfold f_X2_canStep at hf
  refine lv_aload_n hx hb dX2_canStep_0 rfl (lv_at hl 0 rfl) ?_
  refine gt_X2_15 B hw (i := 122) rfl dX2_canStep_1 ?_
  refine lv_iload_n hx hb dX2_canStep_4 rfl (lv_at hl 1 rfl) ?_
  obtain ⟨g_1, hf⟩ := grd_e hf
  refine c_iald B hw (i := 124) rfl g_1 dX2_canStep_5 ?_
  refine r_topn hf (fun x2_2 hf => ?_)
  refine lv_istore_n (lv' := [(2, .int x2_2), (0, .ref (X.2.2 122)), (1, .int p1)]) hx hb dX2_canStep_6 rfl hl (by decide) rfl (fun ls hl => ?_)
  refine lv_iload_n hx hb dX2_canStep_7 rfl (lv_at hl 0 rfl) ?_
  refine q_callNi (M' := M) (As := [.int x2_2]) (rest := []) B hw (c_X10_storeOf l X x2_2 _ rfl M _) cn_X2_58 rfl hl.1 rfl rfl ⟨Nat.le_of_ble_eq_true rfl, Nat.le_of_ble_eq_true rfl⟩ (Nat.le_of_ble_eq_true rfl) ⟨Nat.le_of_ble_eq_true rfl, Nat.le_of_ble_eq_true rfl⟩ dX2_canStep_8 rfl (fun H locs hw => ?_)
  refine r_topn hf (fun x3_3 hf => ?_)
  refine lv_istore_n (lv' := [(3, .int x3_3), (2, .int x2_2), (0, .ref (X.2.2 122)), (1, .int p1)]) hx hb dX2_canStep_11 rfl hl (by decide) rfl (fun ls hl => ?_)
  refine lv_iload_n hx hb dX2_canStep_12 rfl (lv_at hl 3 rfl) ?_
  refine lv_iconst (v := 4) hx hb dX2_canStep_13 (by decide) ?_
  refine lv_imul hx hb dX2_canStep_14 ?_
  refine r_topn hf (fun x4_4 hf => ?_)
  refine lv_istore (lv' := [(4, .int x4_4), (3, .int x3_3), (2, .int x2_2), (0, .ref (X.2.2 122)), (1, .int p1)]) hx hb dX2_canStep_15 hl (by decide) rfl (fun ls hl => ?_)
  refine lv_aload_n hx hb dX2_canStep_17 rfl (lv_at hl 3 rfl) ?_
  refine gt_X2_9 B hw (i := 122) rfl dX2_canStep_18 ?_
  refine lv_iload_n hx hb dX2_canStep_21 rfl (lv_at hl 4 rfl) ?_
  refine c_iald B hw (i := 123) rfl g_1 dX2_canStep_22 ?_
  by_cases c_5 : (M 123 p1.toNatClampNeg) = 0
  · have hf := it_e hf c_5
    refine lv_lookup (tgt := 48) hx hb dX2_canStep_23 (by decide) (by rw [c_5] <;> rfl) (by decide) ?_
    refine lv_iload_n hx hb dX2_canStep_48 rfl (lv_at hl 1 rfl) ?_
    refine lv_aload_n hx hb dX2_canStep_49 rfl (lv_at hl 3 rfl) ?_
    refine gt_X2_18 B hw (i := 122) rfl dX2_canStep_50 ?_
    refine lv_iload hx hb dX2_canStep_53 (lv_at hl 0 rfl) ?_
    obtain ⟨g_6, hf⟩ := grd_e hf
    refine c_iald B hw (i := 125) rfl g_6 dX2_canStep_55 ?_
    refine lv_aload_n hx hb dX2_canStep_56 rfl (lv_at hl 3 rfl) ?_
    refine gt_X2_18 B hw (i := 122) rfl dX2_canStep_57 ?_
    refine lv_iload hx hb dX2_canStep_60 (lv_at hl 0 rfl) ?_
    refine lv_iconst (v := 1) hx hb dX2_canStep_62 (by decide) ?_
    refine lv_iadd hx hb dX2_canStep_63 ?_
    obtain ⟨g_7, hf⟩ := grd_e hf
    refine c_iald B hw (i := 125) rfl g_7 dX2_canStep_64 ?_
    refine lv_aload_n hx hb dX2_canStep_65 rfl (lv_at hl 3 rfl) ?_
    refine gt_X2_18 B hw (i := 122) rfl dX2_canStep_66 ?_
    refine lv_iload hx hb dX2_canStep_69 (lv_at hl 0 rfl) ?_
    refine lv_iconst (v := 2) hx hb dX2_canStep_71 (by decide) ?_
    refine lv_iadd hx hb dX2_canStep_72 ?_
    obtain ⟨g_8, hf⟩ := grd_e hf
    refine c_iald B hw (i := 125) rfl g_8 dX2_canStep_73 ?_
    refine lv_aload_n hx hb dX2_canStep_74 rfl (lv_at hl 3 rfl) ?_
    refine gt_X2_18 B hw (i := 122) rfl dX2_canStep_75 ?_
    refine lv_iload hx hb dX2_canStep_78 (lv_at hl 0 rfl) ?_
    refine lv_iconst (v := 3) hx hb dX2_canStep_80 (by decide) ?_
    refine lv_iadd hx hb dX2_canStep_81 ?_
    obtain ⟨g_9, hf⟩ := grd_e hf
    refine c_iald B hw (i := 125) rfl g_9 dX2_canStep_82 ?_
    refine q_callNi (M' := M) (As := [.int x3_3, .int (M 125 x4_4.toNatClampNeg), .int (M 125 (x4_4 + 1).toNatClampNeg), .int (M 125 (x4_4 + 2).toNatClampNeg), .int (M 125 (x4_4 + 3).toNatClampNeg)]) (rest := []) B hw (c_X10_rowFits l X x3_3 (M 125 x4_4.toNatClampNeg) (M 125 (x4_4 + 1).toNatClampNeg) (M 125 (x4_4 + 2).toNatClampNeg) (M 125 (x4_4 + 3).toNatClampNeg) _ rfl M _) cn_X2_79 rfl hl.1 rfl rfl ⟨Nat.le_of_ble_eq_true rfl, Nat.le_of_ble_eq_true rfl⟩ (Nat.le_of_ble_eq_true rfl) ⟨Nat.le_of_ble_eq_true rfl, Nat.le_of_ble_eq_true rfl⟩ dX2_canStep_83 rfl (fun H locs hw => ?_)
    refine lv_if_eq (tgt := 111) hx hb dX2_canStep_86 (by decide) (fun c_10 => ?_) (fun c_10 => ?_)
    · have hf := it_e hf c_10
      refine lv_iconst (v := 0) hx hb dX2_canStep_111 (by decide) ?_
      cases hf
      subst hQ
      exact q_zret B hr hlk rfl hw rfl rfl dX2_canStep_112
    · have hf := ie_e hf c_10
      refine lv_aload_n hx hb dX2_canStep_89 rfl (lv_at hl 3 rfl) ?_
      refine gt_X2_41 B hw (i := 122) rfl dX2_canStep_90 ?_
      refine lv_iload_n hx hb dX2_canStep_93 rfl (lv_at hl 2 rfl) ?_
      refine lv_aload_n hx hb dX2_canStep_94 rfl (lv_at hl 3 rfl) ?_
      refine gt_X2_18 B hw (i := 122) rfl dX2_canStep_95 ?_
      refine lv_iload hx hb dX2_canStep_98 (lv_at hl 0 rfl) ?_
      refine c_iald B hw (i := 125) rfl g_6 dX2_canStep_100 ?_
      obtain ⟨r_12, h_11, hf⟩ := bd_e hf
      refine q_callVi (M' := M) (i := 57) (As := [.int x2_2, .int (M 125 x4_4.toNatClampNeg)]) (rest := []) B hw (c_X7_hasRoom l X fu x2_2 (M 125 x4_4.toNatClampNeg) M r_12 h_11 _) cv_X2_83 (rc_7 B hw rfl) rfl hl.1 rfl rfl ⟨Nat.le_of_ble_eq_true rfl, Nat.le_of_ble_eq_true rfl⟩ (Nat.le_of_ble_eq_true rfl) ⟨Nat.le_of_ble_eq_true rfl, Nat.le_of_ble_eq_true rfl⟩ dX2_canStep_101 rfl (fun H locs hw => ?_)
      refine lv_if_eq (tgt := 111) hx hb dX2_canStep_104 (by decide) (fun c_13 => ?_) (fun c_13 => ?_)
      · have hf := it_e hf c_13
        refine lv_iconst (v := 0) hx hb dX2_canStep_111 (by decide) ?_
        cases hf
        subst hQ
        exact q_zret B hr hlk rfl hw rfl rfl dX2_canStep_112
      · have hf := ie_e hf c_13
        refine lv_iconst (v := 1) hx hb dX2_canStep_107 (by decide) ?_
        refine lv_goto (tgt := 112) hx hb dX2_canStep_108 (by decide) ?_
        cases hf
        subst hQ
        exact q_zret B hr hlk rfl hw rfl rfl dX2_canStep_112
  · have hf := ie_e hf c_5
    by_cases c_14 : (M 123 p1.toNatClampNeg) = 1
    · have hf := it_e hf c_14
      refine lv_lookup (tgt := 113) hx hb dX2_canStep_23 (by decide) (by rw [c_14] <;> rfl) (by decide) ?_
      refine lv_aload_n hx hb dX2_canStep_113 rfl (lv_at hl 3 rfl) ?_
      refine gt_X2_41 B hw (i := 122) rfl dX2_canStep_114 ?_
      refine gt_X2_89 B hw (i := 57) rfl dX2_canStep_117 ?_
      refine lv_iload_n hx hb dX2_canStep_120 rfl (lv_at hl 2 rfl) ?_
      obtain ⟨g_15, hf⟩ := grd_e hf
      refine c_aldR B hw (i := 61) rfl g_15 dX2_canStep_121 ?_
      refine r_topk (kV rfl g_15) hf (fun a_16 ha_16 hf => ?_)
      refine lv_aload_n hx hb dX2_canStep_122 rfl (lv_at hl 3 rfl) ?_
      refine gt_X2_18 B hw (i := 122) rfl dX2_canStep_123 ?_
      refine lv_iload hx hb dX2_canStep_126 (lv_at hl 0 rfl) ?_
      obtain ⟨g_17, hf⟩ := grd_e hf
      refine c_iald B hw (i := 125) rfl g_17 dX2_canStep_128 ?_
      obtain ⟨r_19, h_18, hf⟩ := bd_e hf
      refine q_callVi (M' := M) (i := a_16) (As := [.int (M 125 x4_4.toNatClampNeg)]) (rest := []) B hw (c_X6_hasMark l X fu a_16 (M 125 x4_4.toNatClampNeg) M ha_16 r_19 h_18 _) cv_X2_92 (rc_6 B hw ha_16) rfl hl.1 rfl rfl ⟨Nat.le_of_ble_eq_true rfl, Nat.le_of_ble_eq_true rfl⟩ (Nat.le_of_ble_eq_true rfl) ⟨Nat.le_of_ble_eq_true rfl, Nat.le_of_ble_eq_true rfl⟩ dX2_canStep_129 rfl (fun H locs hw => ?_)
      refine lv_if_eq (tgt := 186) hx hb dX2_canStep_132 (by decide) (fun c_20 => ?_) (fun c_20 => ?_)
      · have hf := it_e hf c_20
        refine lv_iconst (v := 0) hx hb dX2_canStep_186 (by decide) ?_
        cases hf
        subst hQ
        exact q_zret B hr hlk rfl hw rfl rfl dX2_canStep_187
      · have hf := ie_e hf c_20
        refine lv_aload_n hx hb dX2_canStep_135 rfl (lv_at hl 3 rfl) ?_
        refine gt_X2_18 B hw (i := 122) rfl dX2_canStep_136 ?_
        refine lv_iload hx hb dX2_canStep_139 (lv_at hl 0 rfl) ?_
        refine lv_iconst (v := 1) hx hb dX2_canStep_141 (by decide) ?_
        refine lv_iadd hx hb dX2_canStep_142 ?_
        obtain ⟨g_21, hf⟩ := grd_e hf
        refine c_iald B hw (i := 125) rfl g_21 dX2_canStep_143 ?_
        refine lv_iconst (v := 0) hx hb dX2_canStep_144 (by decide) ?_
        refine lv_iload_n hx hb dX2_canStep_145 rfl (lv_at hl 1 rfl) ?_
        refine q_callNi (M' := M) (As := [.int x3_3]) (rest := [.int 0, .int (M 125 (x4_4 + 1).toNatClampNeg)]) B hw (c_X10_columnsIn l X x3_3 _ rfl M _) cn_X2_95 rfl hl.1 rfl rfl ⟨Nat.le_of_ble_eq_true rfl, Nat.le_of_ble_eq_true rfl⟩ (Nat.le_of_ble_eq_true rfl) ⟨Nat.le_of_ble_eq_true rfl, Nat.le_of_ble_eq_true rfl⟩ dX2_canStep_146 rfl (fun H locs hw => ?_)
        refine lv_iconst (v := 1) hx hb dX2_canStep_149 (by decide) ?_
        refine lv_isub hx hb dX2_canStep_150 ?_
        refine q_callNi (M' := M) (As := [.int (M 125 (x4_4 + 1).toNatClampNeg), .int 0, .int ((f_X10_columnsIn x3_3) - 1)]) (rest := []) B hw (c_X10_isIn l X (M 125 (x4_4 + 1).toNatClampNeg) 0 ((f_X10_columnsIn x3_3) - 1) _ rfl M _) cn_X2_98 rfl hl.1 rfl rfl ⟨Nat.le_of_ble_eq_true rfl, Nat.le_of_ble_eq_true rfl⟩ (Nat.le_of_ble_eq_true rfl) ⟨Nat.le_of_ble_eq_true rfl, Nat.le_of_ble_eq_true rfl⟩ dX2_canStep_151 rfl (fun H locs hw => ?_)
        refine lv_if_eq (tgt := 186) hx hb dX2_canStep_154 (by decide) (fun c_22 => ?_) (fun c_22 => ?_)
        · have hf := it_e hf c_22
          refine lv_iconst (v := 0) hx hb dX2_canStep_186 (by decide) ?_
          cases hf
          subst hQ
          exact q_zret B hr hlk rfl hw rfl rfl dX2_canStep_187
        · have hf := ie_e hf c_22
          refine lv_iload_n hx hb dX2_canStep_157 rfl (lv_at hl 1 rfl) ?_
          refine lv_aload_n hx hb dX2_canStep_158 rfl (lv_at hl 3 rfl) ?_
          refine gt_X2_18 B hw (i := 122) rfl dX2_canStep_159 ?_
          refine lv_iload hx hb dX2_canStep_162 (lv_at hl 0 rfl) ?_
          refine lv_iconst (v := 1) hx hb dX2_canStep_164 (by decide) ?_
          refine lv_iadd hx hb dX2_canStep_165 ?_
          refine c_iald B hw (i := 125) rfl g_21 dX2_canStep_166 ?_
          refine lv_aload_n hx hb dX2_canStep_167 rfl (lv_at hl 3 rfl) ?_
          refine gt_X2_18 B hw (i := 122) rfl dX2_canStep_168 ?_
          refine lv_iload hx hb dX2_canStep_171 (lv_at hl 0 rfl) ?_
          refine lv_iconst (v := 2) hx hb dX2_canStep_173 (by decide) ?_
          refine lv_iadd hx hb dX2_canStep_174 ?_
          obtain ⟨g_23, hf⟩ := grd_e hf
          refine c_iald B hw (i := 125) rfl g_23 dX2_canStep_175 ?_
          refine q_callNi (M' := M) (As := [.int x3_3, .int (M 125 (x4_4 + 1).toNatClampNeg), .int (M 125 (x4_4 + 2).toNatClampNeg)]) (rest := []) B hw (c_X10_mayChangeTo l X x3_3 (M 125 (x4_4 + 1).toNatClampNeg) (M 125 (x4_4 + 2).toNatClampNeg) _ rfl M _) cn_X2_102 rfl hl.1 rfl rfl ⟨Nat.le_of_ble_eq_true rfl, Nat.le_of_ble_eq_true rfl⟩ (Nat.le_of_ble_eq_true rfl) ⟨Nat.le_of_ble_eq_true rfl, Nat.le_of_ble_eq_true rfl⟩ dX2_canStep_176 rfl (fun H locs hw => ?_)
          refine lv_if_eq (tgt := 186) hx hb dX2_canStep_179 (by decide) (fun c_24 => ?_) (fun c_24 => ?_)
          · have hf := it_e hf c_24
            refine lv_iconst (v := 0) hx hb dX2_canStep_186 (by decide) ?_
            cases hf
            subst hQ
            exact q_zret B hr hlk rfl hw rfl rfl dX2_canStep_187
          · have hf := ie_e hf c_24
            refine lv_iconst (v := 1) hx hb dX2_canStep_182 (by decide) ?_
            refine lv_goto (tgt := 187) hx hb dX2_canStep_183 (by decide) ?_
            cases hf
            subst hQ
            exact q_zret B hr hlk rfl hw rfl rfl dX2_canStep_187
    · have hf := ie_e hf c_14
      have hne : (M 123 p1.toNatClampNeg).toInt ≠ 0 ∧ (M 123 p1.toNatClampNeg).toInt ≠ 1 := ⟨(fun z => c_5 (Int32.toInt_inj.mp z)), (fun z => c_14 (Int32.toInt_inj.mp z))⟩
      refine lv_lookup (off := 165) (tgt := 188) hx hb dX2_canStep_23 (by decide) (by simp [Op.lookupswitch.offset, hne.1, hne.2, Ne.symm hne.1, Ne.symm hne.2]) (by decide) ?_
      refine lv_aload_n hx hb dX2_canStep_188 rfl (lv_at hl 3 rfl) ?_
      refine gt_X2_41 B hw (i := 122) rfl dX2_canStep_189 ?_
      refine gt_X2_89 B hw (i := 57) rfl dX2_canStep_192 ?_
      refine lv_iload_n hx hb dX2_canStep_195 rfl (lv_at hl 2 rfl) ?_
      obtain ⟨g_25, hf⟩ := grd_e hf
      refine c_aldR B hw (i := 61) rfl g_25 dX2_canStep_196 ?_
      refine r_topk (kV rfl g_25) hf (fun a_26 ha_26 hf => ?_)
      refine lv_aload_n hx hb dX2_canStep_197 rfl (lv_at hl 3 rfl) ?_
      refine gt_X2_18 B hw (i := 122) rfl dX2_canStep_198 ?_
      refine lv_iload hx hb dX2_canStep_201 (lv_at hl 0 rfl) ?_
      obtain ⟨g_27, hf⟩ := grd_e hf
      refine c_iald B hw (i := 125) rfl g_27 dX2_canStep_203 ?_
      obtain ⟨r_29, h_28, hf⟩ := bd_e hf
      refine q_callVi (M' := M) (i := a_26) (As := [.int (M 125 x4_4.toNatClampNeg)]) (rest := []) B hw (c_X6_hasMark l X fu a_26 (M 125 x4_4.toNatClampNeg) M ha_26 r_29 h_28 _) cv_X2_92 (rc_6 B hw ha_26) rfl hl.1 rfl rfl ⟨Nat.le_of_ble_eq_true rfl, Nat.le_of_ble_eq_true rfl⟩ (Nat.le_of_ble_eq_true rfl) ⟨Nat.le_of_ble_eq_true rfl, Nat.le_of_ble_eq_true rfl⟩ dX2_canStep_204 rfl (fun H locs hw => ?_)
      obtain ⟨g_30, hf⟩ := grd_e hf
      cases hf
      subst hQ
      exact q_zret B hr hlk g_30 hw rfl rfl dX2_canStep_207
abbrev rm_X7_asStored : Room := { frames := 1, cells := 0, slots := 0, locals := 30 }
set_option maxRecDepth 100000 in
set_option maxHeartbeats 4000000 in
theorem c_X7_asStored (l : Launch) (X : XT) (fu : Nat) (p1 : Int32) (p2 : Int32) (M : Mem)  (rs : (Int32 × Mem)) (hf : f_X7_asStored fu p1 p2 M = some rs) (sz : Nat) : Met l yX7_asStored (wbig yX7_asStored cX7_asStored 4 (some .int)) rm_X7_asStored (va_Pc [.ref (X.2.2 57), .int p1, .int p2] (PW LC X M sz)) (QI LC X rs.2 rs.1 sz) 0 0 (AX LC X sz) := by
  refine met_go (L := LC) (M := M) (by decide +kernel) (Nat.le_of_ble_eq_true rfl) ?_
  intro p e s m args below meth c hsz B hr hlk hw ls hl
  subst hsz
  have hx := B.hx
  have hb := B.hb
  have hl : lv_has ls 4 [(0, .ref (X.2.2 57)), (1, .int p1), (2, .int p2)] := hl
  generalize hQ : MQ below _ args s 0 0 (AX LC X s.heap.size) = Q
  unfold f_X7_asStored at hf
  refine lv_iload_n hx hb dX7_asStored_0 rfl (lv_at hl 1 rfl) ?_
  refine q_callNi (M' := M) (As := [.int p1]) (rest := []) B hw (c_X10_storeOf l X p1 _ rfl M _) cn_X7_40 rfl hl.1 rfl rfl ⟨Nat.le_of_ble_eq_true rfl, Nat.le_of_ble_eq_true rfl⟩ (Nat.le_of_ble_eq_true rfl) ⟨Nat.le_of_ble_eq_true rfl, Nat.le_of_ble_eq_true rfl⟩ dX7_asStored_1 rfl (fun H locs hw => ?_)
  refine lv_iconst (v := 1) hx hb dX7_asStored_4 (by decide) ?_
  refine lv_icmp_ne (tgt := 15) hx hb dX7_asStored_5 (by decide) (fun c_1 => ?_) (fun c_1 => ?_)
  · have hf := ie_e hf c_1
    refine lv_iload_n hx hb dX7_asStored_15 rfl (lv_at hl 2 rfl) ?_
    cases hf
    subst hQ
    exact q_iret B hr hlk hw rfl rfl dX7_asStored_16
  · have hf := it_e hf c_1
    refine lv_iload_n hx hb dX7_asStored_8 rfl (lv_at hl 2 rfl) ?_
    refine q_callNi (M' := M) (As := [.int p2]) (rest := []) B hw (c_X10_isNumber l X p2 _ rfl M _) cn_X7_89 rfl hl.1 rfl rfl ⟨Nat.le_of_ble_eq_true rfl, Nat.le_of_ble_eq_true rfl⟩ (Nat.le_of_ble_eq_true rfl) ⟨Nat.le_of_ble_eq_true rfl, Nat.le_of_ble_eq_true rfl⟩ dX7_asStored_9 rfl (fun H locs hw => ?_)
    refine lv_if_ne (tgt := 17) hx hb dX7_asStored_12 (by decide) (fun c_2 => ?_) (fun c_2 => ?_)
    · have hf := ie_e hf c_2
      refine lv_iconst (v := 0) hx hb dX7_asStored_17 (by decide) ?_
      refine lv_bipush (v := 99) hx hb dX7_asStored_18 (by decide) ?_
      refine lv_iload_n hx hb dX7_asStored_20 rfl (lv_at hl 2 rfl) ?_
      refine q_min B hl.1 (big_at 677 (by decide +kernel) (by decide +kernel)) (big_at 678 (by decide +kernel) (by decide +kernel)) (big_at 18 (by decide +kernel) (by decide +kernel)) (big_at 679 (by decide +kernel) (by decide +kernel)) (Nat.le_of_ble_eq_true rfl) (Nat.le_of_ble_eq_true rfl) (Nat.zero_le _) (Nat.zero_le _) dX7_asStored_21 ?_
      refine q_max B hl.1 (big_at 680 (by decide +kernel) (by decide +kernel)) (big_at 681 (by decide +kernel) (by decide +kernel)) (big_at 18 (by decide +kernel) (by decide +kernel)) (big_at 682 (by decide +kernel) (by decide +kernel)) (Nat.le_of_ble_eq_true rfl) (Nat.le_of_ble_eq_true rfl) (Nat.zero_le _) (Nat.zero_le _) dX7_asStored_24 ?_
      refine r_topn hf (fun x3_3 hf => ?_)
      refine lv_istore_n (lv' := [(3, .int x3_3), (0, .ref (X.2.2 57)), (1, .int p1), (2, .int p2)]) hx hb dX7_asStored_27 rfl hl (by decide) rfl (fun ls hl => ?_)
      refine lv_iload_n hx hb dX7_asStored_28 rfl (lv_at hl 0 rfl) ?_
      refine lv_iload_n hx hb dX7_asStored_29 rfl (lv_at hl 3 rfl) ?_
      refine lv_icmp_eq (tgt := 43) hx hb dX7_asStored_30 (by decide) (fun c_4 => ?_) (fun c_4 => ?_)
      · have hf := it_e hf c_4
        refine lv_iload_n hx hb dX7_asStored_43 rfl (lv_at hl 0 rfl) ?_
        cases hf
        subst hQ
        exact q_iret B hr hlk hw rfl rfl dX7_asStored_44
      · have hf := ie_e hf c_4
        refine lv_aload_n hx hb dX7_asStored_33 rfl (lv_at hl 1 rfl) ?_
        refine lv_dup hx hb dX7_asStored_34 rfl ?_
        refine gt_X7_100 B hw (i := 57) rfl dX7_asStored_35 ?_
        refine lv_iconst (v := 1) hx hb dX7_asStored_38 (by decide) ?_
        refine lv_iadd hx hb dX7_asStored_39 ?_
        refine pt_X7_100 B hw (i := 57) rfl dX7_asStored_40 hf (fun M_5 H locs hw hf => ?_)
        refine lv_iload_n hx hb dX7_asStored_43 rfl (lv_at hl 0 rfl) ?_
        cases hf
        subst hQ
        exact q_iret B hr hlk hw rfl rfl dX7_asStored_44
    · have hf := it_e hf c_2
      refine lv_iload_n hx hb dX7_asStored_15 rfl (lv_at hl 2 rfl) ?_
      cases hf
      subst hQ
      exact q_iret B hr hlk hw rfl rfl dX7_asStored_16
abbrev rm_X3_hear : Room := { frames := 1, cells := 0, slots := 0, locals := 30 }
set_option maxRecDepth 100000 in
set_option maxHeartbeats 4000000 in
theorem c_X3_hear (l : Launch) (X : XT) (fu : Nat) (p1 : Int32) (M : Mem)  (rs : Mem) (hf : f_X3_hear fu p1 M = some rs) (sz : Nat) : Met l yX3_hear (wbig yX3_hear cX3_hear 4 none) rm_X3_hear (va_Pc [.ref (X.2.2 2), .int p1] (PW LC X M sz)) (QV LC X rs sz) 0 0 (AX LC X sz) := by
  refine met_go (L := LC) (M := M) (by decide +kernel) (Nat.le_of_ble_eq_true rfl) ?_
  intro p e s m args below meth c hsz B hr hlk hw ls hl
  subst hsz
  have hx := B.hx
  have hb := B.hb
  have hl : lv_has ls 4 [(0, .ref (X.2.2 2)), (1, .int p1)] := hl
  generalize hQ : MQ below _ args s 0 0 (AX LC X s.heap.size) = Q
  unfold f_X3_hear at hf
  refine lv_iconst (v := 0) hx hb dX3_hear_0 (by decide) ?_
  refine lv_istore_n (lv' := [(2, .int 0), (0, .ref (X.2.2 2)), (1, .int p1)]) hx hb dX3_hear_1 rfl hl (by decide) rfl (fun ls hl => ?_)
  have hL_2 : ∀ (n_2 : Nat) (x2_1 : Int32) (M_2 : Mem) (H : Heap) (locs : List Loc) (ls : Array Slot), HW LC X M_2 s H locs → lv_has ls 4 [(0, .ref (X.2.2 2)), (1, .int p1), (2, .int x2_1)] → f_X3_hear_L2 fu p1 n_2 x2_1 M_2 = some rs → W p l e rm_X3_hear s m args below meth c H locs 0 0 Q (F0 m 2 ls []) := by
    intro n_2
    induction n_2 with
    | zero => intro x2_1 M_2 H locs ls hw hl hf; exact no_none hf
    | succ n_2 ih_2 =>
      intro x2_1 M_2 H locs ls hw hl hf
      rw [f_X3_hear_L2] at hf
      refine lv_iload_n hx hb dX3_hear_2 rfl (lv_at hl 2 rfl) ?_
      refine lv_aload_n hx hb dX3_hear_3 rfl (lv_at hl 0 rfl) ?_
      refine gt_X3_29 B hw (i := 2) rfl dX3_hear_4 ?_
      refine lv_icmp_ge (tgt := 79) hx hb dX3_hear_7 (by decide) (fun c_3 => ?_) (fun c_3 => ?_)
      · have hf := it_e hf c_3
        cases hf
        subst hQ
        exact q_vret B hr hlk hw rfl dX3_hear_79
      · have hf := ie_e hf c_3
        refine lv_aload_n hx hb dX3_hear_10 rfl (lv_at hl 0 rfl) ?_
        refine gt_X3_11 B hw (i := 2) rfl dX3_hear_11 ?_
        refine lv_iload_n hx hb dX3_hear_14 rfl (lv_at hl 2 rfl) ?_
        obtain ⟨g_4, hf⟩ := grd_e hf
        refine c_aldE B hw (i := 3) rfl g_4 dX3_hear_15 ?_
        refine r_topr hf (fun e_5 hf => ?_)
        obtain ⟨he_5, hf⟩ := grd_e hf
        have he_5 := kb_e he_5
        refine lv_astore_n (lv' := [(3, .ref (X.2.2 e_5)), (0, .ref (X.2.2 2)), (1, .int p1), (2, .int x2_1)]) hx hb dX3_hear_16 rfl hl (by decide) rfl (fun ls hl => ?_)
        refine lv_aload_n hx hb dX3_hear_17 rfl (lv_at hl 0 rfl) ?_
        refine gt_X3_47 B hw (i := e_5) he_5 dX3_hear_18 ?_
        refine lv_iload_n hx hb dX3_hear_21 rfl (lv_at hl 2 rfl) ?_
        refine lv_icmp_ne (tgt := 73) hx hb dX3_hear_22 (by decide) (fun c_6 => ?_) (fun c_6 => ?_)
        · have hf := ie_e hf c_6
          refine r_iinc (v := (x2_1 + 1)) hx hb dX3_hear_73 hl (k := 3) rfl rfl (by decide) hf (fun x2_7 ls hl hf => ?_)
          have hl : lv_has ls 4 [(2, .int x2_7), (3, .ref (X.2.2 e_5)), (0, .ref (X.2.2 2)), (1, .int p1)] := hl
          refine lv_goto (tgt := 2) hx hb dX3_hear_76 (by decide) ?_
          exact ih_2 x2_7 M_2 _ _ _ hw (lv_sub hl [2, 3, 0] rfl) hf
        · have hf := it_e hf c_6
          refine lv_aload_n hx hb dX3_hear_25 rfl (lv_at hl 0 rfl) ?_
          refine lv_aload_n hx hb dX3_hear_26 rfl (lv_at hl 0 rfl) ?_
          refine gt_X3_50 B hw (i := e_5) he_5 dX3_hear_27 ?_
          refine lv_aload_n hx hb dX3_hear_30 rfl (lv_at hl 1 rfl) ?_
          refine gt_X3_24 B hw (i := 2) rfl dX3_hear_31 ?_
          refine gt_X3_53 B hw (i := 1) rfl dX3_hear_34 ?_
          refine lv_iconst (v := 1) hx hb dX3_hear_37 (by decide) ?_
          refine lv_isub hx hb dX3_hear_38 ?_
          refine q_min B hl.1 (big_at 691 (by decide +kernel) (by decide +kernel)) (big_at 678 (by decide +kernel) (by decide +kernel)) (big_at 18 (by decide +kernel) (by decide +kernel)) (big_at 679 (by decide +kernel) (by decide +kernel)) (Nat.le_of_ble_eq_true rfl) (Nat.le_of_ble_eq_true rfl) (Nat.zero_le _) (Nat.zero_le _) dX3_hear_39 ?_
          refine pt_X3_50 B hw (i := e_5) he_5 dX3_hear_42 hf (fun M_8 H locs hw hf => ?_)
          refine lv_aload_n hx hb dX3_hear_45 rfl (lv_at hl 0 rfl) ?_
          refine lv_aload_n hx hb dX3_hear_46 rfl (lv_at hl 0 rfl) ?_
          refine gt_X3_33 B hw (i := e_5) he_5 dX3_hear_47 ?_
          refine lv_aload_n hx hb dX3_hear_50 rfl (lv_at hl 1 rfl) ?_
          refine gt_X3_24 B hw (i := 2) rfl dX3_hear_51 ?_
          refine gt_X3_36 B hw (i := 1) rfl dX3_hear_54 ?_
          refine lv_aload_n hx hb dX3_hear_57 rfl (lv_at hl 1 rfl) ?_
          refine gt_X3_17 B hw (i := 2) rfl dX3_hear_58 ?_
          refine lv_aload_n hx hb dX3_hear_61 rfl (lv_at hl 0 rfl) ?_
          refine gt_X3_44 B hw (i := e_5) he_5 dX3_hear_62 ?_
          obtain ⟨g_9, hf⟩ := grd_e hf
          refine c_iald B hw (i := 4) rfl g_9 dX3_hear_65 ?_
          refine lv_iadd hx hb dX3_hear_66 ?_
          refine q_min B hl.1 (big_at 691 (by decide +kernel) (by decide +kernel)) (big_at 678 (by decide +kernel) (by decide +kernel)) (big_at 18 (by decide +kernel) (by decide +kernel)) (big_at 679 (by decide +kernel) (by decide +kernel)) (Nat.le_of_ble_eq_true rfl) (Nat.le_of_ble_eq_true rfl) (Nat.zero_le _) (Nat.zero_le _) dX3_hear_67 ?_
          refine pt_X3_33 B hw (i := e_5) he_5 dX3_hear_70 hf (fun M_10 H locs hw hf => ?_)
          refine r_iinc (v := (x2_1 + 1)) hx hb dX3_hear_73 hl (k := 3) rfl rfl (by decide) hf (fun x2_11 ls hl hf => ?_)
          have hl : lv_has ls 4 [(2, .int x2_11), (3, .ref (X.2.2 e_5)), (0, .ref (X.2.2 2)), (1, .int p1)] := hl
          refine lv_goto (tgt := 2) hx hb dX3_hear_76 (by decide) ?_
          exact ih_2 x2_11 M_10 _ _ _ hw (lv_sub hl [2, 3, 0] rfl) hf
  exact hL_2 fu 0 M _ _ _ hw (lv_sub hl [1, 2, 0] rfl) hf
abbrev rm_X7_write : Room := { frames := 2, cells := 0, slots := 0, locals := 53 }
set_option maxRecDepth 100000 in
set_option maxHeartbeats 4000000 in
theorem c_X7_write (l : Launch) (X : XT) (fu : Nat) (p1 : Int32) (M : Mem)  (rs : Mem) (hf : f_X7_write fu p1 M = some rs) (sz : Nat) : Met l yX7_write (wbig yX7_write cX7_write 2 none) rm_X7_write (va_Pc [.ref (X.2.2 57), .int p1] (PW LC X M sz)) (QV LC X rs sz) 0 0 (AX LC X sz) := by
  refine met_go (L := LC) (M := M) (by decide +kernel) (Nat.le_of_ble_eq_true rfl) ?_
  intro p e s m args below meth c hsz B hr hlk hw ls hl
  subst hsz
  have hx := B.hx
  have hb := B.hb
  have hl : lv_has ls 2 [(0, .ref (X.2.2 57)), (1, .int p1)] := hl
  generalize hQ : MQ below _ args s 0 0 (AX LC X s.heap.size) = Q
  unfold f_X7_write at hf
  refine lv_aload_n hx hb dX7_write_0 rfl (lv_at hl 0 rfl) ?_
  refine gt_X7_27 B hw (i := 57) rfl dX7_write_1 ?_
  refine lv_dup hx hb dX7_write_4 rfl ?_
  refine gt_X7_76 B hw (i := 1) rfl dX7_write_5 ?_
  refine lv_iconst (v := 1) hx hb dX7_write_8 (by decide) ?_
  refine lv_iadd hx hb dX7_write_9 ?_
  refine pt_X7_76 B hw (i := 1) rfl dX7_write_10 hf (fun M_1 H locs hw hf => ?_)
  refine lv_aload_n hx hb dX7_write_13 rfl (lv_at hl 0 rfl) ?_
  refine gt_X7_24 B hw (i := 57) rfl dX7_write_14 ?_
  refine lv_iload_n hx hb dX7_write_17 rfl (lv_at hl 1 rfl) ?_
  refine lv_aload_n hx hb dX7_write_18 rfl (lv_at hl 0 rfl) ?_
  refine gt_X7_27 B hw (i := 57) rfl dX7_write_19 ?_
  refine gt_X7_76 B hw (i := 1) rfl dX7_write_22 ?_
  obtain ⟨g_2, hf⟩ := grd_e hf
  refine c_iast B hw (i := 60) rfl g_2 dX7_write_25 hf (fun M_3 H locs hw hf => ?_)
  refine lv_aload_n hx hb dX7_write_26 rfl (lv_at hl 0 rfl) ?_
  refine gt_X7_31 B hw (i := 57) rfl dX7_write_27 ?_
  refine lv_iload_n hx hb dX7_write_30 rfl (lv_at hl 1 rfl) ?_
  obtain ⟨M_5, h_4, hf⟩ := bd_e hf
  refine q_callVv (M' := M_5) (i := 2) (As := [.int p1]) (rest := []) B hw (c_X3_hear l X fu p1 M_3 M_5 h_4 _) cv_X7_81 (rc_3 B hw rfl) rfl hl.1 rfl rfl ⟨Nat.le_of_ble_eq_true rfl, Nat.le_of_ble_eq_true rfl⟩ (Nat.le_of_ble_eq_true rfl) ⟨Nat.le_of_ble_eq_true rfl, Nat.le_of_ble_eq_true rfl⟩ dX7_write_31 rfl (fun H locs hw => ?_)
  refine lv_aload_n hx hb dX7_write_34 rfl (lv_at hl 0 rfl) ?_
  refine gt_X7_31 B hw (i := 57) rfl dX7_write_35 ?_
  obtain ⟨M_7, h_6, hf⟩ := bd_e hf
  refine q_callVv (M' := M_7) (i := 2) (As := []) (rest := []) B hw (c_X3_sweep l X fu M_5 M_7 h_6 _) cv_X7_86 (rc_3 B hw rfl) rfl hl.1 rfl rfl ⟨Nat.le_of_ble_eq_true rfl, Nat.le_of_ble_eq_true rfl⟩ (Nat.le_of_ble_eq_true rfl) ⟨Nat.le_of_ble_eq_true rfl, Nat.le_of_ble_eq_true rfl⟩ dX7_write_38 rfl (fun H locs hw => ?_)
  cases hf
  subst hQ
  exact q_vret B hr hlk hw rfl dX7_write_41
abbrev rm_X7_addRow : Room := { frames := 3, cells := 0, slots := 0, locals := 74 }
set_option maxRecDepth 100000 in
set_option maxHeartbeats 4000000 in
theorem c_X7_addRow (l : Launch) (X : XT) (fu : Nat) (p1 : Int32) (p2 : Int32) (p3 : Int32) (p4 : Int32) (p5 : Int32) (M : Mem)  (rs : (Int32 × Mem)) (hf : f_X7_addRow fu p1 p2 p3 p4 p5 M = some rs) (sz : Nat) : Met l yX7_addRow (wbig yX7_addRow cX7_addRow 8 (some .int)) rm_X7_addRow (va_Pc [.ref (X.2.2 57), .int p1, .int p2, .int p3, .int p4, .int p5] (PW LC X M sz)) (QI LC X rs.2 rs.1 sz) 0 0 (AX LC X sz) := by
  refine met_go (L := LC) (M := M) (by decide +kernel) (Nat.le_of_ble_eq_true rfl) ?_
  intro p e s m args below meth c hsz B hr hlk hw ls hl
  subst hsz
  have hx := B.hx
  have hb := B.hb
  have hl : lv_has ls 8 [(0, .ref (X.2.2 57)), (1, .int p1), (2, .int p2), (3, .int p3), (4, .int p4), (5, .int p5)] := hl
  generalize hQ : MQ below _ args s 0 0 (AX LC X s.heap.size) = Q
  unfold f_X7_addRow at hf
  refine lv_iload_n hx hb dX7_addRow_0 rfl (lv_at hl 2 rfl) ?_
  refine lv_istore (lv' := [(6, .int p2), (0, .ref (X.2.2 57)), (1, .int p1), (2, .int p2), (3, .int p3), (4, .int p4), (5, .int p5)]) hx hb dX7_addRow_1 hl (by decide) rfl (fun ls hl => ?_)
  refine lv_iload_n hx hb dX7_addRow_3 rfl (lv_at hl 2 rfl) ?_
  refine q_callNi (M' := M) (As := [.int p1]) (rest := []) B hw (c_X10_storeOf l X p1 _ rfl M _) cn_X7_40 rfl hl.1 rfl rfl ⟨Nat.le_of_ble_eq_true rfl, Nat.le_of_ble_eq_true rfl⟩ (Nat.le_of_ble_eq_true rfl) ⟨Nat.le_of_ble_eq_true rfl, Nat.le_of_ble_eq_true rfl⟩ dX7_addRow_4 rfl (fun H locs hw => ?_)
  refine jn_e hf (fun kk => ∀ (x6_2 : Int32) (M_3 : Mem) (H : Heap) (locs : List Loc) (ls : Array Slot), HW LC X M_3 s H locs → lv_has ls 8 [(0, .ref (X.2.2 57)), (1, .int p1), (2, .int p2), (3, .int p3), (4, .int p4), (5, .int p5), (6, .int x6_2)] → kk x6_2 M_3 = some rs → W p l e rm_X7_addRow s m args below meth c H locs 0 0 Q (F0 m 28 ls [])) ?_ (fun k28_1 J28_1 hf => ?_)
  · intro x6_2 M_3 H locs ls hw hl hf
    refine lv_aload_n hx hb dX7_addRow_28 rfl (lv_at hl 0 rfl) ?_
    refine gt_X7_11 B hw (i := 57) rfl dX7_addRow_29 ?_
    refine lv_iload_n hx hb dX7_addRow_32 rfl (lv_at hl 1 rfl) ?_
    obtain ⟨g_4, hf⟩ := grd_e hf
    refine c_aldR B hw (i := 61) rfl g_4 dX7_addRow_33 ?_
    refine r_topk (kV rfl g_4) hf (fun a_5 ha_5 hf => ?_)
    refine lv_iload hx hb dX7_addRow_34 (lv_at hl 6 rfl) ?_
    obtain ⟨r_7, M_8, h_6, hf⟩ := bm_e hf
    refine q_callVi (M' := M_8) (i := a_5) (As := [.int x6_2]) (rest := []) B hw (c_X6_makePlace l X fu a_5 x6_2 M_3 ha_5 (r_7, M_8) h_6 _) cv_X7_48 (rc_6 B hw ha_5) rfl hl.1 rfl rfl ⟨Nat.le_of_ble_eq_true rfl, Nat.le_of_ble_eq_true rfl⟩ (Nat.le_of_ble_eq_true rfl) ⟨Nat.le_of_ble_eq_true rfl, Nat.le_of_ble_eq_true rfl⟩ dX7_addRow_36 rfl (fun H locs hw => ?_)
    refine lv_istore (lv' := [(7, .int r_7), (0, .ref (X.2.2 57)), (1, .int p1), (2, .int p2), (3, .int p3), (4, .int p4), (5, .int p5), (6, .int x6_2)]) hx hb dX7_addRow_39 hl (by decide) rfl (fun ls hl => ?_)
    refine lv_aload_n hx hb dX7_addRow_41 rfl (lv_at hl 1 rfl) ?_
    refine gt_X7_11 B hw (i := 57) rfl dX7_addRow_42 ?_
    refine lv_iload_n hx hb dX7_addRow_45 rfl (lv_at hl 2 rfl) ?_
    refine c_aldR B hw (i := 61) rfl g_4 dX7_addRow_46 ?_
    refine r_topk (kV rfl g_4) hf (fun a_9 ha_9 hf => ?_)
    refine lv_iload hx hb dX7_addRow_47 (lv_at hl 0 rfl) ?_
    refine lv_iconst (v := 0) hx hb dX7_addRow_49 (by decide) ?_
    refine lv_iload_n hx hb dX7_addRow_50 rfl (lv_at hl 3 rfl) ?_
    obtain ⟨M_11, h_10, hf⟩ := bd_e hf
    refine q_callVv (M' := M_11) (i := a_9) (As := [.int r_7, .int 0, .int p2]) (rest := []) B hw (c_X6_putCell l X fu a_9 r_7 0 p2 M_8 ha_9 M_11 h_10 _) cv_X7_51 (rc_6 B hw ha_9) rfl hl.1 rfl rfl ⟨Nat.le_of_ble_eq_true rfl, Nat.le_of_ble_eq_true rfl⟩ (Nat.le_of_ble_eq_true rfl) ⟨Nat.le_of_ble_eq_true rfl, Nat.le_of_ble_eq_true rfl⟩ dX7_addRow_51 rfl (fun H locs hw => ?_)
    refine lv_aload_n hx hb dX7_addRow_54 rfl (lv_at hl 1 rfl) ?_
    refine gt_X7_11 B hw (i := 57) rfl dX7_addRow_55 ?_
    refine lv_iload_n hx hb dX7_addRow_58 rfl (lv_at hl 2 rfl) ?_
    refine c_aldR B hw (i := 61) rfl g_4 dX7_addRow_59 ?_
    refine r_topk (kV rfl g_4) hf (fun a_12 ha_12 hf => ?_)
    refine lv_iload hx hb dX7_addRow_60 (lv_at hl 0 rfl) ?_
    refine lv_iconst (v := 1) hx hb dX7_addRow_62 (by decide) ?_
    refine lv_aload_n hx hb dX7_addRow_63 rfl (lv_at hl 1 rfl) ?_
    refine lv_iload_n hx hb dX7_addRow_64 rfl (lv_at hl 2 rfl) ?_
    refine lv_iload_n hx hb dX7_addRow_65 rfl (lv_at hl 4 rfl) ?_
    obtain ⟨r_14, M_15, h_13, hf⟩ := bm_e hf
    refine q_callVi (M' := M_15) (i := 57) (As := [.int p1, .int p3]) (rest := [.int 1, .int r_7, .ref (X.2.2 a_12)]) B hw (c_X7_asStored l X fu p1 p3 M_11 (r_14, M_15) h_13 _) cv_X7_55 (rc_7 B hw rfl) rfl hl.1 rfl rfl ⟨Nat.le_of_ble_eq_true rfl, Nat.le_of_ble_eq_true rfl⟩ (Nat.le_of_ble_eq_true rfl) ⟨Nat.le_of_ble_eq_true rfl, Nat.le_of_ble_eq_true rfl⟩ dX7_addRow_66 rfl (fun H locs hw => ?_)
    obtain ⟨M_17, h_16, hf⟩ := bd_e hf
    refine q_callVv (M' := M_17) (i := a_12) (As := [.int r_7, .int 1, .int r_14]) (rest := []) B hw (c_X6_putCell l X fu a_12 r_7 1 r_14 M_15 ha_12 M_17 h_16 _) cv_X7_51 (rc_6 B hw ha_12) rfl hl.1 rfl rfl ⟨Nat.le_of_ble_eq_true rfl, Nat.le_of_ble_eq_true rfl⟩ (Nat.le_of_ble_eq_true rfl) ⟨Nat.le_of_ble_eq_true rfl, Nat.le_of_ble_eq_true rfl⟩ dX7_addRow_69 rfl (fun H locs hw => ?_)
    refine lv_aload_n hx hb dX7_addRow_72 rfl (lv_at hl 1 rfl) ?_
    refine gt_X7_11 B hw (i := 57) rfl dX7_addRow_73 ?_
    refine lv_iload_n hx hb dX7_addRow_76 rfl (lv_at hl 2 rfl) ?_
    refine c_aldR B hw (i := 61) rfl g_4 dX7_addRow_77 ?_
    refine r_topk (kV rfl g_4) hf (fun a_18 ha_18 hf => ?_)
    refine lv_iload hx hb dX7_addRow_78 (lv_at hl 0 rfl) ?_
    refine lv_iconst (v := 2) hx hb dX7_addRow_80 (by decide) ?_
    refine lv_iload hx hb dX7_addRow_81 (lv_at hl 5 rfl) ?_
    obtain ⟨M_20, h_19, hf⟩ := bd_e hf
    refine q_callVv (M' := M_20) (i := a_18) (As := [.int r_7, .int 2, .int p4]) (rest := []) B hw (c_X6_putCell l X fu a_18 r_7 2 p4 M_17 ha_18 M_20 h_19 _) cv_X7_51 (rc_6 B hw ha_18) rfl hl.1 rfl rfl ⟨Nat.le_of_ble_eq_true rfl, Nat.le_of_ble_eq_true rfl⟩ (Nat.le_of_ble_eq_true rfl) ⟨Nat.le_of_ble_eq_true rfl, Nat.le_of_ble_eq_true rfl⟩ dX7_addRow_83 rfl (fun H locs hw => ?_)
    refine lv_aload_n hx hb dX7_addRow_86 rfl (lv_at hl 1 rfl) ?_
    refine gt_X7_11 B hw (i := 57) rfl dX7_addRow_87 ?_
    refine lv_iload_n hx hb dX7_addRow_90 rfl (lv_at hl 2 rfl) ?_
    refine c_aldR B hw (i := 61) rfl g_4 dX7_addRow_91 ?_
    refine r_topk (kV rfl g_4) hf (fun a_21 ha_21 hf => ?_)
    refine lv_iload hx hb dX7_addRow_92 (lv_at hl 0 rfl) ?_
    refine lv_iconst (v := 3) hx hb dX7_addRow_94 (by decide) ?_
    refine lv_iload hx hb dX7_addRow_95 (lv_at hl 6 rfl) ?_
    obtain ⟨M_23, h_22, hf⟩ := bd_e hf
    refine q_callVv (M' := M_23) (i := a_21) (As := [.int r_7, .int 3, .int p5]) (rest := []) B hw (c_X6_putCell l X fu a_21 r_7 3 p5 M_20 ha_21 M_23 h_22 _) cv_X7_51 (rc_6 B hw ha_21) rfl hl.1 rfl rfl ⟨Nat.le_of_ble_eq_true rfl, Nat.le_of_ble_eq_true rfl⟩ (Nat.le_of_ble_eq_true rfl) ⟨Nat.le_of_ble_eq_true rfl, Nat.le_of_ble_eq_true rfl⟩ dX7_addRow_97 rfl (fun H locs hw => ?_)
    refine lv_aload_n hx hb dX7_addRow_100 rfl (lv_at hl 1 rfl) ?_
    refine lv_iload_n hx hb dX7_addRow_101 rfl (lv_at hl 2 rfl) ?_
    obtain ⟨M_25, h_24, hf⟩ := bd_e hf
    refine q_callVv (M' := M_25) (i := 57) (As := [.int p1]) (rest := []) B hw (c_X7_write l X fu p1 M_23 M_25 h_24 _) cv_X7_59 (rc_7 B hw rfl) rfl hl.1 rfl rfl ⟨Nat.le_of_ble_eq_true rfl, Nat.le_of_ble_eq_true rfl⟩ (Nat.le_of_ble_eq_true rfl) ⟨Nat.le_of_ble_eq_true rfl, Nat.le_of_ble_eq_true rfl⟩ dX7_addRow_102 rfl (fun H locs hw => ?_)
    refine lv_iload hx hb dX7_addRow_105 (lv_at hl 7 rfl) ?_
    cases hf
    subst hQ
    exact q_iret B hr hlk hw rfl rfl dX7_addRow_107
  refine lv_if_ne (tgt := 28) hx hb dX7_addRow_7 (by decide) (fun c_26 => ?_) (fun c_26 => ?_)
  · have hf := ie_e hf c_26
    exact J28_1 p2 M _ _ _ hw (lv_sub hl [1, 2, 3, 4, 5, 6, 0] rfl) hf
  · have hf := it_e hf c_26
    refine lv_aload_n hx hb dX7_addRow_10 rfl (lv_at hl 1 rfl) ?_
    refine gt_X7_17 B hw (i := 57) rfl dX7_addRow_11 ?_
    refine lv_iload_n hx hb dX7_addRow_14 rfl (lv_at hl 2 rfl) ?_
    obtain ⟨g_27, hf⟩ := grd_e hf
    refine c_iald B hw (i := 58) rfl g_27 dX7_addRow_15 ?_
    refine r_topn hf (fun x6_28 hf => ?_)
    refine lv_istore (lv' := [(6, .int x6_28), (0, .ref (X.2.2 57)), (1, .int p1), (2, .int p2), (3, .int p3), (4, .int p4), (5, .int p5)]) hx hb dX7_addRow_16 hl (by decide) rfl (fun ls hl => ?_)
    refine lv_aload_n hx hb dX7_addRow_18 rfl (lv_at hl 1 rfl) ?_
    refine gt_X7_17 B hw (i := 57) rfl dX7_addRow_19 ?_
    refine lv_iload_n hx hb dX7_addRow_22 rfl (lv_at hl 2 rfl) ?_
    refine lv_dup2_11 hx hb dX7_addRow_23 rfl rfl ?_
    refine c_iald B hw (i := 58) rfl g_27 dX7_addRow_24 ?_
    refine lv_iconst (v := 1) hx hb dX7_addRow_25 (by decide) ?_
    refine lv_iadd hx hb dX7_addRow_26 ?_
    refine c_iast B hw (i := 58) rfl g_27 dX7_addRow_27 hf (fun M_29 H locs hw hf => ?_)
    exact J28_1 x6_28 M_29 _ _ _ hw (lv_sub hl [1, 2, 3, 4, 5, 6, 0] rfl) hf
abbrev rm_X7_changeCell : Room := { frames := 3, cells := 0, slots := 0, locals := 74 }
set_option maxRecDepth 100000 in
set_option maxHeartbeats 4000000 in
theorem c_X7_changeCell (l : Launch) (X : XT) (fu : Nat) (p1 : Int32) (p2 : Int32) (p3 : Int32) (p4 : Int32) (M : Mem)  (rs : (Int32 × Mem)) (hf : f_X7_changeCell fu p1 p2 p3 p4 M = some rs) (sz : Nat) : Met l yX7_changeCell (wbig yX7_changeCell cX7_changeCell 7 (some .int)) rm_X7_changeCell (va_Pc [.ref (X.2.2 57), .int p1, .int p2, .int p3, .int p4] (PW LC X M sz)) (QI LC X rs.2 rs.1 sz) 0 0 (AX LC X sz) := by
  refine met_go (L := LC) (M := M) (by decide +kernel) (Nat.le_of_ble_eq_true rfl) ?_
  intro p e s m args below meth c hsz B hr hlk hw ls hl
  subst hsz
  have hx := B.hx
  have hb := B.hb
  have hl : lv_has ls 7 [(0, .ref (X.2.2 57)), (1, .int p1), (2, .int p2), (3, .int p3), (4, .int p4)] := hl
  generalize hQ : MQ below _ args s 0 0 (AX LC X s.heap.size) = Q
  unfold f_X7_changeCell at hf
  refine lv_aload_n hx hb dX7_changeCell_0 rfl (lv_at hl 0 rfl) ?_
  refine gt_X7_11 B hw (i := 57) rfl dX7_changeCell_1 ?_
  refine lv_iload_n hx hb dX7_changeCell_4 rfl (lv_at hl 1 rfl) ?_
  obtain ⟨g_1, hf⟩ := grd_e hf
  refine c_aldR B hw (i := 61) rfl g_1 dX7_changeCell_5 ?_
  refine r_topk (kV rfl g_1) hf (fun a_2 ha_2 hf => ?_)
  refine lv_iload_n hx hb dX7_changeCell_6 rfl (lv_at hl 2 rfl) ?_
  obtain ⟨r_4, h_3, hf⟩ := bd_e hf
  refine q_callVi (M' := M) (i := a_2) (As := [.int p2]) (rest := []) B hw (c_X6_placeOf l X fu a_2 p2 M ha_2 r_4 h_3 _) cv_X7_63 (rc_6 B hw ha_2) rfl hl.1 rfl rfl ⟨Nat.le_of_ble_eq_true rfl, Nat.le_of_ble_eq_true rfl⟩ (Nat.le_of_ble_eq_true rfl) ⟨Nat.le_of_ble_eq_true rfl, Nat.le_of_ble_eq_true rfl⟩ dX7_changeCell_7 rfl (fun H locs hw => ?_)
  refine lv_istore (lv' := [(5, .int r_4), (0, .ref (X.2.2 57)), (1, .int p1), (2, .int p2), (3, .int p3), (4, .int p4)]) hx hb dX7_changeCell_10 hl (by decide) rfl (fun ls hl => ?_)
  refine lv_aload_n hx hb dX7_changeCell_12 rfl (lv_at hl 1 rfl) ?_
  refine gt_X7_11 B hw (i := 57) rfl dX7_changeCell_13 ?_
  refine lv_iload_n hx hb dX7_changeCell_16 rfl (lv_at hl 2 rfl) ?_
  refine c_aldR B hw (i := 61) rfl g_1 dX7_changeCell_17 ?_
  refine r_topk (kV rfl g_1) hf (fun a_5 ha_5 hf => ?_)
  refine lv_iload hx hb dX7_changeCell_18 (lv_at hl 0 rfl) ?_
  refine lv_iload_n hx hb dX7_changeCell_20 rfl (lv_at hl 4 rfl) ?_
  obtain ⟨r_7, h_6, hf⟩ := bd_e hf
  refine q_callVi (M' := M) (i := a_5) (As := [.int r_4, .int p3]) (rest := []) B hw (c_X6_cellAt l X fu a_5 r_4 p3 M ha_5 r_7 h_6 _) cv_X7_66 (rc_6 B hw ha_5) rfl hl.1 rfl rfl ⟨Nat.le_of_ble_eq_true rfl, Nat.le_of_ble_eq_true rfl⟩ (Nat.le_of_ble_eq_true rfl) ⟨Nat.le_of_ble_eq_true rfl, Nat.le_of_ble_eq_true rfl⟩ dX7_changeCell_21 rfl (fun H locs hw => ?_)
  refine lv_istore (lv' := [(6, .int r_7), (5, .int r_4), (0, .ref (X.2.2 57)), (1, .int p1), (2, .int p2), (3, .int p3), (4, .int p4)]) hx hb dX7_changeCell_24 hl (by decide) rfl (fun ls hl => ?_)
  refine lv_aload_n hx hb dX7_changeCell_26 rfl (lv_at hl 2 rfl) ?_
  refine gt_X7_11 B hw (i := 57) rfl dX7_changeCell_27 ?_
  refine lv_iload_n hx hb dX7_changeCell_30 rfl (lv_at hl 3 rfl) ?_
  refine c_aldR B hw (i := 61) rfl g_1 dX7_changeCell_31 ?_
  refine r_topk (kV rfl g_1) hf (fun a_8 ha_8 hf => ?_)
  refine lv_iload hx hb dX7_changeCell_32 (lv_at hl 1 rfl) ?_
  refine lv_iload_n hx hb dX7_changeCell_34 rfl (lv_at hl 5 rfl) ?_
  refine lv_aload_n hx hb dX7_changeCell_35 rfl (lv_at hl 2 rfl) ?_
  refine lv_iload_n hx hb dX7_changeCell_36 rfl (lv_at hl 3 rfl) ?_
  refine lv_iload hx hb dX7_changeCell_37 (lv_at hl 6 rfl) ?_
  obtain ⟨r_10, M_11, h_9, hf⟩ := bm_e hf
  refine q_callVi (M' := M_11) (i := 57) (As := [.int p1, .int p4]) (rest := [.int p3, .int r_4, .ref (X.2.2 a_8)]) B hw (c_X7_asStored l X fu p1 p4 M (r_10, M_11) h_9 _) cv_X7_55 (rc_7 B hw rfl) rfl hl.1 rfl rfl ⟨Nat.le_of_ble_eq_true rfl, Nat.le_of_ble_eq_true rfl⟩ (Nat.le_of_ble_eq_true rfl) ⟨Nat.le_of_ble_eq_true rfl, Nat.le_of_ble_eq_true rfl⟩ dX7_changeCell_39 rfl (fun H locs hw => ?_)
  obtain ⟨M_13, h_12, hf⟩ := bd_e hf
  refine q_callVv (M' := M_13) (i := a_8) (As := [.int r_4, .int p3, .int r_10]) (rest := []) B hw (c_X6_putCell l X fu a_8 r_4 p3 r_10 M_11 ha_8 M_13 h_12 _) cv_X7_51 (rc_6 B hw ha_8) rfl hl.1 rfl rfl ⟨Nat.le_of_ble_eq_true rfl, Nat.le_of_ble_eq_true rfl⟩ (Nat.le_of_ble_eq_true rfl) ⟨Nat.le_of_ble_eq_true rfl, Nat.le_of_ble_eq_true rfl⟩ dX7_changeCell_42 rfl (fun H locs hw => ?_)
  refine lv_aload_n hx hb dX7_changeCell_45 rfl (lv_at hl 2 rfl) ?_
  refine lv_iload_n hx hb dX7_changeCell_46 rfl (lv_at hl 3 rfl) ?_
  obtain ⟨M_15, h_14, hf⟩ := bd_e hf
  refine q_callVv (M' := M_15) (i := 57) (As := [.int p1]) (rest := []) B hw (c_X7_write l X fu p1 M_13 M_15 h_14 _) cv_X7_59 (rc_7 B hw rfl) rfl hl.1 rfl rfl ⟨Nat.le_of_ble_eq_true rfl, Nat.le_of_ble_eq_true rfl⟩ (Nat.le_of_ble_eq_true rfl) ⟨Nat.le_of_ble_eq_true rfl, Nat.le_of_ble_eq_true rfl⟩ dX7_changeCell_47 rfl (fun H locs hw => ?_)
  refine lv_iload hx hb dX7_changeCell_50 (lv_at hl 0 rfl) ?_
  cases hf
  subst hQ
  exact q_iret B hr hlk hw rfl rfl dX7_changeCell_52
abbrev rm_X7_removeRow : Room := { frames := 3, cells := 0, slots := 0, locals := 74 }
set_option maxRecDepth 100000 in
set_option maxHeartbeats 4000000 in
theorem c_X7_removeRow (l : Launch) (X : XT) (fu : Nat) (p1 : Int32) (p2 : Int32) (M : Mem)  (rs : Mem) (hf : f_X7_removeRow fu p1 p2 M = some rs) (sz : Nat) : Met l yX7_removeRow (wbig yX7_removeRow cX7_removeRow 3 none) rm_X7_removeRow (va_Pc [.ref (X.2.2 57), .int p1, .int p2] (PW LC X M sz)) (QV LC X rs sz) 0 0 (AX LC X sz) := by
  refine met_go (L := LC) (M := M) (by decide +kernel) (Nat.le_of_ble_eq_true rfl) ?_
  intro p e s m args below meth c hsz B hr hlk hw ls hl
  subst hsz
  have hx := B.hx
  have hb := B.hb
  have hl : lv_has ls 3 [(0, .ref (X.2.2 57)), (1, .int p1), (2, .int p2)] := hl
  generalize hQ : MQ below _ args s 0 0 (AX LC X s.heap.size) = Q
  unfold f_X7_removeRow at hf
  refine lv_aload_n hx hb dX7_removeRow_0 rfl (lv_at hl 0 rfl) ?_
  refine gt_X7_11 B hw (i := 57) rfl dX7_removeRow_1 ?_
  refine lv_iload_n hx hb dX7_removeRow_4 rfl (lv_at hl 1 rfl) ?_
  obtain ⟨g_1, hf⟩ := grd_e hf
  refine c_aldR B hw (i := 61) rfl g_1 dX7_removeRow_5 ?_
  refine r_topk (kV rfl g_1) hf (fun a_2 ha_2 hf => ?_)
  refine lv_aload_n hx hb dX7_removeRow_6 rfl (lv_at hl 0 rfl) ?_
  refine gt_X7_11 B hw (i := 57) rfl dX7_removeRow_7 ?_
  refine lv_iload_n hx hb dX7_removeRow_10 rfl (lv_at hl 1 rfl) ?_
  refine c_aldR B hw (i := 61) rfl g_1 dX7_removeRow_11 ?_
  refine r_topk (kV rfl g_1) hf (fun a_3 ha_3 hf => ?_)
  refine lv_iload_n hx hb dX7_removeRow_12 rfl (lv_at hl 2 rfl) ?_
  obtain ⟨r_5, h_4, hf⟩ := bd_e hf
  refine q_callVi (M' := M) (i := a_3) (As := [.int p2]) (rest := [.ref (X.2.2 a_2)]) B hw (c_X6_placeOf l X fu a_3 p2 M ha_3 r_5 h_4 _) cv_X7_63 (rc_6 B hw ha_3) rfl hl.1 rfl rfl ⟨Nat.le_of_ble_eq_true rfl, Nat.le_of_ble_eq_true rfl⟩ (Nat.le_of_ble_eq_true rfl) ⟨Nat.le_of_ble_eq_true rfl, Nat.le_of_ble_eq_true rfl⟩ dX7_removeRow_13 rfl (fun H locs hw => ?_)
  obtain ⟨M_7, h_6, hf⟩ := bd_e hf
  refine q_callVv (M' := M_7) (i := a_2) (As := [.int r_5]) (rest := []) B hw (c_X6_dropPlace l X fu a_2 r_5 M ha_2 M_7 h_6 _) cv_X7_69 (rc_6 B hw ha_2) rfl hl.1 rfl rfl ⟨Nat.le_of_ble_eq_true rfl, Nat.le_of_ble_eq_true rfl⟩ (Nat.le_of_ble_eq_true rfl) ⟨Nat.le_of_ble_eq_true rfl, Nat.le_of_ble_eq_true rfl⟩ dX7_removeRow_16 rfl (fun H locs hw => ?_)
  refine lv_aload_n hx hb dX7_removeRow_19 rfl (lv_at hl 0 rfl) ?_
  refine lv_iload_n hx hb dX7_removeRow_20 rfl (lv_at hl 1 rfl) ?_
  obtain ⟨M_9, h_8, hf⟩ := bd_e hf
  refine q_callVv (M' := M_9) (i := 57) (As := [.int p1]) (rest := []) B hw (c_X7_write l X fu p1 M_7 M_9 h_8 _) cv_X7_59 (rc_7 B hw rfl) rfl hl.1 rfl rfl ⟨Nat.le_of_ble_eq_true rfl, Nat.le_of_ble_eq_true rfl⟩ (Nat.le_of_ble_eq_true rfl) ⟨Nat.le_of_ble_eq_true rfl, Nat.le_of_ble_eq_true rfl⟩ dX7_removeRow_21 rfl (fun H locs hw => ?_)
  cases hf
  subst hQ
  exact q_vret B hr hlk hw rfl dX7_removeRow_24
