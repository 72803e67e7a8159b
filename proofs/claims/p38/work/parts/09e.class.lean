abbrev rm_X2_doStep : Room := { frames := 4, cells := 0, slots := 0, locals := 101 }
set_option maxRecDepth 100000 in
set_option maxHeartbeats 4000000 in
theorem c_X2_doStep (l : Launch) (X : XT) (fu : Nat) (p1 : Int32) (M : Mem)  (rs : Mem) (hf : f_X2_doStep fu p1 M = some rs) (sz : Nat) : Met l yX2_doStep (wbig yX2_doStep cX2_doStep 4 none) rm_X2_doStep (va_Pc [.ref (X.2.2 122), .int p1] (PW LC X M sz)) (QV LC X rs sz) 0 0 (AX LC X sz) := by
  refine met_go (L := LC) (M := M) (by decide +kernel) (Nat.le_of_ble_eq_true rfl) ?_
  intro p e s m args below meth c hsz B hr hlk hw ls hl
  subst hsz
  have hx := B.hx
  have hb := B.hb
  have hl : lv_has ls 4 [(0, .ref (X.2.2 122)), (1, .int p1)] := hl
  generalize hQ : MQ below _ args s 0 0 (AX LC X s.heap.size) = Q
  unfold f_X2_doStep at hf
  refine lv_aload_n hx hb dX2_doStep_0 rfl (lv_at hl 0 rfl) ?_
  refine gt_X2_15 B hw (i := 122) rfl dX2_doStep_1 ?_
  refine lv_iload_n hx hb dX2_doStep_4 rfl (lv_at hl 1 rfl) ?_
  obtain ⟨g_1, hf⟩ := grd_e hf
  refine c_iald B hw (i := 124) rfl g_1 dX2_doStep_5 ?_
  refine r_topn hf (fun x2_2 hf => ?_)
  refine lv_istore_n (lv' := [(2, .int x2_2), (0, .ref (X.2.2 122)), (1, .int p1)]) hx hb dX2_doStep_6 rfl hl (by decide) rfl (fun ls hl => ?_)
  refine lv_iload_n hx hb dX2_doStep_7 rfl (lv_at hl 2 rfl) ?_
  refine lv_iconst (v := 4) hx hb dX2_doStep_8 (by decide) ?_
  refine lv_imul hx hb dX2_doStep_9 ?_
  refine r_topn hf (fun x3_3 hf => ?_)
  refine lv_istore_n (lv' := [(3, .int x3_3), (2, .int x2_2), (0, .ref (X.2.2 122)), (1, .int p1)]) hx hb dX2_doStep_10 rfl hl (by decide) rfl (fun ls hl => ?_)
  refine lv_aload_n hx hb dX2_doStep_11 rfl (lv_at hl 2 rfl) ?_
  refine gt_X2_25 B hw (i := 122) rfl dX2_doStep_12 ?_
  refine lv_iload_n hx hb dX2_doStep_15 rfl (lv_at hl 3 rfl) ?_
  refine lv_aload_n hx hb dX2_doStep_16 rfl (lv_at hl 2 rfl) ?_
  refine gt_X2_18 B hw (i := 122) rfl dX2_doStep_17 ?_
  refine lv_iload_n hx hb dX2_doStep_20 rfl (lv_at hl 0 rfl) ?_
  obtain ⟨g_4, hf⟩ := grd_e hf
  refine c_iald B hw (i := 125) rfl g_4 dX2_doStep_21 ?_
  refine c_iast B hw (i := 127) rfl g_1 dX2_doStep_22 hf (fun M_5 H locs hw hf => ?_)
  refine lv_aload_n hx hb dX2_doStep_23 rfl (lv_at hl 2 rfl) ?_
  refine gt_X2_21 B hw (i := 122) rfl dX2_doStep_24 ?_
  refine lv_iload_n hx hb dX2_doStep_27 rfl (lv_at hl 3 rfl) ?_
  refine lv_iconst (v := 1) hx hb dX2_doStep_28 (by decide) ?_
  refine c_zast B hw (i := 126) rfl g_1 rfl dX2_doStep_29 hf (fun M_6 H locs hw hf => ?_)
  refine lv_aload_n hx hb dX2_doStep_30 rfl (lv_at hl 2 rfl) ?_
  refine gt_X2_9 B hw (i := 122) rfl dX2_doStep_31 ?_
  refine lv_iload_n hx hb dX2_doStep_34 rfl (lv_at hl 3 rfl) ?_
  refine c_iald B hw (i := 123) rfl g_1 dX2_doStep_35 ?_
  by_cases c_7 : (M_6 123 p1.toNatClampNeg) = 0
  · have hf := it_e hf c_7
    refine lv_lookup (tgt := 64) hx hb dX2_doStep_36 (by decide) (by rw [c_7] <;> rfl) (by decide) ?_
    refine lv_aload_n hx hb dX2_doStep_64 rfl (lv_at hl 2 rfl) ?_
    refine gt_X2_25 B hw (i := 122) rfl dX2_doStep_65 ?_
    refine lv_iload_n hx hb dX2_doStep_68 rfl (lv_at hl 3 rfl) ?_
    refine lv_aload_n hx hb dX2_doStep_69 rfl (lv_at hl 2 rfl) ?_
    refine gt_X2_41 B hw (i := 122) rfl dX2_doStep_70 ?_
    refine lv_iload_n hx hb dX2_doStep_73 rfl (lv_at hl 1 rfl) ?_
    refine lv_aload_n hx hb dX2_doStep_74 rfl (lv_at hl 2 rfl) ?_
    refine gt_X2_18 B hw (i := 122) rfl dX2_doStep_75 ?_
    refine lv_iload_n hx hb dX2_doStep_78 rfl (lv_at hl 0 rfl) ?_
    refine c_iald B hw (i := 125) rfl g_4 dX2_doStep_79 ?_
    refine lv_aload_n hx hb dX2_doStep_80 rfl (lv_at hl 2 rfl) ?_
    refine gt_X2_18 B hw (i := 122) rfl dX2_doStep_81 ?_
    refine lv_iload_n hx hb dX2_doStep_84 rfl (lv_at hl 0 rfl) ?_
    refine lv_iconst (v := 1) hx hb dX2_doStep_85 (by decide) ?_
    refine lv_iadd hx hb dX2_doStep_86 ?_
    obtain ⟨g_8, hf⟩ := grd_e hf
    refine c_iald B hw (i := 125) rfl g_8 dX2_doStep_87 ?_
    refine lv_aload_n hx hb dX2_doStep_88 rfl (lv_at hl 2 rfl) ?_
    refine gt_X2_18 B hw (i := 122) rfl dX2_doStep_89 ?_
    refine lv_iload_n hx hb dX2_doStep_92 rfl (lv_at hl 0 rfl) ?_
    refine lv_iconst (v := 2) hx hb dX2_doStep_93 (by decide) ?_
    refine lv_iadd hx hb dX2_doStep_94 ?_
    obtain ⟨g_9, hf⟩ := grd_e hf
    refine c_iald B hw (i := 125) rfl g_9 dX2_doStep_95 ?_
    refine lv_aload_n hx hb dX2_doStep_96 rfl (lv_at hl 2 rfl) ?_
    refine gt_X2_18 B hw (i := 122) rfl dX2_doStep_97 ?_
    refine lv_iload_n hx hb dX2_doStep_100 rfl (lv_at hl 0 rfl) ?_
    refine lv_iconst (v := 3) hx hb dX2_doStep_101 (by decide) ?_
    refine lv_iadd hx hb dX2_doStep_102 ?_
    obtain ⟨g_10, hf⟩ := grd_e hf
    refine c_iald B hw (i := 125) rfl g_10 dX2_doStep_103 ?_
    obtain ⟨r_12, M_13, h_11, hf⟩ := bm_e hf
    refine q_callVi (M' := M_13) (i := 57) (As := [.int x2_2, .int (M_6 125 x3_3.toNatClampNeg), .int (M_6 125 (x3_3 + 1).toNatClampNeg), .int (M_6 125 (x3_3 + 2).toNatClampNeg), .int (M_6 125 (x3_3 + 3).toNatClampNeg)]) (rest := [.int p1, .ref (X.2.2 127)]) B hw (c_X7_addRow l X fu x2_2 (M_6 125 x3_3.toNatClampNeg) (M_6 125 (x3_3 + 1).toNatClampNeg) (M_6 125 (x3_3 + 2).toNatClampNeg) (M_6 125 (x3_3 + 3).toNatClampNeg) M_6 (r_12, M_13) h_11 _) cv_X2_105 (rc_7 B hw rfl) rfl hl.1 rfl rfl ⟨Nat.le_of_ble_eq_true rfl, Nat.le_of_ble_eq_true rfl⟩ (Nat.le_of_ble_eq_true rfl) ⟨Nat.le_of_ble_eq_true rfl, Nat.le_of_ble_eq_true rfl⟩ dX2_doStep_104 rfl (fun H locs hw => ?_)
    refine c_iast B hw (i := 127) rfl g_1 dX2_doStep_107 hf (fun M_14 H locs hw hf => ?_)
    refine lv_goto (tgt := 210) hx hb dX2_doStep_108 (by decide) ?_
    cases hf
    subst hQ
    exact q_vret B hr hlk hw rfl dX2_doStep_210
  · have hf := ie_e hf c_7
    by_cases c_15 : (M_6 123 p1.toNatClampNeg) = 1
    · have hf := it_e hf c_15
      refine lv_lookup (tgt := 111) hx hb dX2_doStep_36 (by decide) (by rw [c_15] <;> rfl) (by decide) ?_
      refine lv_aload_n hx hb dX2_doStep_111 rfl (lv_at hl 2 rfl) ?_
      refine gt_X2_28 B hw (i := 122) rfl dX2_doStep_112 ?_
      refine lv_iload_n hx hb dX2_doStep_115 rfl (lv_at hl 3 rfl) ?_
      refine lv_aload_n hx hb dX2_doStep_116 rfl (lv_at hl 2 rfl) ?_
      refine gt_X2_41 B hw (i := 122) rfl dX2_doStep_117 ?_
      refine lv_iload_n hx hb dX2_doStep_120 rfl (lv_at hl 1 rfl) ?_
      refine lv_aload_n hx hb dX2_doStep_121 rfl (lv_at hl 2 rfl) ?_
      refine gt_X2_25 B hw (i := 122) rfl dX2_doStep_122 ?_
      refine lv_iload_n hx hb dX2_doStep_125 rfl (lv_at hl 3 rfl) ?_
      refine c_iald B hw (i := 127) rfl g_1 dX2_doStep_126 ?_
      refine lv_aload_n hx hb dX2_doStep_127 rfl (lv_at hl 2 rfl) ?_
      refine gt_X2_18 B hw (i := 122) rfl dX2_doStep_128 ?_
      refine lv_iload_n hx hb dX2_doStep_131 rfl (lv_at hl 0 rfl) ?_
      refine lv_iconst (v := 1) hx hb dX2_doStep_132 (by decide) ?_
      refine lv_iadd hx hb dX2_doStep_133 ?_
      obtain ⟨g_16, hf⟩ := grd_e hf
      refine c_iald B hw (i := 125) rfl g_16 dX2_doStep_134 ?_
      refine lv_aload_n hx hb dX2_doStep_135 rfl (lv_at hl 2 rfl) ?_
      refine gt_X2_18 B hw (i := 122) rfl dX2_doStep_136 ?_
      refine lv_iload_n hx hb dX2_doStep_139 rfl (lv_at hl 0 rfl) ?_
      refine lv_iconst (v := 2) hx hb dX2_doStep_140 (by decide) ?_
      refine lv_iadd hx hb dX2_doStep_141 ?_
      obtain ⟨g_17, hf⟩ := grd_e hf
      refine c_iald B hw (i := 125) rfl g_17 dX2_doStep_142 ?_
      obtain ⟨r_19, M_20, h_18, hf⟩ := bm_e hf
      refine q_callVi (M' := M_20) (i := 57) (As := [.int x2_2, .int (M_6 127 p1.toNatClampNeg), .int (M_6 125 (x3_3 + 1).toNatClampNeg), .int (M_6 125 (x3_3 + 2).toNatClampNeg)]) (rest := [.int p1, .ref (X.2.2 128)]) B hw (c_X7_changeCell l X fu x2_2 (M_6 127 p1.toNatClampNeg) (M_6 125 (x3_3 + 1).toNatClampNeg) (M_6 125 (x3_3 + 2).toNatClampNeg) M_6 (r_19, M_20) h_18 _) cv_X2_109 (rc_7 B hw rfl) rfl hl.1 rfl rfl ⟨Nat.le_of_ble_eq_true rfl, Nat.le_of_ble_eq_true rfl⟩ (Nat.le_of_ble_eq_true rfl) ⟨Nat.le_of_ble_eq_true rfl, Nat.le_of_ble_eq_true rfl⟩ dX2_doStep_143 rfl (fun H locs hw => ?_)
      refine c_iast B hw (i := 128) rfl g_1 dX2_doStep_146 hf (fun M_21 H locs hw hf => ?_)
      refine lv_goto (tgt := 210) hx hb dX2_doStep_147 (by decide) ?_
      cases hf
      subst hQ
      exact q_vret B hr hlk hw rfl dX2_doStep_210
    · have hf := ie_e hf c_15
      have hne : (M_6 123 p1.toNatClampNeg).toInt ≠ 0 ∧ (M_6 123 p1.toNatClampNeg).toInt ≠ 1 := ⟨(fun z => c_7 (Int32.toInt_inj.mp z)), (fun z => c_15 (Int32.toInt_inj.mp z))⟩
      refine lv_lookup (off := 114) (tgt := 150) hx hb dX2_doStep_36 (by decide) (by simp [Op.lookupswitch.offset, hne.1, hne.2, Ne.symm hne.1, Ne.symm hne.2]) (by decide) ?_
      refine lv_aload_n hx hb dX2_doStep_150 rfl (lv_at hl 2 rfl) ?_
      refine gt_X2_33 B hw (i := 122) rfl dX2_doStep_151 ?_
      refine lv_iload_n hx hb dX2_doStep_154 rfl (lv_at hl 3 rfl) ?_
      refine c_aldR B hw (i := 129) rfl g_1 dX2_doStep_155 ?_
      refine r_topk (kV rfl g_1) hf (fun a_22 ha_22 hf => ?_)
      refine lv_iconst (v := 0) hx hb dX2_doStep_156 (by decide) ?_
      refine pt_X2_113 B hw (i := a_22) ha_22 dX2_doStep_157 hf (fun M_23 H locs hw hf => ?_)
      refine lv_aload_n hx hb dX2_doStep_160 rfl (lv_at hl 2 rfl) ?_
      refine gt_X2_33 B hw (i := 122) rfl dX2_doStep_161 ?_
      refine lv_iload_n hx hb dX2_doStep_164 rfl (lv_at hl 3 rfl) ?_
      refine c_aldR B hw (i := 129) rfl g_1 dX2_doStep_165 ?_
      refine r_topk (kV rfl g_1) hf (fun a_24 ha_24 hf => ?_)
      refine lv_aload_n hx hb dX2_doStep_166 rfl (lv_at hl 2 rfl) ?_
      refine gt_X2_41 B hw (i := 122) rfl dX2_doStep_167 ?_
      refine gt_X2_89 B hw (i := 57) rfl dX2_doStep_170 ?_
      refine lv_iload_n hx hb dX2_doStep_173 rfl (lv_at hl 1 rfl) ?_
      obtain ⟨g_25, hf⟩ := grd_e hf
      refine c_aldR B hw (i := 61) rfl g_25 dX2_doStep_174 ?_
      refine r_topk (kV rfl g_25) hf (fun a_26 ha_26 hf => ?_)
      refine lv_aload_n hx hb dX2_doStep_175 rfl (lv_at hl 2 rfl) ?_
      refine gt_X2_41 B hw (i := 122) rfl dX2_doStep_176 ?_
      refine gt_X2_89 B hw (i := 57) rfl dX2_doStep_179 ?_
      refine lv_iload_n hx hb dX2_doStep_182 rfl (lv_at hl 1 rfl) ?_
      refine c_aldR B hw (i := 61) rfl g_25 dX2_doStep_183 ?_
      refine r_topk (kV rfl g_25) hf (fun a_27 ha_27 hf => ?_)
      refine lv_aload_n hx hb dX2_doStep_184 rfl (lv_at hl 2 rfl) ?_
      refine gt_X2_25 B hw (i := 122) rfl dX2_doStep_185 ?_
      refine lv_iload_n hx hb dX2_doStep_188 rfl (lv_at hl 3 rfl) ?_
      refine c_iald B hw (i := 127) rfl g_1 dX2_doStep_189 ?_
      obtain ⟨r_29, h_28, hf⟩ := bd_e hf
      refine q_callVi (M' := M_23) (i := a_27) (As := [.int (M_23 127 p1.toNatClampNeg)]) (rest := [.ref (X.2.2 a_26), .ref (X.2.2 a_24)]) B hw (c_X6_placeOf l X fu a_27 (M_23 127 p1.toNatClampNeg) M_23 ha_27 r_29 h_28 _) cv_X2_114 (rc_6 B hw ha_27) rfl hl.1 rfl rfl ⟨Nat.le_of_ble_eq_true rfl, Nat.le_of_ble_eq_true rfl⟩ (Nat.le_of_ble_eq_true rfl) ⟨Nat.le_of_ble_eq_true rfl, Nat.le_of_ble_eq_true rfl⟩ dX2_doStep_190 rfl (fun H locs hw => ?_)
      obtain ⟨M_31, h_30, hf⟩ := bd_e hf
      refine q_callVv (M' := M_31) (i := a_24) (As := [.ref (X.2.2 a_26), .int r_29]) (rest := []) B hw (c_X6_takeRow l X fu a_24 a_26 r_29 M_23 ha_24 ha_26 M_31 h_30 _) cv_X2_117 (rc_6 B hw ha_24) rfl hl.1 rfl rfl ⟨Nat.le_of_ble_eq_true rfl, Nat.le_of_ble_eq_true rfl⟩ (Nat.le_of_ble_eq_true rfl) ⟨Nat.le_of_ble_eq_true rfl, Nat.le_of_ble_eq_true rfl⟩ dX2_doStep_193 rfl (fun H locs hw => ?_)
      refine lv_aload_n hx hb dX2_doStep_196 rfl (lv_at hl 2 rfl) ?_
      refine gt_X2_41 B hw (i := 122) rfl dX2_doStep_197 ?_
      refine lv_iload_n hx hb dX2_doStep_200 rfl (lv_at hl 1 rfl) ?_
      refine lv_aload_n hx hb dX2_doStep_201 rfl (lv_at hl 2 rfl) ?_
      refine gt_X2_25 B hw (i := 122) rfl dX2_doStep_202 ?_
      refine lv_iload_n hx hb dX2_doStep_205 rfl (lv_at hl 3 rfl) ?_
      refine c_iald B hw (i := 127) rfl g_1 dX2_doStep_206 ?_
      obtain ⟨M_33, h_32, hf⟩ := bd_e hf
      refine q_callVv (M' := M_33) (i := 57) (As := [.int x2_2, .int (M_31 127 p1.toNatClampNeg)]) (rest := []) B hw (c_X7_removeRow l X fu x2_2 (M_31 127 p1.toNatClampNeg) M_31 M_33 h_32 _) cv_X2_121 (rc_7 B hw rfl) rfl hl.1 rfl rfl ⟨Nat.le_of_ble_eq_true rfl, Nat.le_of_ble_eq_true rfl⟩ (Nat.le_of_ble_eq_true rfl) ⟨Nat.le_of_ble_eq_true rfl, Nat.le_of_ble_eq_true rfl⟩ dX2_doStep_207 rfl (fun H locs hw => ?_)
      cases hf
      subst hQ
      exact q_vret B hr hlk hw rfl dX2_doStep_210
abbrev rm_X2_request : Room := { frames := 5, cells := 0, slots := 0, locals := 124 }
set_option maxRecDepth 100000 in
set_option maxHeartbeats 4000000 in
theorem c_X2_request (l : Launch) (X : XT) (fu : Nat) (p1 : Int32) (M : Mem)  (rs : (Int32 × Mem)) (hf : f_X2_request fu p1 M = some rs) (sz : Nat) : Met l yX2_request (wbig yX2_request cX2_request 5 (some .boolean)) rm_X2_request (va_Pc [.ref (X.2.2 122), .int p1] (PW LC X M sz)) (QI LC X rs.2 rs.1 sz) 0 0 (AX LC X sz) := by
  refine met_go (L := LC) (M := M) (by decide +kernel) (Nat.le_of_ble_eq_true rfl) ?_
  intro p e s m args below meth c hsz B hr hlk hw ls hl
  subst hsz
  have hx := B.hx
  have hb := B.hb
  have hl : lv_has ls 5 [(0, .ref (X.2.2 122)), (1, .int p1)] := hl
  generalize hQ : MQ below _ args s 0 0 (AX LC X s.heap.size) = Q
  unfold f_X2_request at hf
  refine lv_aload_n hx hb dX2_request_0 rfl (lv_at hl 0 rfl) ?_
  refine gt_X2_15 B hw (i := 122) rfl dX2_request_1 ?_
  refine lv_iload_n hx hb dX2_request_4 rfl (lv_at hl 1 rfl) ?_
  obtain ⟨g_1, hf⟩ := grd_e hf
  refine c_iald B hw (i := 124) rfl g_1 dX2_request_5 ?_
  refine q_callNi (M' := M) (As := [.int (M 124 p1.toNatClampNeg)]) (rest := []) B hw (c_X10_storeOf l X (M 124 p1.toNatClampNeg) _ rfl M _) cn_X2_58 rfl hl.1 rfl rfl ⟨Nat.le_of_ble_eq_true rfl, Nat.le_of_ble_eq_true rfl⟩ (Nat.le_of_ble_eq_true rfl) ⟨Nat.le_of_ble_eq_true rfl, Nat.le_of_ble_eq_true rfl⟩ dX2_request_6 rfl (fun H locs hw => ?_)
  refine r_topn hf (fun x2_2 hf => ?_)
  refine lv_istore_n (lv' := [(2, .int x2_2), (0, .ref (X.2.2 122)), (1, .int p1)]) hx hb dX2_request_9 rfl hl (by decide) rfl (fun ls hl => ?_)
  refine lv_iconst (v := 0) hx hb dX2_request_10 (by decide) ?_
  refine lv_istore_n (lv' := [(3, .int 0), (2, .int x2_2), (0, .ref (X.2.2 122)), (1, .int p1)]) hx hb dX2_request_11 rfl hl (by decide) rfl (fun ls hl => ?_)
  have hL_12 : ∀ (n_12 : Nat) (x3_3 : Int32) (M_4 : Mem) (H : Heap) (locs : List Loc) (ls : Array Slot), HW LC X M_4 s H locs → lv_has ls 5 [(0, .ref (X.2.2 122)), (1, .int p1), (2, .int x2_2), (3, .int x3_3)] → f_X2_request_L12 fu p1 x2_2 n_12 x3_3 M_4 = some rs → W p l e rm_X2_request s m args below meth c H locs 0 0 Q (F0 m 12 ls []) := by
    intro n_12
    induction n_12 with
    | zero => intro x3_3 M_4 H locs ls hw hl hf; exact no_none hf
    | succ n_12 ih_12 =>
      intro x3_3 M_4 H locs ls hw hl hf
      rw [f_X2_request_L12] at hf
      refine lv_iload_n hx hb dX2_request_12 rfl (lv_at hl 3 rfl) ?_
      refine lv_iconst (v := 3) hx hb dX2_request_13 (by decide) ?_
      refine lv_icmp_ge (tgt := 92) hx hb dX2_request_14 (by decide) (fun c_5 => ?_) (fun c_5 => ?_)
      · have hf := it_e hf c_5
        refine lv_iconst (v := 0) hx hb dX2_request_92 (by decide) ?_
        cases hf
        subst hQ
        exact q_zret B hr hlk rfl hw rfl rfl dX2_request_93
      · have hf := ie_e hf c_5
        refine lv_aload_n hx hb dX2_request_17 rfl (lv_at hl 0 rfl) ?_
        refine gt_X2_37 B hw (i := 122) rfl dX2_request_18 ?_
        refine lv_iload_n hx hb dX2_request_21 rfl (lv_at hl 2 rfl) ?_
        obtain ⟨M_7, h_6, hf⟩ := bd_e hf
        refine q_callVv (M' := M_7) (i := 48) (As := [.int x2_2]) (rest := []) B hw (c_X8_awaitQuota l X fu x2_2 M_4 M_7 h_6 _) cv_X2_62 (rc_8 B hw rfl) rfl hl.1 rfl rfl ⟨Nat.le_of_ble_eq_true rfl, Nat.le_of_ble_eq_true rfl⟩ (Nat.le_of_ble_eq_true rfl) ⟨Nat.le_of_ble_eq_true rfl, Nat.le_of_ble_eq_true rfl⟩ dX2_request_22 rfl (fun H locs hw => ?_)
        refine lv_aload_n hx hb dX2_request_25 rfl (lv_at hl 0 rfl) ?_
        refine gt_X2_37 B hw (i := 122) rfl dX2_request_26 ?_
        refine lv_iload_n hx hb dX2_request_29 rfl (lv_at hl 2 rfl) ?_
        obtain ⟨r_9, M_10, h_8, hf⟩ := bm_e hf
        refine q_callVi (M' := M_10) (i := 48) (As := [.int x2_2]) (rest := []) B hw (c_X8_attempt l X fu x2_2 M_7 (r_9, M_10) h_8 _) cv_X2_67 (rc_8 B hw rfl) rfl hl.1 rfl rfl ⟨Nat.le_of_ble_eq_true rfl, Nat.le_of_ble_eq_true rfl⟩ (Nat.le_of_ble_eq_true rfl) ⟨Nat.le_of_ble_eq_true rfl, Nat.le_of_ble_eq_true rfl⟩ dX2_request_30 rfl (fun H locs hw => ?_)
        refine lv_istore (lv' := [(4, .int r_9), (0, .ref (X.2.2 122)), (1, .int p1), (2, .int x2_2), (3, .int x3_3)]) hx hb dX2_request_33 hl (by decide) rfl (fun ls hl => ?_)
        refine lv_aload_n hx hb dX2_request_35 rfl (lv_at hl 1 rfl) ?_
        refine gt_X2_21 B hw (i := 122) rfl dX2_request_36 ?_
        refine lv_iload_n hx hb dX2_request_39 rfl (lv_at hl 2 rfl) ?_
        obtain ⟨g_11, hf⟩ := grd_e hf
        refine c_zald B hw (i := 126) rfl g_11 dX2_request_40 ?_
        refine jn_e hf (fun kk => ∀ (M_13 : Mem) (H : Heap) (locs : List Loc) (ls : Array Slot), HW LC X M_13 s H locs → lv_has ls 5 [(0, .ref (X.2.2 122)), (1, .int p1), (2, .int x2_2), (3, .int x3_3), (4, .int r_9)] → kk M_13 = some rs → W p l e rm_X2_request s m args below meth c H locs 0 0 Q (F0 m 74 ls [])) ?_ (fun k74_12 J74_12 hf => ?_)
        · intro M_13 H locs ls hw hl hf
          refine lv_iload hx hb dX2_request_74 (lv_at hl 4 rfl) ?_
          refine lv_if_eq (tgt := 86) hx hb dX2_request_76 (by decide) (fun c_14 => ?_) (fun c_14 => ?_)
          · have hf := it_e hf c_14
            refine r_iinc (v := (x3_3 + 1)) hx hb dX2_request_86 hl (k := 3) rfl rfl (by decide) hf (fun x3_15 ls hl hf => ?_)
            have hl : lv_has ls 5 [(3, .int x3_15), (0, .ref (X.2.2 122)), (1, .int p1), (2, .int x2_2), (4, .int r_9)] := hl
            refine lv_goto (tgt := 12) hx hb dX2_request_89 (by decide) ?_
            exact ih_12 x3_15 M_13 _ _ _ hw (lv_sub hl [1, 2, 3, 0] rfl) hf
          · have hf := ie_e hf c_14
            refine lv_aload_n hx hb dX2_request_79 rfl (lv_at hl 0 rfl) ?_
            refine gt_X2_21 B hw (i := 122) rfl dX2_request_80 ?_
            refine lv_iload_n hx hb dX2_request_83 rfl (lv_at hl 1 rfl) ?_
            refine c_zald B hw (i := 126) rfl g_11 dX2_request_84 ?_
            obtain ⟨g_16, hf⟩ := grd_e hf
            cases hf
            subst hQ
            exact q_zret B hr hlk g_16 hw rfl rfl dX2_request_85
        refine lv_if_ne (tgt := 74) hx hb dX2_request_41 (by decide) (fun c_17 => ?_) (fun c_17 => ?_)
        · have hf := ie_e hf c_17
          exact J74_12 M_10 _ _ _ hw (lv_sub hl [1, 2, 3, 4, 0] rfl) hf
        · have hf := it_e hf c_17
          refine lv_iload hx hb dX2_request_44 (lv_at hl 0 rfl) ?_
          refine jn_e hf (fun kk => ∀ (_ : Unit) (H : Heap) (locs : List Loc) (ls : Array Slot), HW LC X M_10 s H locs → lv_has ls 5 [(0, .ref (X.2.2 122)), (1, .int p1), (2, .int x2_2), (3, .int x3_3), (4, .int r_9)] → kk () = some rs → W p l e rm_X2_request s m args below meth c H locs 0 0 Q (F0 m 61 ls [])) ?_ (fun k61_18 J61_18 hf => ?_)
          · intro _ H locs ls hw hl hf
            refine lv_aload_n hx hb dX2_request_61 rfl (lv_at hl 0 rfl) ?_
            refine lv_iload_n hx hb dX2_request_62 rfl (lv_at hl 1 rfl) ?_
            obtain ⟨r_20, h_19, hf⟩ := bd_e hf
            refine q_callVi (M' := M_10) (i := 122) (As := [.int p1]) (rest := []) B hw (c_X2_canStep l X fu p1 M_10 r_20 h_19 _) cv_X2_73 (rc_2 B hw rfl) rfl hl.1 rfl rfl ⟨Nat.le_of_ble_eq_true rfl, Nat.le_of_ble_eq_true rfl⟩ (Nat.le_of_ble_eq_true rfl) ⟨Nat.le_of_ble_eq_true rfl, Nat.le_of_ble_eq_true rfl⟩ dX2_request_63 rfl (fun H locs hw => ?_)
            refine lv_if_eq (tgt := 74) hx hb dX2_request_66 (by decide) (fun c_21 => ?_) (fun c_21 => ?_)
            · have hf := it_e hf c_21
              exact J74_12 M_10 _ _ _ hw (lv_sub hl [0, 1, 2, 3, 4] rfl) hf
            · have hf := ie_e hf c_21
              refine lv_aload_n hx hb dX2_request_69 rfl (lv_at hl 0 rfl) ?_
              refine lv_iload_n hx hb dX2_request_70 rfl (lv_at hl 1 rfl) ?_
              obtain ⟨M_23, h_22, hf⟩ := bd_e hf
              refine q_callVv (M' := M_23) (i := 122) (As := [.int p1]) (rest := []) B hw (c_X2_doStep l X fu p1 M_10 M_23 h_22 _) cv_X2_76 (rc_2 B hw rfl) rfl hl.1 rfl rfl ⟨Nat.le_of_ble_eq_true rfl, Nat.le_of_ble_eq_true rfl⟩ (Nat.le_of_ble_eq_true rfl) ⟨Nat.le_of_ble_eq_true rfl, Nat.le_of_ble_eq_true rfl⟩ dX2_request_71 rfl (fun H locs hw => ?_)
              exact J74_12 M_23 _ _ _ hw (lv_sub hl [0, 1, 2, 3, 4] rfl) hf
          refine lv_if_ne (tgt := 61) hx hb dX2_request_46 (by decide) (fun c_24 => ?_) (fun c_24 => ?_)
          · have hf := ie_e hf c_24
            exact J61_18 () _ _ _ hw (lv_sub hl [1, 2, 3, 4, 0] rfl) hf
          · have hf := it_e hf c_24
            refine lv_aload_n hx hb dX2_request_49 rfl (lv_at hl 1 rfl) ?_
            refine gt_X2_37 B hw (i := 122) rfl dX2_request_50 ?_
            refine gt_X2_70 B hw (i := 48) rfl dX2_request_53 ?_
            refine lv_iload_n hx hb dX2_request_56 rfl (lv_at hl 3 rfl) ?_
            obtain ⟨g_25, hf⟩ := grd_e hf
            refine c_zald B hw (i := 53) rfl g_25 dX2_request_57 ?_
            refine lv_if_eq (tgt := 74) hx hb dX2_request_58 (by decide) (fun c_26 => ?_) (fun c_26 => ?_)
            · have hf := it_e hf c_26
              exact J74_12 M_10 _ _ _ hw (lv_sub hl [1, 2, 3, 4, 0] rfl) hf
            · have hf := ie_e hf c_26
              exact J61_18 () _ _ _ hw (lv_sub hl [1, 2, 3, 4, 0] rfl) hf
  exact hL_12 fu 0 M _ _ _ hw (lv_sub hl [2, 3, 1, 0] rfl) hf
abbrev rm_X7_bringBack : Room := { frames := 3, cells := 0, slots := 0, locals := 74 }
set_option maxRecDepth 100000 in
set_option maxHeartbeats 4000000 in
theorem c_X7_bringBack (l : Launch) (X : XT) (fu : Nat) (p1 : Int32) (a2 : Nat) (M : Mem) (ha2 : kC a2 = (6, 0)) (rs : Mem) (hf : f_X7_bringBack fu p1 a2 M = some rs) (sz : Nat) : Met l yX7_bringBack (wbig yX7_bringBack cX7_bringBack 3 none) rm_X7_bringBack (va_Pc [.ref (X.2.2 57), .int p1, .ref (X.2.2 a2)] (PW LC X M sz)) (QV LC X rs sz) 0 0 (AX LC X sz) := by
  refine met_go (L := LC) (M := M) (by decide +kernel) (Nat.le_of_ble_eq_true rfl) ?_
  intro p e s m args below meth c hsz B hr hlk hw ls hl
  subst hsz
  have hx := B.hx
  have hb := B.hb
  have hl : lv_has ls 3 [(0, .ref (X.2.2 57)), (1, .int p1), (2, .ref (X.2.2 a2))] := hl
  generalize hQ : MQ below _ args s 0 0 (AX LC X s.heap.size) = Q
  unfold f_X7_bringBack at hf
  refine lv_aload_n hx hb dX7_bringBack_0 rfl (lv_at hl 0 rfl) ?_
  refine gt_X7_11 B hw (i := 57) rfl dX7_bringBack_1 ?_
  refine lv_iload_n hx hb dX7_bringBack_4 rfl (lv_at hl 1 rfl) ?_
  obtain ⟨g_1, hf⟩ := grd_e hf
  refine c_aldR B hw (i := 61) rfl g_1 dX7_bringBack_5 ?_
  refine r_topk (kV rfl g_1) hf (fun a_2 ha_2 hf => ?_)
  refine lv_aload_n hx hb dX7_bringBack_6 rfl (lv_at hl 2 rfl) ?_
  refine lv_iconst (v := 0) hx hb dX7_bringBack_7 (by decide) ?_
  obtain ⟨M_4, h_3, hf⟩ := bd_e hf
  refine q_callVv (M' := M_4) (i := a_2) (As := [.ref (X.2.2 a2), .int 0]) (rest := []) B hw (c_X6_takeRow l X fu a_2 a2 0 M ha_2 ha2 M_4 h_3 _) cv_X7_72 (rc_6 B hw ha_2) rfl hl.1 rfl rfl ⟨Nat.le_of_ble_eq_true rfl, Nat.le_of_ble_eq_true rfl⟩ (Nat.le_of_ble_eq_true rfl) ⟨Nat.le_of_ble_eq_true rfl, Nat.le_of_ble_eq_true rfl⟩ dX7_bringBack_8 rfl (fun H locs hw => ?_)
  refine lv_aload_n hx hb dX7_bringBack_11 rfl (lv_at hl 0 rfl) ?_
  refine lv_iload_n hx hb dX7_bringBack_12 rfl (lv_at hl 1 rfl) ?_
  obtain ⟨M_6, h_5, hf⟩ := bd_e hf
  refine q_callVv (M' := M_6) (i := 57) (As := [.int p1]) (rest := []) B hw (c_X7_write l X fu p1 M_4 M_6 h_5 _) cv_X7_59 (rc_7 B hw rfl) rfl hl.1 rfl rfl ⟨Nat.le_of_ble_eq_true rfl, Nat.le_of_ble_eq_true rfl⟩ (Nat.le_of_ble_eq_true rfl) ⟨Nat.le_of_ble_eq_true rfl, Nat.le_of_ble_eq_true rfl⟩ dX7_bringBack_13 rfl (fun H locs hw => ?_)
  cases hf
  subst hQ
  exact q_vret B hr hlk hw rfl dX7_bringBack_16
abbrev rm_X2_takeBack : Room := { frames := 4, cells := 0, slots := 0, locals := 100 }
set_option maxRecDepth 100000 in
set_option maxHeartbeats 4000000 in
theorem c_X2_takeBack (l : Launch) (X : XT) (fu : Nat) (p1 : Int32) (M : Mem)  (rs : Mem) (hf : f_X2_takeBack fu p1 M = some rs) (sz : Nat) : Met l yX2_takeBack (wbig yX2_takeBack cX2_takeBack 3 none) rm_X2_takeBack (va_Pc [.ref (X.2.2 122), .int p1] (PW LC X M sz)) (QV LC X rs sz) 0 0 (AX LC X sz) := by
  refine met_go (L := LC) (M := M) (by decide +kernel) (Nat.le_of_ble_eq_true rfl) ?_
  intro p e s m args below meth c hsz B hr hlk hw ls hl
  subst hsz
  have hx := B.hx
  have hb := B.hb
  have hl : lv_has ls 3 [(0, .ref (X.2.2 122)), (1, .int p1)] := hl
  generalize hQ : MQ below _ args s 0 0 (AX LC X s.heap.size) = Q
  unfold f_X2_takeBack at hf
  refine lv_aload_n hx hb dX2_takeBack_0 rfl (lv_at hl 0 rfl) ?_
  refine gt_X2_15 B hw (i := 122) rfl dX2_takeBack_1 ?_
  refine lv_iload_n hx hb dX2_takeBack_4 rfl (lv_at hl 1 rfl) ?_
  obtain ⟨g_1, hf⟩ := grd_e hf
  refine c_iald B hw (i := 124) rfl g_1 dX2_takeBack_5 ?_
  refine r_topn hf (fun x2_2 hf => ?_)
  refine lv_istore_n (lv' := [(2, .int x2_2), (0, .ref (X.2.2 122)), (1, .int p1)]) hx hb dX2_takeBack_6 rfl hl (by decide) rfl (fun ls hl => ?_)
  refine lv_aload_n hx hb dX2_takeBack_7 rfl (lv_at hl 1 rfl) ?_
  refine gt_X2_9 B hw (i := 122) rfl dX2_takeBack_8 ?_
  refine lv_iload_n hx hb dX2_takeBack_11 rfl (lv_at hl 2 rfl) ?_
  refine c_iald B hw (i := 123) rfl g_1 dX2_takeBack_12 ?_
  by_cases c_3 : (M 123 p1.toNatClampNeg) = 0
  · have hf := it_e hf c_3
    refine lv_lookup (tgt := 40) hx hb dX2_takeBack_13 (by decide) (by rw [c_3] <;> rfl) (by decide) ?_
    refine lv_aload_n hx hb dX2_takeBack_40 rfl (lv_at hl 1 rfl) ?_
    refine gt_X2_41 B hw (i := 122) rfl dX2_takeBack_41 ?_
    refine lv_iload_n hx hb dX2_takeBack_44 rfl (lv_at hl 0 rfl) ?_
    refine lv_aload_n hx hb dX2_takeBack_45 rfl (lv_at hl 1 rfl) ?_
    refine gt_X2_25 B hw (i := 122) rfl dX2_takeBack_46 ?_
    refine lv_iload_n hx hb dX2_takeBack_49 rfl (lv_at hl 2 rfl) ?_
    refine c_iald B hw (i := 127) rfl g_1 dX2_takeBack_50 ?_
    obtain ⟨M_5, h_4, hf⟩ := bd_e hf
    refine q_callVv (M' := M_5) (i := 57) (As := [.int x2_2, .int (M 127 p1.toNatClampNeg)]) (rest := []) B hw (c_X7_removeRow l X fu x2_2 (M 127 p1.toNatClampNeg) M M_5 h_4 _) cv_X2_121 (rc_7 B hw rfl) rfl hl.1 rfl rfl ⟨Nat.le_of_ble_eq_true rfl, Nat.le_of_ble_eq_true rfl⟩ (Nat.le_of_ble_eq_true rfl) ⟨Nat.le_of_ble_eq_true rfl, Nat.le_of_ble_eq_true rfl⟩ dX2_takeBack_51 rfl (fun H locs hw => ?_)
    refine lv_goto (tgt := 105) hx hb dX2_takeBack_54 (by decide) ?_
    cases hf
    subst hQ
    exact q_vret B hr hlk hw rfl dX2_takeBack_105
  · have hf := ie_e hf c_3
    by_cases c_6 : (M 123 p1.toNatClampNeg) = 1
    · have hf := it_e hf c_6
      refine lv_lookup (tgt := 57) hx hb dX2_takeBack_13 (by decide) (by rw [c_6] <;> rfl) (by decide) ?_
      refine lv_aload_n hx hb dX2_takeBack_57 rfl (lv_at hl 1 rfl) ?_
      refine gt_X2_41 B hw (i := 122) rfl dX2_takeBack_58 ?_
      refine lv_iload_n hx hb dX2_takeBack_61 rfl (lv_at hl 0 rfl) ?_
      refine lv_aload_n hx hb dX2_takeBack_62 rfl (lv_at hl 1 rfl) ?_
      refine gt_X2_25 B hw (i := 122) rfl dX2_takeBack_63 ?_
      refine lv_iload_n hx hb dX2_takeBack_66 rfl (lv_at hl 2 rfl) ?_
      refine c_iald B hw (i := 127) rfl g_1 dX2_takeBack_67 ?_
      refine lv_aload_n hx hb dX2_takeBack_68 rfl (lv_at hl 1 rfl) ?_
      refine gt_X2_18 B hw (i := 122) rfl dX2_takeBack_69 ?_
      refine lv_iload_n hx hb dX2_takeBack_72 rfl (lv_at hl 2 rfl) ?_
      refine lv_iconst (v := 4) hx hb dX2_takeBack_73 (by decide) ?_
      refine lv_imul hx hb dX2_takeBack_74 ?_
      refine lv_iconst (v := 1) hx hb dX2_takeBack_75 (by decide) ?_
      refine lv_iadd hx hb dX2_takeBack_76 ?_
      obtain ⟨g_7, hf⟩ := grd_e hf
      refine c_iald B hw (i := 125) rfl g_7 dX2_takeBack_77 ?_
      refine lv_aload_n hx hb dX2_takeBack_78 rfl (lv_at hl 1 rfl) ?_
      refine gt_X2_28 B hw (i := 122) rfl dX2_takeBack_79 ?_
      refine lv_iload_n hx hb dX2_takeBack_82 rfl (lv_at hl 2 rfl) ?_
      refine c_iald B hw (i := 128) rfl g_1 dX2_takeBack_83 ?_
      obtain ⟨r_9, M_10, h_8, hf⟩ := bm_e hf
      refine q_callVi (M' := M_10) (i := 57) (As := [.int x2_2, .int (M 127 p1.toNatClampNeg), .int (M 125 ((p1 * 4) + 1).toNatClampNeg), .int (M 128 p1.toNatClampNeg)]) (rest := []) B hw (c_X7_changeCell l X fu x2_2 (M 127 p1.toNatClampNeg) (M 125 ((p1 * 4) + 1).toNatClampNeg) (M 128 p1.toNatClampNeg) M (r_9, M_10) h_8 _) cv_X2_109 (rc_7 B hw rfl) rfl hl.1 rfl rfl ⟨Nat.le_of_ble_eq_true rfl, Nat.le_of_ble_eq_true rfl⟩ (Nat.le_of_ble_eq_true rfl) ⟨Nat.le_of_ble_eq_true rfl, Nat.le_of_ble_eq_true rfl⟩ dX2_takeBack_84 rfl (fun H locs hw => ?_)
      refine lv_pop hx hb dX2_takeBack_87 rfl ?_
      refine lv_goto (tgt := 105) hx hb dX2_takeBack_88 (by decide) ?_
      cases hf
      subst hQ
      exact q_vret B hr hlk hw rfl dX2_takeBack_105
    · have hf := ie_e hf c_6
      have hne : (M 123 p1.toNatClampNeg).toInt ≠ 0 ∧ (M 123 p1.toNatClampNeg).toInt ≠ 1 := ⟨(fun z => c_3 (Int32.toInt_inj.mp z)), (fun z => c_6 (Int32.toInt_inj.mp z))⟩
      refine lv_lookup (off := 78) (tgt := 91) hx hb dX2_takeBack_13 (by decide) (by simp [Op.lookupswitch.offset, hne.1, hne.2, Ne.symm hne.1, Ne.symm hne.2]) (by decide) ?_
      refine lv_aload_n hx hb dX2_takeBack_91 rfl (lv_at hl 1 rfl) ?_
      refine gt_X2_41 B hw (i := 122) rfl dX2_takeBack_92 ?_
      refine lv_iload_n hx hb dX2_takeBack_95 rfl (lv_at hl 0 rfl) ?_
      refine lv_aload_n hx hb dX2_takeBack_96 rfl (lv_at hl 1 rfl) ?_
      refine gt_X2_33 B hw (i := 122) rfl dX2_takeBack_97 ?_
      refine lv_iload_n hx hb dX2_takeBack_100 rfl (lv_at hl 2 rfl) ?_
      refine c_aldR B hw (i := 129) rfl g_1 dX2_takeBack_101 ?_
      refine r_topk (kV rfl g_1) hf (fun a_11 ha_11 hf => ?_)
      obtain ⟨M_13, h_12, hf⟩ := bd_e hf
      refine q_callVv (M' := M_13) (i := 57) (As := [.int x2_2, .ref (X.2.2 a_11)]) (rest := []) B hw (c_X7_bringBack l X fu x2_2 a_11 M ha_11 M_13 h_12 _) cv_X2_128 (rc_7 B hw rfl) rfl hl.1 rfl rfl ⟨Nat.le_of_ble_eq_true rfl, Nat.le_of_ble_eq_true rfl⟩ (Nat.le_of_ble_eq_true rfl) ⟨Nat.le_of_ble_eq_true rfl, Nat.le_of_ble_eq_true rfl⟩ dX2_takeBack_102 rfl (fun H locs hw => ?_)
      cases hf
      subst hQ
      exact q_vret B hr hlk hw rfl dX2_takeBack_105
abbrev rm_X2_takeAllBack : Room := { frames := 5, cells := 0, slots := 0, locals := 122 }
set_option maxRecDepth 100000 in
set_option maxHeartbeats 4000000 in
theorem c_X2_takeAllBack (l : Launch) (X : XT) (fu : Nat) (p1 : Int32) (M : Mem)  (rs : Mem) (hf : f_X2_takeAllBack fu p1 M = some rs) (sz : Nat) : Met l yX2_takeAllBack (wbig yX2_takeAllBack cX2_takeAllBack 3 none) rm_X2_takeAllBack (va_Pc [.ref (X.2.2 122), .int p1] (PW LC X M sz)) (QV LC X rs sz) 0 0 (AX LC X sz) := by
  refine met_go (L := LC) (M := M) (by decide +kernel) (Nat.le_of_ble_eq_true rfl) ?_
  intro p e s m args below meth c hsz B hr hlk hw ls hl
  subst hsz
  have hx := B.hx
  have hb := B.hb
  have hl : lv_has ls 3 [(0, .ref (X.2.2 122)), (1, .int p1)] := hl
  generalize hQ : MQ below _ args s 0 0 (AX LC X s.heap.size) = Q
  unfold f_X2_takeAllBack at hf
  refine lv_iload_n hx hb dX2_takeAllBack_0 rfl (lv_at hl 1 rfl) ?_
  refine lv_istore_n (lv' := [(2, .int p1), (0, .ref (X.2.2 122)), (1, .int p1)]) hx hb dX2_takeAllBack_1 rfl hl (by decide) rfl (fun ls hl => ?_)
  have hL_2 : ∀ (n_2 : Nat) (x2_1 : Int32) (M_2 : Mem) (H : Heap) (locs : List Loc) (ls : Array Slot), HW LC X M_2 s H locs → lv_has ls 3 [(0, .ref (X.2.2 122)), (2, .int x2_1)] → f_X2_takeAllBack_L2 fu n_2 x2_1 M_2 = some rs → W p l e rm_X2_takeAllBack s m args below meth c H locs 0 0 Q (F0 m 2 ls []) := by
    intro n_2
    induction n_2 with
    | zero => intro x2_1 M_2 H locs ls hw hl hf; exact no_none hf
    | succ n_2 ih_2 =>
      intro x2_1 M_2 H locs ls hw hl hf
      rw [f_X2_takeAllBack_L2] at hf
      refine lv_iload_n hx hb dX2_takeAllBack_2 rfl (lv_at hl 1 rfl) ?_
      refine lv_if_lt (tgt := 26) hx hb dX2_takeAllBack_3 (by decide) (fun c_3 => ?_) (fun c_3 => ?_)
      · have hf := it_e hf c_3
        cases hf
        subst hQ
        exact q_vret B hr hlk hw rfl dX2_takeAllBack_26
      · have hf := ie_e hf c_3
        refine lv_aload_n hx hb dX2_takeAllBack_6 rfl (lv_at hl 0 rfl) ?_
        refine gt_X2_21 B hw (i := 122) rfl dX2_takeAllBack_7 ?_
        refine lv_iload_n hx hb dX2_takeAllBack_10 rfl (lv_at hl 1 rfl) ?_
        obtain ⟨g_4, hf⟩ := grd_e hf
        refine c_zald B hw (i := 126) rfl g_4 dX2_takeAllBack_11 ?_
        refine lv_if_eq (tgt := 20) hx hb dX2_takeAllBack_12 (by decide) (fun c_5 => ?_) (fun c_5 => ?_)
        · have hf := it_e hf c_5
          refine r_iinc (v := (x2_1 + (-1))) hx hb dX2_takeAllBack_20 hl (k := 1) rfl rfl (by decide) hf (fun x2_6 ls hl hf => ?_)
          have hl : lv_has ls 3 [(2, .int x2_6), (0, .ref (X.2.2 122))] := hl
          refine lv_goto (tgt := 2) hx hb dX2_takeAllBack_23 (by decide) ?_
          exact ih_2 x2_6 M_2 _ _ _ hw (lv_sub hl [1, 0] rfl) hf
        · have hf := ie_e hf c_5
          refine lv_aload_n hx hb dX2_takeAllBack_15 rfl (lv_at hl 0 rfl) ?_
          refine lv_iload_n hx hb dX2_takeAllBack_16 rfl (lv_at hl 1 rfl) ?_
          obtain ⟨M_8, h_7, hf⟩ := bd_e hf
          refine q_callVv (M' := M_8) (i := 122) (As := [.int x2_1]) (rest := []) B hw (c_X2_takeBack l X fu x2_1 M_2 M_8 h_7 _) cv_X2_125 (rc_2 B hw rfl) rfl hl.1 rfl rfl ⟨Nat.le_of_ble_eq_true rfl, Nat.le_of_ble_eq_true rfl⟩ (Nat.le_of_ble_eq_true rfl) ⟨Nat.le_of_ble_eq_true rfl, Nat.le_of_ble_eq_true rfl⟩ dX2_takeAllBack_17 rfl (fun H locs hw => ?_)
          refine r_iinc (v := (x2_1 + (-1))) hx hb dX2_takeAllBack_20 hl (k := 1) rfl rfl (by decide) hf (fun x2_9 ls hl hf => ?_)
          have hl : lv_has ls 3 [(2, .int x2_9), (0, .ref (X.2.2 122))] := hl
          refine lv_goto (tgt := 2) hx hb dX2_takeAllBack_23 (by decide) ?_
          exact ih_2 x2_9 M_8 _ _ _ hw (lv_sub hl [1, 0] rfl) hf
  exact hL_2 fu p1 M _ _ _ hw (lv_sub hl [1, 0] rfl) hf
abbrev rm_X2_runSteps : Room := { frames := 6, cells := 0, slots := 0, locals := 148 }
set_option maxRecDepth 100000 in
set_option maxHeartbeats 4000000 in
theorem c_X2_runSteps (l : Launch) (X : XT) (fu : Nat) (M : Mem)  (rs : (Int32 × Mem)) (hf : f_X2_runSteps fu M = some rs) (sz : Nat) : Met l yX2_runSteps (wbig yX2_runSteps cX2_runSteps 3 (some .int)) rm_X2_runSteps (va_Pc [.ref (X.2.2 122)] (PW LC X M sz)) (QI LC X rs.2 rs.1 sz) 0 0 (AX LC X sz) := by
  refine met_go (L := LC) (M := M) (by decide +kernel) (Nat.le_of_ble_eq_true rfl) ?_
  intro p e s m args below meth c hsz B hr hlk hw ls hl
  subst hsz
  have hx := B.hx
  have hb := B.hb
  have hl : lv_has ls 3 [(0, .ref (X.2.2 122))] := hl
  generalize hQ : MQ below _ args s 0 0 (AX LC X s.heap.size) = Q
  unfold f_X2_runSteps at hf
  refine lv_aload_n hx hb dX2_runSteps_0 rfl (lv_at hl 0 rfl) ?_
  refine gt_X2_46 B hw (i := 122) rfl dX2_runSteps_1 ?_
  refine r_topn hf (fun x1_1 hf => ?_)
  refine lv_istore_n (lv' := [(1, .int x1_1), (0, .ref (X.2.2 122))]) hx hb dX2_runSteps_4 rfl hl (by decide) rfl (fun ls hl => ?_)
  refine lv_aload_n hx hb dX2_runSteps_5 rfl (lv_at hl 1 rfl) ?_
  refine lv_iconst (v := 0) hx hb dX2_runSteps_6 (by decide) ?_
  refine pt_X2_46 B hw (i := 122) rfl dX2_runSteps_7 hf (fun M_2 H locs hw hf => ?_)
  refine lv_iconst (v := 0) hx hb dX2_runSteps_10 (by decide) ?_
  refine lv_istore_n (lv' := [(2, .int 0), (1, .int x1_1), (0, .ref (X.2.2 122))]) hx hb dX2_runSteps_11 rfl hl (by decide) rfl (fun ls hl => ?_)
  have hL_12 : ∀ (n_12 : Nat) (x2_3 : Int32) (M_4 : Mem) (H : Heap) (locs : List Loc) (ls : Array Slot), HW LC X M_4 s H locs → lv_has ls 3 [(0, .ref (X.2.2 122)), (1, .int x1_1), (2, .int x2_3)] → f_X2_runSteps_L12 fu x1_1 n_12 x2_3 M_4 = some rs → W p l e rm_X2_runSteps s m args below meth c H locs 0 0 Q (F0 m 12 ls []) := by
    intro n_12
    induction n_12 with
    | zero => intro x2_3 M_4 H locs ls hw hl hf; exact no_none hf
    | succ n_12 ih_12 =>
      intro x2_3 M_4 H locs ls hw hl hf
      rw [f_X2_runSteps_L12] at hf
      refine lv_iload_n hx hb dX2_runSteps_12 rfl (lv_at hl 2 rfl) ?_
      refine lv_iload_n hx hb dX2_runSteps_13 rfl (lv_at hl 1 rfl) ?_
      refine lv_icmp_ge (tgt := 38) hx hb dX2_runSteps_14 (by decide) (fun c_5 => ?_) (fun c_5 => ?_)
      · have hf := it_e hf c_5
        refine lv_iconst (v := (-1)) hx hb dX2_runSteps_38 (by decide) ?_
        cases hf
        subst hQ
        exact q_iret B hr hlk hw rfl rfl dX2_runSteps_39
      · have hf := ie_e hf c_5
        refine lv_aload_n hx hb dX2_runSteps_17 rfl (lv_at hl 0 rfl) ?_
        refine lv_iload_n hx hb dX2_runSteps_18 rfl (lv_at hl 2 rfl) ?_
        obtain ⟨r_7, M_8, h_6, hf⟩ := bm_e hf
        refine q_callVi (M' := M_8) (i := 122) (As := [.int x2_3]) (rest := []) B hw (c_X2_request l X fu x2_3 M_4 (r_7, M_8) h_6 _) cv_X2_50 (rc_2 B hw rfl) rfl hl.1 rfl rfl ⟨Nat.le_of_ble_eq_true rfl, Nat.le_of_ble_eq_true rfl⟩ (Nat.le_of_ble_eq_true rfl) ⟨Nat.le_of_ble_eq_true rfl, Nat.le_of_ble_eq_true rfl⟩ dX2_runSteps_19 rfl (fun H locs hw => ?_)
        refine lv_if_ne (tgt := 32) hx hb dX2_runSteps_22 (by decide) (fun c_9 => ?_) (fun c_9 => ?_)
        · have hf := ie_e hf c_9
          refine r_iinc (v := (x2_3 + 1)) hx hb dX2_runSteps_32 hl (k := 2) rfl rfl (by decide) hf (fun x2_10 ls hl hf => ?_)
          have hl : lv_has ls 3 [(2, .int x2_10), (0, .ref (X.2.2 122)), (1, .int x1_1)] := hl
          refine lv_goto (tgt := 12) hx hb dX2_runSteps_35 (by decide) ?_
          exact ih_12 x2_10 M_8 _ _ _ hw (lv_sub hl [1, 2, 0] rfl) hf
        · have hf := it_e hf c_9
          refine lv_aload_n hx hb dX2_runSteps_25 rfl (lv_at hl 0 rfl) ?_
          refine lv_iload_n hx hb dX2_runSteps_26 rfl (lv_at hl 2 rfl) ?_
          obtain ⟨M_12, h_11, hf⟩ := bd_e hf
          refine q_callVv (M' := M_12) (i := 122) (As := [.int x2_3]) (rest := []) B hw (c_X2_takeAllBack l X fu x2_3 M_8 M_12 h_11 _) cv_X2_54 (rc_2 B hw rfl) rfl hl.1 rfl rfl ⟨Nat.le_of_ble_eq_true rfl, Nat.le_of_ble_eq_true rfl⟩ (Nat.le_of_ble_eq_true rfl) ⟨Nat.le_of_ble_eq_true rfl, Nat.le_of_ble_eq_true rfl⟩ dX2_runSteps_27 rfl (fun H locs hw => ?_)
          refine lv_iload_n hx hb dX2_runSteps_30 rfl (lv_at hl 2 rfl) ?_
          cases hf
          subst hQ
          exact q_iret B hr hlk hw rfl rfl dX2_runSteps_31
  exact hL_12 fu 0 M_2 _ _ _ hw (lv_sub hl [2, 1, 0] rfl) hf
abbrev rm_X4_hasColumn : Room := { frames := 1, cells := 0, slots := 0, locals := 20 }
set_option maxRecDepth 100000 in
set_option maxHeartbeats 4000000 in
theorem c_X4_hasColumn (l : Launch) (X : XT) (fu : Nat) (p1 : Int32) (p2 : Int32) (M : Mem)  (rs : Int32) (hf : f_X4_hasColumn fu p1 p2 M = some rs) (sz : Nat) : Met l yX4_hasColumn (wbig yX4_hasColumn cX4_hasColumn 3 (some .boolean)) rm_X4_hasColumn (va_Pc [.ref (X.2.2 80), .int p1, .int p2] (PW LC X M sz)) (QI LC X M rs sz) 0 0 (AX LC X sz) := by
  refine met_go (L := LC) (M := M) (by decide +kernel) (Nat.le_of_ble_eq_true rfl) ?_
  intro p e s m args below meth c hsz B hr hlk hw ls hl
  subst hsz
  have hx := B.hx
  have hb := B.hb
  have hl : lv_has ls 3 [(0, .ref (X.2.2 80)), (1, .int p1), (2, .int p2)] := hl
  generalize hQ : MQ below _ args s 0 0 (AX LC X s.heap.size) = Q
  unfold f_X4_hasColumn at hf
  refine lv_iload_n hx hb dX4_hasColumn_0 rfl (lv_at hl 1 rfl) ?_
  refine lv_if_lt (tgt := 36) hx hb dX4_hasColumn_1 (by decide) (fun c_1 => ?_) (fun c_1 => ?_)
  · have hf := it_e hf c_1
    refine lv_iconst (v := 0) hx hb dX4_hasColumn_36 (by decide) ?_
    cases hf
    subst hQ
    exact q_zret B hr hlk rfl hw rfl rfl dX4_hasColumn_37
  · have hf := ie_e hf c_1
    refine lv_iload_n hx hb dX4_hasColumn_4 rfl (lv_at hl 1 rfl) ?_
    refine lv_aload_n hx hb dX4_hasColumn_5 rfl (lv_at hl 0 rfl) ?_
    refine gt_X4_43 B hw (i := 80) rfl dX4_hasColumn_6 ?_
    refine lv_icmp_ge (tgt := 36) hx hb dX4_hasColumn_9 (by decide) (fun c_2 => ?_) (fun c_2 => ?_)
    · have hf := it_e hf c_2
      refine lv_iconst (v := 0) hx hb dX4_hasColumn_36 (by decide) ?_
      cases hf
      subst hQ
      exact q_zret B hr hlk rfl hw rfl rfl dX4_hasColumn_37
    · have hf := ie_e hf c_2
      refine lv_iload_n hx hb dX4_hasColumn_12 rfl (lv_at hl 2 rfl) ?_
      refine lv_if_lt (tgt := 36) hx hb dX4_hasColumn_13 (by decide) (fun c_3 => ?_) (fun c_3 => ?_)
      · have hf := it_e hf c_3
        refine lv_iconst (v := 0) hx hb dX4_hasColumn_36 (by decide) ?_
        cases hf
        subst hQ
        exact q_zret B hr hlk rfl hw rfl rfl dX4_hasColumn_37
      · have hf := ie_e hf c_3
        refine lv_iload_n hx hb dX4_hasColumn_16 rfl (lv_at hl 2 rfl) ?_
        refine lv_aload_n hx hb dX4_hasColumn_17 rfl (lv_at hl 0 rfl) ?_
        refine gt_X4_9 B hw (i := 80) rfl dX4_hasColumn_18 ?_
        refine lv_iload_n hx hb dX4_hasColumn_21 rfl (lv_at hl 1 rfl) ?_
        obtain ⟨g_4, hf⟩ := grd_e hf
        refine c_iald B hw (i := 81) rfl g_4 dX4_hasColumn_22 ?_
        refine q_callNi (M' := M) (As := [.int (M 81 p1.toNatClampNeg)]) (rest := [.int p2]) B hw (c_X10_storeOf l X (M 81 p1.toNatClampNeg) _ rfl M _) cn_X4_46 rfl hl.1 rfl rfl ⟨Nat.le_of_ble_eq_true rfl, Nat.le_of_ble_eq_true rfl⟩ (Nat.le_of_ble_eq_true rfl) ⟨Nat.le_of_ble_eq_true rfl, Nat.le_of_ble_eq_true rfl⟩ dX4_hasColumn_23 rfl (fun H locs hw => ?_)
        refine q_callNi (M' := M) (As := [.int (f_X10_storeOf (M 81 p1.toNatClampNeg))]) (rest := [.int p2]) B hw (c_X10_columnsIn l X (f_X10_storeOf (M 81 p1.toNatClampNeg)) _ rfl M _) cn_X4_50 rfl hl.1 rfl rfl ⟨Nat.le_of_ble_eq_true rfl, Nat.le_of_ble_eq_true rfl⟩ (Nat.le_of_ble_eq_true rfl) ⟨Nat.le_of_ble_eq_true rfl, Nat.le_of_ble_eq_true rfl⟩ dX4_hasColumn_26 rfl (fun H locs hw => ?_)
        refine lv_icmp_ge (tgt := 36) hx hb dX4_hasColumn_29 (by decide) (fun c_5 => ?_) (fun c_5 => ?_)
        · have hf := it_e hf c_5
          refine lv_iconst (v := 0) hx hb dX4_hasColumn_36 (by decide) ?_
          cases hf
          subst hQ
          exact q_zret B hr hlk rfl hw rfl rfl dX4_hasColumn_37
        · have hf := ie_e hf c_5
          refine lv_iconst (v := 1) hx hb dX4_hasColumn_32 (by decide) ?_
          refine lv_goto (tgt := 37) hx hb dX4_hasColumn_33 (by decide) ?_
          cases hf
          subst hQ
          exact q_zret B hr hlk rfl hw rfl rfl dX4_hasColumn_37
abbrev rm_X4_isQuery : Room := { frames := 0, cells := 0, slots := 0, locals := 0 }
set_option maxRecDepth 100000 in
set_option maxHeartbeats 4000000 in
theorem c_X4_isQuery (l : Launch) (X : XT) (fu : Nat) (M : Mem)  (rs : Int32) (hf : f_X4_isQuery fu M = some rs) (sz : Nat) : Met l yX4_isQuery (wbig yX4_isQuery cX4_isQuery 1 (some .boolean)) rm_X4_isQuery (va_Pc [.ref (X.2.2 80)] (PW LC X M sz)) (QI LC X M rs sz) 0 0 (AX LC X sz) := by
  refine met_go (L := LC) (M := M) (by decide +kernel) (Nat.le_of_ble_eq_true rfl) ?_
  intro p e s m args below meth c hsz B hr hlk hw ls hl
  subst hsz
  have hx := B.hx
  have hb := B.hb
  have hl : lv_has ls 1 [(0, .ref (X.2.2 80))] := hl
  generalize hQ : MQ below _ args s 0 0 (AX LC X s.heap.size) = Q
  unfold f_X4_isQuery at hf
  refine lv_aload_n hx hb dX4_isQuery_0 rfl (lv_at hl 0 rfl) ?_
  refine gt_X4_43 B hw (i := 80) rfl dX4_isQuery_1 ?_
  refine lv_if_le (tgt := 18) hx hb dX4_isQuery_4 (by decide) (fun c_1 => ?_) (fun c_1 => ?_)
  · have hf := it_e hf c_1
    refine lv_iconst (v := 0) hx hb dX4_isQuery_18 (by decide) ?_
    cases hf
    subst hQ
    exact q_zret B hr hlk rfl hw rfl rfl dX4_isQuery_19
  · have hf := ie_e hf c_1
    refine lv_aload_n hx hb dX4_isQuery_7 rfl (lv_at hl 0 rfl) ?_
    refine gt_X4_53 B hw (i := 80) rfl dX4_isQuery_8 ?_
    refine lv_if_le (tgt := 18) hx hb dX4_isQuery_11 (by decide) (fun c_2 => ?_) (fun c_2 => ?_)
    · have hf := it_e hf c_2
      refine lv_iconst (v := 0) hx hb dX4_isQuery_18 (by decide) ?_
      cases hf
      subst hQ
      exact q_zret B hr hlk rfl hw rfl rfl dX4_isQuery_19
    · have hf := ie_e hf c_2
      refine lv_iconst (v := 1) hx hb dX4_isQuery_14 (by decide) ?_
      refine lv_goto (tgt := 19) hx hb dX4_isQuery_15 (by decide) ?_
      cases hf
      subst hQ
      exact q_zret B hr hlk rfl hw rfl rfl dX4_isQuery_19
abbrev rm_X4_addSeat : Room := { frames := 0, cells := 0, slots := 0, locals := 0 }
set_option maxRecDepth 100000 in
set_option maxHeartbeats 4000000 in
theorem c_X4_addSeat (l : Launch) (X : XT) (fu : Nat) (p1 : Int32) (M : Mem)  (rs : (Int32 × Mem)) (hf : f_X4_addSeat fu p1 M = some rs) (sz : Nat) : Met l yX4_addSeat (wbig yX4_addSeat cX4_addSeat 2 (some .int)) rm_X4_addSeat (va_Pc [.ref (X.2.2 80), .int p1] (PW LC X M sz)) (QI LC X rs.2 rs.1 sz) 0 0 (AX LC X sz) := by
  refine met_go (L := LC) (M := M) (by decide +kernel) (Nat.le_of_ble_eq_true rfl) ?_
  intro p e s m args below meth c hsz B hr hlk hw ls hl
  subst hsz
  have hx := B.hx
  have hb := B.hb
  have hl : lv_has ls 2 [(0, .ref (X.2.2 80)), (1, .int p1)] := hl
  generalize hQ : MQ below _ args s 0 0 (AX LC X s.heap.size) = Q
  unfold f_X4_addSeat at hf
  refine lv_aload_n hx hb dX4_addSeat_0 rfl (lv_at hl 0 rfl) ?_
  refine gt_X4_9 B hw (i := 80) rfl dX4_addSeat_1 ?_
  refine lv_aload_n hx hb dX4_addSeat_4 rfl (lv_at hl 0 rfl) ?_
  refine gt_X4_43 B hw (i := 80) rfl dX4_addSeat_5 ?_
  refine lv_iload_n hx hb dX4_addSeat_8 rfl (lv_at hl 1 rfl) ?_
  obtain ⟨g_1, hf⟩ := grd_e hf
  refine c_iast B hw (i := 81) rfl g_1 dX4_addSeat_9 hf (fun M_2 H locs hw hf => ?_)
  refine lv_aload_n hx hb dX4_addSeat_10 rfl (lv_at hl 0 rfl) ?_
  refine lv_dup hx hb dX4_addSeat_11 rfl ?_
  refine gt_X4_43 B hw (i := 80) rfl dX4_addSeat_12 ?_
  refine lv_iconst (v := 1) hx hb dX4_addSeat_15 (by decide) ?_
  refine lv_iadd hx hb dX4_addSeat_16 ?_
  refine pt_X4_43 B hw (i := 80) rfl dX4_addSeat_17 hf (fun M_3 H locs hw hf => ?_)
  refine lv_aload_n hx hb dX4_addSeat_20 rfl (lv_at hl 0 rfl) ?_
  refine gt_X4_43 B hw (i := 80) rfl dX4_addSeat_21 ?_
  refine lv_iconst (v := 1) hx hb dX4_addSeat_24 (by decide) ?_
  refine lv_isub hx hb dX4_addSeat_25 ?_
  cases hf
  subst hQ
  exact q_iret B hr hlk hw rfl rfl dX4_addSeat_26
abbrev rm_X4_addLink : Room := { frames := 0, cells := 0, slots := 0, locals := 0 }
set_option maxRecDepth 100000 in
set_option maxHeartbeats 4000000 in
theorem c_X4_addLink (l : Launch) (X : XT) (fu : Nat) (p1 : Int32) (p2 : Int32) (p3 : Int32) (p4 : Int32) (M : Mem)  (rs : (Int32 × Mem)) (hf : f_X4_addLink fu p1 p2 p3 p4 M = some rs) (sz : Nat) : Met l yX4_addLink (wbig yX4_addLink cX4_addLink 6 (some .int)) rm_X4_addLink (va_Pc [.ref (X.2.2 80), .int p1, .int p2, .int p3, .int p4] (PW LC X M sz)) (QI LC X rs.2 rs.1 sz) 0 0 (AX LC X sz) := by
  refine met_go (L := LC) (M := M) (by decide +kernel) (Nat.le_of_ble_eq_true rfl) ?_
  intro p e s m args below meth c hsz B hr hlk hw ls hl
  subst hsz
  have hx := B.hx
  have hb := B.hb
  have hl : lv_has ls 6 [(0, .ref (X.2.2 80)), (1, .int p1), (2, .int p2), (3, .int p3), (4, .int p4)] := hl
  generalize hQ : MQ below _ args s 0 0 (AX LC X s.heap.size) = Q
  unfold f_X4_addLink at hf
  refine lv_iconst (v := 2) hx hb dX4_addLink_0 (by decide) ?_
  refine lv_aload_n hx hb dX4_addLink_1 rfl (lv_at hl 0 rfl) ?_
  refine gt_X4_56 B hw (i := 80) rfl dX4_addLink_2 ?_
  refine lv_imul hx hb dX4_addLink_5 ?_
  refine r_topn hf (fun x5_1 hf => ?_)
  refine lv_istore (lv' := [(5, .int x5_1), (0, .ref (X.2.2 80)), (1, .int p1), (2, .int p2), (3, .int p3), (4, .int p4)]) hx hb dX4_addLink_6 hl (by decide) rfl (fun ls hl => ?_)
  refine lv_aload_n hx hb dX4_addLink_8 rfl (lv_at hl 1 rfl) ?_
  refine gt_X4_15 B hw (i := 80) rfl dX4_addLink_9 ?_
  refine lv_iload hx hb dX4_addLink_12 (lv_at hl 0 rfl) ?_
  refine lv_iload_n hx hb dX4_addLink_14 rfl (lv_at hl 2 rfl) ?_
  obtain ⟨g_2, hf⟩ := grd_e hf
  refine c_iast B hw (i := 82) rfl g_2 dX4_addLink_15 hf (fun M_3 H locs hw hf => ?_)
  refine lv_aload_n hx hb dX4_addLink_16 rfl (lv_at hl 1 rfl) ?_
  refine gt_X4_18 B hw (i := 80) rfl dX4_addLink_17 ?_
  refine lv_iload hx hb dX4_addLink_20 (lv_at hl 0 rfl) ?_
  refine lv_iload_n hx hb dX4_addLink_22 rfl (lv_at hl 3 rfl) ?_
  refine c_iast B hw (i := 83) rfl g_2 dX4_addLink_23 hf (fun M_4 H locs hw hf => ?_)
  refine lv_aload_n hx hb dX4_addLink_24 rfl (lv_at hl 1 rfl) ?_
  refine gt_X4_15 B hw (i := 80) rfl dX4_addLink_25 ?_
  refine lv_iload hx hb dX4_addLink_28 (lv_at hl 0 rfl) ?_
  refine lv_iconst (v := 1) hx hb dX4_addLink_30 (by decide) ?_
  refine lv_iadd hx hb dX4_addLink_31 ?_
  refine lv_iload_n hx hb dX4_addLink_32 rfl (lv_at hl 4 rfl) ?_
  obtain ⟨g_5, hf⟩ := grd_e hf
  refine c_iast B hw (i := 82) rfl g_5 dX4_addLink_33 hf (fun M_6 H locs hw hf => ?_)
  refine lv_aload_n hx hb dX4_addLink_34 rfl (lv_at hl 1 rfl) ?_
  refine gt_X4_18 B hw (i := 80) rfl dX4_addLink_35 ?_
  refine lv_iload hx hb dX4_addLink_38 (lv_at hl 0 rfl) ?_
  refine lv_iconst (v := 1) hx hb dX4_addLink_40 (by decide) ?_
  refine lv_iadd hx hb dX4_addLink_41 ?_
  refine lv_iload hx hb dX4_addLink_42 (lv_at hl 5 rfl) ?_
  refine c_iast B hw (i := 83) rfl g_5 dX4_addLink_44 hf (fun M_7 H locs hw hf => ?_)
  refine lv_aload_n hx hb dX4_addLink_45 rfl (lv_at hl 1 rfl) ?_
  refine lv_dup hx hb dX4_addLink_46 rfl ?_
  refine gt_X4_56 B hw (i := 80) rfl dX4_addLink_47 ?_
  refine lv_iconst (v := 1) hx hb dX4_addLink_50 (by decide) ?_
  refine lv_iadd hx hb dX4_addLink_51 ?_
  refine pt_X4_56 B hw (i := 80) rfl dX4_addLink_52 hf (fun M_8 H locs hw hf => ?_)
  refine lv_aload_n hx hb dX4_addLink_55 rfl (lv_at hl 1 rfl) ?_
  refine gt_X4_56 B hw (i := 80) rfl dX4_addLink_56 ?_
  cases hf
  subst hQ
  exact q_iret B hr hlk hw rfl rfl dX4_addLink_59
abbrev rm_X4_addCondition : Room := { frames := 0, cells := 0, slots := 0, locals := 0 }
set_option maxRecDepth 100000 in
set_option maxHeartbeats 4000000 in
theorem c_X4_addCondition (l : Launch) (X : XT) (fu : Nat) (p1 : Int32) (p2 : Int32) (p3 : Int32) (p4 : Int32) (M : Mem)  (rs : (Int32 × Mem)) (hf : f_X4_addCondition fu p1 p2 p3 p4 M = some rs) (sz : Nat) : Met l yX4_addCondition (wbig yX4_addCondition cX4_addCondition 5 (some .int)) rm_X4_addCondition (va_Pc [.ref (X.2.2 80), .int p1, .int p2, .int p3, .int p4] (PW LC X M sz)) (QI LC X rs.2 rs.1 sz) 0 0 (AX LC X sz) := by
  refine met_go (L := LC) (M := M) (by decide +kernel) (Nat.le_of_ble_eq_true rfl) ?_
  intro p e s m args below meth c hsz B hr hlk hw ls hl
  subst hsz
  have hx := B.hx
  have hb := B.hb
  have hl : lv_has ls 5 [(0, .ref (X.2.2 80)), (1, .int p1), (2, .int p2), (3, .int p3), (4, .int p4)] := hl
  generalize hQ : MQ below _ args s 0 0 (AX LC X s.heap.size) = Q
  unfold f_X4_addCondition at hf
  refine lv_aload_n hx hb dX4_addCondition_0 rfl (lv_at hl 0 rfl) ?_
  refine gt_X4_21 B hw (i := 80) rfl dX4_addCondition_1 ?_
  refine lv_aload_n hx hb dX4_addCondition_4 rfl (lv_at hl 0 rfl) ?_
  refine gt_X4_59 B hw (i := 80) rfl dX4_addCondition_5 ?_
  refine lv_iload_n hx hb dX4_addCondition_8 rfl (lv_at hl 1 rfl) ?_
  obtain ⟨g_1, hf⟩ := grd_e hf
  refine c_iast B hw (i := 84) rfl g_1 dX4_addCondition_9 hf (fun M_2 H locs hw hf => ?_)
  refine lv_aload_n hx hb dX4_addCondition_10 rfl (lv_at hl 0 rfl) ?_
  refine gt_X4_24 B hw (i := 80) rfl dX4_addCondition_11 ?_
  refine lv_aload_n hx hb dX4_addCondition_14 rfl (lv_at hl 0 rfl) ?_
  refine gt_X4_59 B hw (i := 80) rfl dX4_addCondition_15 ?_
  refine lv_iload_n hx hb dX4_addCondition_18 rfl (lv_at hl 2 rfl) ?_
  obtain ⟨g_3, hf⟩ := grd_e hf
  refine c_iast B hw (i := 85) rfl g_3 dX4_addCondition_19 hf (fun M_4 H locs hw hf => ?_)
  refine lv_aload_n hx hb dX4_addCondition_20 rfl (lv_at hl 0 rfl) ?_
  refine gt_X4_27 B hw (i := 80) rfl dX4_addCondition_21 ?_
  refine lv_aload_n hx hb dX4_addCondition_24 rfl (lv_at hl 0 rfl) ?_
  refine gt_X4_59 B hw (i := 80) rfl dX4_addCondition_25 ?_
  refine lv_iload_n hx hb dX4_addCondition_28 rfl (lv_at hl 3 rfl) ?_
  obtain ⟨g_5, hf⟩ := grd_e hf
  refine c_iast B hw (i := 86) rfl g_5 dX4_addCondition_29 hf (fun M_6 H locs hw hf => ?_)
  refine lv_aload_n hx hb dX4_addCondition_30 rfl (lv_at hl 0 rfl) ?_
  refine gt_X4_30 B hw (i := 80) rfl dX4_addCondition_31 ?_
  refine lv_aload_n hx hb dX4_addCondition_34 rfl (lv_at hl 0 rfl) ?_
  refine gt_X4_59 B hw (i := 80) rfl dX4_addCondition_35 ?_
  refine lv_iload hx hb dX4_addCondition_38 (lv_at hl 4 rfl) ?_
  obtain ⟨g_7, hf⟩ := grd_e hf
  refine c_iast B hw (i := 87) rfl g_7 dX4_addCondition_40 hf (fun M_8 H locs hw hf => ?_)
  refine lv_aload_n hx hb dX4_addCondition_41 rfl (lv_at hl 0 rfl) ?_
  refine lv_dup hx hb dX4_addCondition_42 rfl ?_
  refine gt_X4_59 B hw (i := 80) rfl dX4_addCondition_43 ?_
  refine lv_iconst (v := 1) hx hb dX4_addCondition_46 (by decide) ?_
  refine lv_iadd hx hb dX4_addCondition_47 ?_
  refine pt_X4_59 B hw (i := 80) rfl dX4_addCondition_48 hf (fun M_9 H locs hw hf => ?_)
  refine lv_aload_n hx hb dX4_addCondition_51 rfl (lv_at hl 0 rfl) ?_
  refine gt_X4_59 B hw (i := 80) rfl dX4_addCondition_52 ?_
  cases hf
  subst hQ
  exact q_iret B hr hlk hw rfl rfl dX4_addCondition_55
abbrev rm_X4_addOutput : Room := { frames := 0, cells := 0, slots := 0, locals := 0 }
set_option maxRecDepth 100000 in
set_option maxHeartbeats 4000000 in
theorem c_X4_addOutput (l : Launch) (X : XT) (fu : Nat) (p1 : Int32) (p2 : Int32) (M : Mem)  (rs : (Int32 × Mem)) (hf : f_X4_addOutput fu p1 p2 M = some rs) (sz : Nat) : Met l yX4_addOutput (wbig yX4_addOutput cX4_addOutput 3 (some .int)) rm_X4_addOutput (va_Pc [.ref (X.2.2 80), .int p1, .int p2] (PW LC X M sz)) (QI LC X rs.2 rs.1 sz) 0 0 (AX LC X sz) := by
  refine met_go (L := LC) (M := M) (by decide +kernel) (Nat.le_of_ble_eq_true rfl) ?_
  intro p e s m args below meth c hsz B hr hlk hw ls hl
  subst hsz
  have hx := B.hx
  have hb := B.hb
  have hl : lv_has ls 3 [(0, .ref (X.2.2 80)), (1, .int p1), (2, .int p2)] := hl
  generalize hQ : MQ below _ args s 0 0 (AX LC X s.heap.size) = Q
  unfold f_X4_addOutput at hf
  refine lv_aload_n hx hb dX4_addOutput_0 rfl (lv_at hl 0 rfl) ?_
  refine gt_X4_33 B hw (i := 80) rfl dX4_addOutput_1 ?_
  refine lv_aload_n hx hb dX4_addOutput_4 rfl (lv_at hl 0 rfl) ?_
  refine gt_X4_53 B hw (i := 80) rfl dX4_addOutput_5 ?_
  refine lv_iload_n hx hb dX4_addOutput_8 rfl (lv_at hl 1 rfl) ?_
  obtain ⟨g_1, hf⟩ := grd_e hf
  refine c_iast B hw (i := 88) rfl g_1 dX4_addOutput_9 hf (fun M_2 H locs hw hf => ?_)
  refine lv_aload_n hx hb dX4_addOutput_10 rfl (lv_at hl 0 rfl) ?_
  refine gt_X4_36 B hw (i := 80) rfl dX4_addOutput_11 ?_
  refine lv_aload_n hx hb dX4_addOutput_14 rfl (lv_at hl 0 rfl) ?_
  refine gt_X4_53 B hw (i := 80) rfl dX4_addOutput_15 ?_
  refine lv_iload_n hx hb dX4_addOutput_18 rfl (lv_at hl 2 rfl) ?_
  obtain ⟨g_3, hf⟩ := grd_e hf
  refine c_iast B hw (i := 89) rfl g_3 dX4_addOutput_19 hf (fun M_4 H locs hw hf => ?_)
  refine lv_aload_n hx hb dX4_addOutput_20 rfl (lv_at hl 0 rfl) ?_
  refine lv_dup hx hb dX4_addOutput_21 rfl ?_
  refine gt_X4_53 B hw (i := 80) rfl dX4_addOutput_22 ?_
  refine lv_iconst (v := 1) hx hb dX4_addOutput_25 (by decide) ?_
  refine lv_iadd hx hb dX4_addOutput_26 ?_
  refine pt_X4_53 B hw (i := 80) rfl dX4_addOutput_27 hf (fun M_5 H locs hw hf => ?_)
  refine lv_aload_n hx hb dX4_addOutput_30 rfl (lv_at hl 0 rfl) ?_
  refine gt_X4_53 B hw (i := 80) rfl dX4_addOutput_31 ?_
  cases hf
  subst hQ
  exact q_iret B hr hlk hw rfl rfl dX4_addOutput_34
abbrev rm_X4_makeEmpty : Room := { frames := 0, cells := 0, slots := 0, locals := 0 }
set_option maxRecDepth 100000 in
set_option maxHeartbeats 4000000 in
theorem c_X4_makeEmpty (l : Launch) (X : XT) (fu : Nat) (M : Mem)  (rs : Mem) (hf : f_X4_makeEmpty fu M = some rs) (sz : Nat) : Met l yX4_makeEmpty (wbig yX4_makeEmpty cX4_makeEmpty 1 none) rm_X4_makeEmpty (va_Pc [.ref (X.2.2 80)] (PW LC X M sz)) (QV LC X rs sz) 0 0 (AX LC X sz) := by
  refine met_go (L := LC) (M := M) (by decide +kernel) (Nat.le_of_ble_eq_true rfl) ?_
  intro p e s m args below meth c hsz B hr hlk hw ls hl
  subst hsz
  have hx := B.hx
  have hb := B.hb
  have hl : lv_has ls 1 [(0, .ref (X.2.2 80))] := hl
  generalize hQ : MQ below _ args s 0 0 (AX LC X s.heap.size) = Q
  unfold f_X4_makeEmpty at hf
  refine lv_aload_n hx hb dX4_makeEmpty_0 rfl (lv_at hl 0 rfl) ?_
  refine lv_iconst (v := 0) hx hb dX4_makeEmpty_1 (by decide) ?_
  refine pt_X4_43 B hw (i := 80) rfl dX4_makeEmpty_2 hf (fun M_1 H locs hw hf => ?_)
  refine lv_aload_n hx hb dX4_makeEmpty_5 rfl (lv_at hl 0 rfl) ?_
  refine lv_iconst (v := 0) hx hb dX4_makeEmpty_6 (by decide) ?_
  refine pt_X4_56 B hw (i := 80) rfl dX4_makeEmpty_7 hf (fun M_2 H locs hw hf => ?_)
  refine lv_aload_n hx hb dX4_makeEmpty_10 rfl (lv_at hl 0 rfl) ?_
  refine lv_iconst (v := 0) hx hb dX4_makeEmpty_11 (by decide) ?_
  refine pt_X4_59 B hw (i := 80) rfl dX4_makeEmpty_12 hf (fun M_3 H locs hw hf => ?_)
  refine lv_aload_n hx hb dX4_makeEmpty_15 rfl (lv_at hl 0 rfl) ?_
  refine lv_iconst (v := 0) hx hb dX4_makeEmpty_16 (by decide) ?_
  refine pt_X4_53 B hw (i := 80) rfl dX4_makeEmpty_17 hf (fun M_4 H locs hw hf => ?_)
  refine lv_aload_n hx hb dX4_makeEmpty_20 rfl (lv_at hl 0 rfl) ?_
  refine lv_bipush (v := 40) hx hb dX4_makeEmpty_21 (by decide) ?_
  refine pt_X4_39 B hw (i := 80) rfl dX4_makeEmpty_23 hf (fun M_5 H locs hw hf => ?_)
  refine lv_aload_n hx hb dX4_makeEmpty_26 rfl (lv_at hl 0 rfl) ?_
  refine lv_iconst (v := 0) hx hb dX4_makeEmpty_27 (by decide) ?_
  refine pt_X4_62 B hw (i := 80) rfl rfl dX4_makeEmpty_28 hf (fun M_6 H locs hw hf => ?_)
  cases hf
  subst hQ
  exact q_vret B hr hlk hw rfl dX4_makeEmpty_31
abbrev rm_X10_losses : Room := { frames := 0, cells := 0, slots := 0, locals := 0 }
set_option maxRecDepth 100000 in
set_option maxHeartbeats 4000000 in
theorem c_X10_losses (l : Launch) (X : XT) (fu : Nat) (M : Mem)  (rs : Int32) (hf : f_X10_losses fu M = some rs) (sz : Nat) : Met l yX10_losses (wbig yX10_losses cX10_losses 1 (some .int)) rm_X10_losses (va_Pc [.ref (X.2.2 0)] (PW LC X M sz)) (QI LC X M rs sz) 0 0 (AX LC X sz) := by
  refine met_go (L := LC) (M := M) (by decide +kernel) (Nat.le_of_ble_eq_true rfl) ?_
  intro p e s m args below meth c hsz B hr hlk hw ls hl
  subst hsz
  have hx := B.hx
  have hb := B.hb
  have hl : lv_has ls 1 [(0, .ref (X.2.2 0))] := hl
  generalize hQ : MQ below _ args s 0 0 (AX LC X s.heap.size) = Q
  unfold f_X10_losses at hf
  refine lv_aload_n hx hb dX10_losses_0 rfl (lv_at hl 0 rfl) ?_
  refine gt_X10_37 B hw (i := 0) rfl dX10_losses_1 ?_
  refine gt_X10_142 B hw (i := 57) rfl dX10_losses_4 ?_
  cases hf
  subst hQ
  exact q_iret B hr hlk hw rfl rfl dX10_losses_7
abbrev rm_X10_moment : Room := { frames := 0, cells := 0, slots := 0, locals := 0 }
set_option maxRecDepth 100000 in
set_option maxHeartbeats 4000000 in
theorem c_X10_moment (l : Launch) (X : XT) (fu : Nat) (M : Mem)  (rs : Int32) (hf : f_X10_moment fu M = some rs) (sz : Nat) : Met l yX10_moment (wbig yX10_moment cX10_moment 1 (some .int)) rm_X10_moment (va_Pc [.ref (X.2.2 0)] (PW LC X M sz)) (QI LC X M rs sz) 0 0 (AX LC X sz) := by
  refine met_go (L := LC) (M := M) (by decide +kernel) (Nat.le_of_ble_eq_true rfl) ?_
  intro p e s m args below meth c hsz B hr hlk hw ls hl
  subst hsz
  have hx := B.hx
  have hb := B.hb
  have hl : lv_has ls 1 [(0, .ref (X.2.2 0))] := hl
  generalize hQ : MQ below _ args s 0 0 (AX LC X s.heap.size) = Q
  unfold f_X10_moment at hf
  refine lv_aload_n hx hb dX10_moment_0 rfl (lv_at hl 0 rfl) ?_
  refine gt_X10_10 B hw (i := 0) rfl dX10_moment_1 ?_
  refine gt_X10_145 B hw (i := 1) rfl dX10_moment_4 ?_
  cases hf
  subst hQ
  exact q_iret B hr hlk hw rfl rfl dX10_moment_7
abbrev rm_X10_now : Room := { frames := 0, cells := 0, slots := 0, locals := 0 }
set_option maxRecDepth 100000 in
set_option maxHeartbeats 4000000 in
theorem c_X10_now (l : Launch) (X : XT) (fu : Nat) (M : Mem)  (rs : Int32) (hf : f_X10_now fu M = some rs) (sz : Nat) : Met l yX10_now (wbig yX10_now cX10_now 1 (some .int)) rm_X10_now (va_Pc [.ref (X.2.2 0)] (PW LC X M sz)) (QI LC X M rs sz) 0 0 (AX LC X sz) := by
  refine met_go (L := LC) (M := M) (by decide +kernel) (Nat.le_of_ble_eq_true rfl) ?_
  intro p e s m args below meth c hsz B hr hlk hw ls hl
  subst hsz
  have hx := B.hx
  have hb := B.hb
  have hl : lv_has ls 1 [(0, .ref (X.2.2 0))] := hl
  generalize hQ : MQ below _ args s 0 0 (AX LC X s.heap.size) = Q
  unfold f_X10_now at hf
  refine lv_aload_n hx hb dX10_now_0 rfl (lv_at hl 0 rfl) ?_
  refine gt_X10_10 B hw (i := 0) rfl dX10_now_1 ?_
  refine gt_X10_180 B hw (i := 1) rfl dX10_now_4 ?_
  cases hf
  subst hQ
  exact q_iret B hr hlk hw rfl rfl dX10_now_7
abbrev rm_X10_clear : Room := { frames := 1, cells := 0, slots := 0, locals := 20 }
set_option maxRecDepth 100000 in
set_option maxHeartbeats 4000000 in
theorem c_X10_clear (l : Launch) (X : XT) (fu : Nat) (M : Mem)  (rs : (Int32 × Mem)) (hf : f_X10_clear fu M = some rs) (sz : Nat) : Met l yX10_clear (wbig yX10_clear cX10_clear 2 (some .int)) rm_X10_clear (va_Pc [.ref (X.2.2 0)] (PW LC X M sz)) (QI LC X rs.2 rs.1 sz) 0 0 (AX LC X sz) := by
  refine met_go (L := LC) (M := M) (by decide +kernel) (Nat.le_of_ble_eq_true rfl) ?_
  intro p e s m args below meth c hsz B hr hlk hw ls hl
  subst hsz
  have hx := B.hx
  have hb := B.hb
  have hl : lv_has ls 2 [(0, .ref (X.2.2 0))] := hl
  generalize hQ : MQ below _ args s 0 0 (AX LC X s.heap.size) = Q
  unfold f_X10_clear at hf
  refine lv_aload_n hx hb dX10_clear_0 rfl (lv_at hl 0 rfl) ?_
  refine gt_X10_44 B hw (i := 0) rfl dX10_clear_1 ?_
  refine gt_X10_187 B hw (i := 80) rfl dX10_clear_4 ?_
  refine r_topn hf (fun x1_1 hf => ?_)
  refine lv_istore_n (lv' := [(1, .int x1_1), (0, .ref (X.2.2 0))]) hx hb dX10_clear_7 rfl hl (by decide) rfl (fun ls hl => ?_)
  refine lv_aload_n hx hb dX10_clear_8 rfl (lv_at hl 1 rfl) ?_
  refine gt_X10_44 B hw (i := 0) rfl dX10_clear_9 ?_
  obtain ⟨M_3, h_2, hf⟩ := bd_e hf
  refine q_callVv (M' := M_3) (i := 80) (As := []) (rest := []) B hw (c_X4_makeEmpty l X fu M M_3 h_2 _) cv_X10_224 (rc_4 B hw rfl) rfl hl.1 rfl rfl ⟨Nat.le_of_ble_eq_true rfl, Nat.le_of_ble_eq_true rfl⟩ (Nat.le_of_ble_eq_true rfl) ⟨Nat.le_of_ble_eq_true rfl, Nat.le_of_ble_eq_true rfl⟩ dX10_clear_12 rfl (fun H locs hw => ?_)
  refine lv_iload_n hx hb dX10_clear_15 rfl (lv_at hl 0 rfl) ?_
  cases hf
  subst hQ
  exact q_iret B hr hlk hw rfl rfl dX10_clear_16
abbrev rm_X10_answers : Room := { frames := 0, cells := 0, slots := 0, locals := 0 }
set_option maxRecDepth 100000 in
set_option maxHeartbeats 4000000 in
theorem c_X10_answers (l : Launch) (X : XT) (fu : Nat) (M : Mem)  (rs : Int32) (hf : f_X10_answers fu M = some rs) (sz : Nat) : Met l yX10_answers (wbig yX10_answers cX10_answers 1 (some .int)) rm_X10_answers (va_Pc [.ref (X.2.2 0)] (PW LC X M sz)) (QI LC X M rs sz) 0 0 (AX LC X sz) := by
  refine met_go (L := LC) (M := M) (by decide +kernel) (Nat.le_of_ble_eq_true rfl) ?_
  intro p e s m args below meth c hsz B hr hlk hw ls hl
  subst hsz
  have hx := B.hx
  have hb := B.hb
  have hl : lv_has ls 1 [(0, .ref (X.2.2 0))] := hl
  generalize hQ : MQ below _ args s 0 0 (AX LC X s.heap.size) = Q
  unfold f_X10_answers at hf
  refine lv_aload_n hx hb dX10_answers_0 rfl (lv_at hl 0 rfl) ?_
  refine gt_X10_51 B hw (i := 0) rfl dX10_answers_1 ?_
  refine gt_X10_244 B hw (i := 90) rfl dX10_answers_4 ?_
  cases hf
  subst hQ
  exact q_iret B hr hlk hw rfl rfl dX10_answers_7
abbrev rm_X10_missing : Room := { frames := 0, cells := 0, slots := 0, locals := 0 }
set_option maxRecDepth 100000 in
set_option maxHeartbeats 4000000 in
theorem c_X10_missing (l : Launch) (X : XT) (fu : Nat) (M : Mem)  (rs : Int32) (hf : f_X10_missing fu M = some rs) (sz : Nat) : Met l yX10_missing (wbig yX10_missing cX10_missing 1 (some .int)) rm_X10_missing (va_Pc [.ref (X.2.2 0)] (PW LC X M sz)) (QI LC X M rs sz) 0 0 (AX LC X sz) := by
  refine met_go (L := LC) (M := M) (by decide +kernel) (Nat.le_of_ble_eq_true rfl) ?_
  intro p e s m args below meth c hsz B hr hlk hw ls hl
  subst hsz
  have hx := B.hx
  have hb := B.hb
  have hl : lv_has ls 1 [(0, .ref (X.2.2 0))] := hl
  generalize hQ : MQ below _ args s 0 0 (AX LC X s.heap.size) = Q
  unfold f_X10_missing at hf
  refine lv_aload_n hx hb dX10_missing_0 rfl (lv_at hl 0 rfl) ?_
  refine gt_X10_51 B hw (i := 0) rfl dX10_missing_1 ?_
  refine gt_X10_251 B hw (i := 90) rfl dX10_missing_4 ?_
  cases hf
  subst hQ
  exact q_iret B hr hlk hw rfl rfl dX10_missing_7
abbrev rm_X10_claims : Room := { frames := 0, cells := 0, slots := 0, locals := 0 }
set_option maxRecDepth 100000 in
set_option maxHeartbeats 4000000 in
theorem c_X10_claims (l : Launch) (X : XT) (fu : Nat) (M : Mem)  (rs : Int32) (hf : f_X10_claims fu M = some rs) (sz : Nat) : Met l yX10_claims (wbig yX10_claims cX10_claims 1 (some .int)) rm_X10_claims (va_Pc [.ref (X.2.2 0)] (PW LC X M sz)) (QI LC X M rs sz) 0 0 (AX LC X sz) := by
  refine met_go (L := LC) (M := M) (by decide +kernel) (Nat.le_of_ble_eq_true rfl) ?_
  intro p e s m args below meth c hsz B hr hlk hw ls hl
  subst hsz
  have hx := B.hx
  have hb := B.hb
  have hl : lv_has ls 1 [(0, .ref (X.2.2 0))] := hl
  generalize hQ : MQ below _ args s 0 0 (AX LC X s.heap.size) = Q
  unfold f_X10_claims at hf
  refine lv_aload_n hx hb dX10_claims_0 rfl (lv_at hl 0 rfl) ?_
  refine gt_X10_51 B hw (i := 0) rfl dX10_claims_1 ?_
  refine gt_X10_254 B hw (i := 90) rfl dX10_claims_4 ?_
  cases hf
  subst hQ
  exact q_iret B hr hlk hw rfl rfl dX10_claims_7
abbrev rm_X10_cost : Room := { frames := 0, cells := 0, slots := 0, locals := 0 }
set_option maxRecDepth 100000 in
set_option maxHeartbeats 4000000 in
theorem c_X10_cost (l : Launch) (X : XT) (fu : Nat) (M : Mem)  (rs : Int32) (hf : f_X10_cost fu M = some rs) (sz : Nat) : Met l yX10_cost (wbig yX10_cost cX10_cost 1 (some .int)) rm_X10_cost (va_Pc [.ref (X.2.2 0)] (PW LC X M sz)) (QI LC X M rs sz) 0 0 (AX LC X sz) := by
  refine met_go (L := LC) (M := M) (by decide +kernel) (Nat.le_of_ble_eq_true rfl) ?_
  intro p e s m args below meth c hsz B hr hlk hw ls hl
  subst hsz
  have hx := B.hx
  have hb := B.hb
  have hl : lv_has ls 1 [(0, .ref (X.2.2 0))] := hl
  generalize hQ : MQ below _ args s 0 0 (AX LC X s.heap.size) = Q
  unfold f_X10_cost at hf
  refine lv_aload_n hx hb dX10_cost_0 rfl (lv_at hl 0 rfl) ?_
  refine gt_X10_51 B hw (i := 0) rfl dX10_cost_1 ?_
  refine gt_X10_257 B hw (i := 90) rfl dX10_cost_4 ?_
  cases hf
  subst hQ
  exact q_iret B hr hlk hw rfl rfl dX10_cost_7
abbrev rm_X10_attempts : Room := { frames := 0, cells := 0, slots := 0, locals := 0 }
set_option maxRecDepth 100000 in
set_option maxHeartbeats 4000000 in
theorem c_X10_attempts (l : Launch) (X : XT) (fu : Nat) (M : Mem)  (rs : Int32) (hf : f_X10_attempts fu M = some rs) (sz : Nat) : Met l yX10_attempts (wbig yX10_attempts cX10_attempts 1 (some .int)) rm_X10_attempts (va_Pc [.ref (X.2.2 0)] (PW LC X M sz)) (QI LC X M rs sz) 0 0 (AX LC X sz) := by
  refine met_go (L := LC) (M := M) (by decide +kernel) (Nat.le_of_ble_eq_true rfl) ?_
  intro p e s m args below meth c hsz B hr hlk hw ls hl
  subst hsz
  have hx := B.hx
  have hb := B.hb
  have hl : lv_has ls 1 [(0, .ref (X.2.2 0))] := hl
  generalize hQ : MQ below _ args s 0 0 (AX LC X s.heap.size) = Q
  unfold f_X10_attempts at hf
  refine lv_aload_n hx hb dX10_attempts_0 rfl (lv_at hl 0 rfl) ?_
  refine gt_X10_51 B hw (i := 0) rfl dX10_attempts_1 ?_
  refine gt_X10_260 B hw (i := 90) rfl dX10_attempts_4 ?_
  cases hf
  subst hQ
  exact q_iret B hr hlk hw rfl rfl dX10_attempts_7
abbrev rm_X10_shipped : Room := { frames := 0, cells := 0, slots := 0, locals := 0 }
set_option maxRecDepth 100000 in
set_option maxHeartbeats 4000000 in
theorem c_X10_shipped (l : Launch) (X : XT) (fu : Nat) (M : Mem)  (rs : Int32) (hf : f_X10_shipped fu M = some rs) (sz : Nat) : Met l yX10_shipped (wbig yX10_shipped cX10_shipped 1 (some .int)) rm_X10_shipped (va_Pc [.ref (X.2.2 0)] (PW LC X M sz)) (QI LC X M rs sz) 0 0 (AX LC X sz) := by
  refine met_go (L := LC) (M := M) (by decide +kernel) (Nat.le_of_ble_eq_true rfl) ?_
  intro p e s m args below meth c hsz B hr hlk hw ls hl
  subst hsz
  have hx := B.hx
  have hb := B.hb
  have hl : lv_has ls 1 [(0, .ref (X.2.2 0))] := hl
  generalize hQ : MQ below _ args s 0 0 (AX LC X s.heap.size) = Q
  unfold f_X10_shipped at hf
  refine lv_aload_n hx hb dX10_shipped_0 rfl (lv_at hl 0 rfl) ?_
  refine gt_X10_51 B hw (i := 0) rfl dX10_shipped_1 ?_
  refine gt_X10_263 B hw (i := 90) rfl dX10_shipped_4 ?_
  cases hf
  subst hQ
  exact q_iret B hr hlk hw rfl rfl dX10_shipped_7
abbrev rm_X10_entries : Room := { frames := 0, cells := 0, slots := 0, locals := 0 }
set_option maxRecDepth 100000 in
set_option maxHeartbeats 4000000 in
theorem c_X10_entries (l : Launch) (X : XT) (fu : Nat) (M : Mem)  (rs : Int32) (hf : f_X10_entries fu M = some rs) (sz : Nat) : Met l yX10_entries (wbig yX10_entries cX10_entries 1 (some .int)) rm_X10_entries (va_Pc [.ref (X.2.2 0)] (PW LC X M sz)) (QI LC X M rs sz) 0 0 (AX LC X sz) := by
  refine met_go (L := LC) (M := M) (by decide +kernel) (Nat.le_of_ble_eq_true rfl) ?_
  intro p e s m args below meth c hsz B hr hlk hw ls hl
  subst hsz
  have hx := B.hx
  have hb := B.hb
  have hl : lv_has ls 1 [(0, .ref (X.2.2 0))] := hl
  generalize hQ : MQ below _ args s 0 0 (AX LC X s.heap.size) = Q
  unfold f_X10_entries at hf
  refine lv_aload_n hx hb dX10_entries_0 rfl (lv_at hl 0 rfl) ?_
  refine gt_X10_21 B hw (i := 0) rfl dX10_entries_1 ?_
  refine gt_X10_278 B hw (i := 2) rfl dX10_entries_4 ?_
  cases hf
  subst hQ
  exact q_iret B hr hlk hw rfl rfl dX10_entries_7
abbrev rm_X10_makeAnew : Room := { frames := 5, cells := 0, slots := 0, locals := 114 }
set_option maxRecDepth 100000 in
set_option maxHeartbeats 4000000 in
theorem c_X10_makeAnew (l : Launch) (X : XT) (fu : Nat) (M : Mem)  (rs : Mem) (hf : f_X10_makeAnew fu M = some rs) (sz : Nat) : Met l yX10_makeAnew (wbig yX10_makeAnew cX10_makeAnew 2 none) rm_X10_makeAnew (va_Pc [.ref (X.2.2 0)] (PW LC X M sz)) (QV LC X rs sz) 0 0 (AX LC X sz) := by
  refine met_go (L := LC) (M := M) (by decide +kernel) (Nat.le_of_ble_eq_true rfl) ?_
  intro p e s m args below meth c hsz B hr hlk hw ls hl
  subst hsz
  have hx := B.hx
  have hb := B.hb
  have hl : lv_has ls 2 [(0, .ref (X.2.2 0))] := hl
  generalize hQ : MQ below _ args s 0 0 (AX LC X s.heap.size) = Q
  unfold f_X10_makeAnew at hf
  refine lv_iconst (v := 0) hx hb dX10_makeAnew_0 (by decide) ?_
  refine lv_istore_n (lv' := [(1, .int 0), (0, .ref (X.2.2 0))]) hx hb dX10_makeAnew_1 rfl hl (by decide) rfl (fun ls hl => ?_)
  refine jn_e hf (fun kk => ∀ (M_2 : Mem) (H : Heap) (locs : List Loc) (ls : Array Slot), HW LC X M_2 s H locs → lv_has ls 2 [(0, .ref (X.2.2 0))] → kk M_2 = some rs → W p l e rm_X10_makeAnew s m args below meth c H locs 0 0 Q (F0 m 60 ls [])) ?_ (fun k60_1 J60_1 hf => ?_)
  · intro M_2 H locs ls hw hl hf
    refine lv_aload_n hx hb dX10_makeAnew_60 rfl (lv_at hl 0 rfl) ?_
    refine gt_X10_55 B hw (i := 0) rfl dX10_makeAnew_61 ?_
    refine lv_aload_n hx hb dX10_makeAnew_64 rfl (lv_at hl 0 rfl) ?_
    refine gt_X10_44 B hw (i := 0) rfl dX10_makeAnew_65 ?_
    obtain ⟨M_4, h_3, hf⟩ := bd_e hf
    refine q_callVv (M' := M_4) (i := 105) (As := [.ref (X.2.2 80)]) (rest := []) B hw (c_X0_make l X fu 105 M_2 rfl M_4 h_3 _) cv_X10_293 (rc_0 B hw rfl) rfl hl.1 rfl rfl ⟨Nat.le_of_ble_eq_true rfl, Nat.le_of_ble_eq_true rfl⟩ (Nat.le_of_ble_eq_true rfl) ⟨Nat.le_of_ble_eq_true rfl, Nat.le_of_ble_eq_true rfl⟩ dX10_makeAnew_68 rfl (fun H locs hw => ?_)
    cases hf
    subst hQ
    exact q_vret B hr hlk hw rfl dX10_makeAnew_71
  have hL_2 : ∀ (n_2 : Nat) (x1_5 : Int32) (M_6 : Mem) (H : Heap) (locs : List Loc) (ls : Array Slot), HW LC X M_6 s H locs → lv_has ls 2 [(0, .ref (X.2.2 0)), (1, .int x1_5)] → f_X10_makeAnew_L2 fu k60_1 n_2 x1_5 M_6 = some rs → W p l e rm_X10_makeAnew s m args below meth c H locs 0 0 Q (F0 m 2 ls []) := by
    intro n_2
    induction n_2 with
    | zero => intro x1_5 M_6 H locs ls hw hl hf; exact no_none hf
    | succ n_2 ih_2 =>
      intro x1_5 M_6 H locs ls hw hl hf
      rw [f_X10_makeAnew_L2] at hf
      refine lv_iload_n hx hb dX10_makeAnew_2 rfl (lv_at hl 1 rfl) ?_
      refine lv_aload_n hx hb dX10_makeAnew_3 rfl (lv_at hl 0 rfl) ?_
      refine gt_X10_44 B hw (i := 0) rfl dX10_makeAnew_4 ?_
      refine gt_X10_187 B hw (i := 80) rfl dX10_makeAnew_7 ?_
      refine lv_icmp_ge (tgt := 60) hx hb dX10_makeAnew_10 (by decide) (fun c_7 => ?_) (fun c_7 => ?_)
      · have hf := it_e hf c_7
        exact J60_1 M_6 _ _ _ hw (lv_sub hl [0] rfl) hf
      · have hf := ie_e hf c_7
        refine lv_aload_n hx hb dX10_makeAnew_13 rfl (lv_at hl 0 rfl) ?_
        refine gt_X10_55 B hw (i := 0) rfl dX10_makeAnew_14 ?_
        refine gt_X10_282 B hw (i := 105) rfl dX10_makeAnew_17 ?_
        refine lv_iload_n hx hb dX10_makeAnew_20 rfl (lv_at hl 1 rfl) ?_
        obtain ⟨g_8, hf⟩ := grd_e hf
        refine c_aldR B hw (i := 110) rfl g_8 dX10_makeAnew_21 ?_
        refine r_topk (kV rfl g_8) hf (fun a_9 ha_9 hf => ?_)
        refine lv_aload_n hx hb dX10_makeAnew_22 rfl (lv_at hl 0 rfl) ?_
        refine gt_X10_37 B hw (i := 0) rfl dX10_makeAnew_23 ?_
        refine gt_X10_115 B hw (i := 57) rfl dX10_makeAnew_26 ?_
        refine lv_aload_n hx hb dX10_makeAnew_29 rfl (lv_at hl 0 rfl) ?_
        refine gt_X10_44 B hw (i := 0) rfl dX10_makeAnew_30 ?_
        refine gt_X10_283 B hw (i := 80) rfl dX10_makeAnew_33 ?_
        refine lv_iload_n hx hb dX10_makeAnew_36 rfl (lv_at hl 1 rfl) ?_
        refine c_iald B hw (i := 81) rfl g_8 dX10_makeAnew_37 ?_
        obtain ⟨g_10, hf⟩ := grd_e hf
        refine c_aldR B hw (i := 61) rfl g_10 dX10_makeAnew_38 ?_
        refine r_topk (kV rfl g_10) hf (fun a_11 ha_11 hf => ?_)
        obtain ⟨M_13, h_12, hf⟩ := bd_e hf
        refine q_callVv (M' := M_13) (i := a_9) (As := [.ref (X.2.2 a_11)]) (rest := []) B hw (c_X6_copy l X fu a_9 a_11 M_6 ha_9 ha_11 M_13 h_12 _) cv_X10_285 (rc_6 B hw ha_9) rfl hl.1 rfl rfl ⟨Nat.le_of_ble_eq_true rfl, Nat.le_of_ble_eq_true rfl⟩ (Nat.le_of_ble_eq_true rfl) ⟨Nat.le_of_ble_eq_true rfl, Nat.le_of_ble_eq_true rfl⟩ dX10_makeAnew_39 rfl (fun H locs hw => ?_)
        refine lv_aload_n hx hb dX10_makeAnew_42 rfl (lv_at hl 0 rfl) ?_
        refine gt_X10_55 B hw (i := 0) rfl dX10_makeAnew_43 ?_
        refine lv_aload_n hx hb dX10_makeAnew_46 rfl (lv_at hl 0 rfl) ?_
        refine gt_X10_44 B hw (i := 0) rfl dX10_makeAnew_47 ?_
        refine lv_iload_n hx hb dX10_makeAnew_50 rfl (lv_at hl 1 rfl) ?_
        obtain ⟨M_15, h_14, hf⟩ := bd_e hf
        refine q_callVv (M' := M_15) (i := 105) (As := [.ref (X.2.2 80), .int x1_5]) (rest := []) B hw (c_X0_keepWhatHolds l X fu 105 x1_5 M_13 rfl M_15 h_14 _) cv_X10_289 (rc_0 B hw rfl) rfl hl.1 rfl rfl ⟨Nat.le_of_ble_eq_true rfl, Nat.le_of_ble_eq_true rfl⟩ (Nat.le_of_ble_eq_true rfl) ⟨Nat.le_of_ble_eq_true rfl, Nat.le_of_ble_eq_true rfl⟩ dX10_makeAnew_51 rfl (fun H locs hw => ?_)
        refine r_iinc (v := (x1_5 + 1)) hx hb dX10_makeAnew_54 hl (k := 1) rfl rfl (by decide) hf (fun x1_16 ls hl hf => ?_)
        have hl : lv_has ls 2 [(1, .int x1_16), (0, .ref (X.2.2 0))] := hl
        refine lv_goto (tgt := 2) hx hb dX10_makeAnew_57 (by decide) ?_
        exact ih_2 x1_16 M_15 _ _ _ hw (lv_sub hl [1, 0] rfl) hf
  exact hL_2 fu 0 M _ _ _ hw (lv_sub hl [1, 0] rfl) hf
