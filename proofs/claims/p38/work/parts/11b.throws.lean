abbrev rm_X10_out : Room := { frames := 7, cells := 2, slots := 12, locals := 110 }
set_option maxRecDepth 100000 in
set_option maxHeartbeats 4000000 in
theorem c_X10_out (l : Launch) (hfl : l.stackTraces = false) (X : XT) (fu : Nat) (p1 : Int32) (p2 : Int32) (M : Mem)  (rs : XR) (hf : f_X10_out fu p1 p2 M = some rs) (sz : Nat) : vx_Met l yX10_out (wbig yX10_out cX10_out 3 (some .int)) rm_X10_out (va_Pc [.ref (X.2.2 0), .int p1, .int p2] (PXW LC X M sz)) (XQi LC X rs sz) (XXC LC X rs sz) 2 12 (AX LC X sz) := by
  refine metx_go (L := LC) (M := M) (by decide +kernel) (Nat.le_of_ble_eq_true rfl) ?_
  intro p e s m args below meth c hsz B T hr hlk hxt hw ls hl
  subst hsz
  have hx := B.hx
  have hb := B.hb
  have hl : lv_has ls 3 [(0, .ref (X.2.2 0)), (1, .int p1), (2, .int p2)] := hl
  generalize hQ : vx_MQ below _ _ args s _ _ (AX LC X s.heap.size) = Q
  unfold f_X10_out at hf
  refine lv_aload_n hx hb dX10_out_0 rfl (lv_at hl 0 rfl) ?_
  refine gt_X10_44 B hw (i := 0) rfl dX10_out_1 ?_
  refine lv_iload_n hx hb dX10_out_4 rfl (lv_at hl 1 rfl) ?_
  refine lv_iload_n hx hb dX10_out_5 rfl (lv_at hl 2 rfl) ?_
  obtain ⟨r_2, h_1, hf⟩ := bd_e hf
  refine q_callVi (M' := M) (i := 80) (As := [.int p1, .int p2]) (rest := []) B hw (c_X4_hasColumn l X fu p1 p2 M r_2 h_1 _) cv_X10_193 (rc_4 B hw rfl) rfl hl.1 rfl rfl ⟨Nat.le_of_ble_eq_true rfl, Nat.le_of_ble_eq_true rfl⟩ (Nat.le_of_ble_eq_true rfl) ⟨Nat.le_of_ble_eq_true rfl, Nat.le_of_ble_eq_true rfl⟩ dX10_out_6 rfl (fun H locs hw => ?_)
  rcases bxm_e hf with ⟨r_3, h_5, hr0, hr1, hr2⟩ | ⟨r_3, M_4, h_5, hf⟩
  · subst hQ
    refine x_callS (As := [.int r_2]) (rest := []) B T hw (c_X10_needPlace l hfl X fu r_2 M r_3 h_5 _) cs_X10_125 rfl hl.1 rfl rfl ⟨(Nat.le_of_ble_eq_true rfl), (Nat.le_of_ble_eq_true rfl)⟩ (Nat.le_of_ble_eq_true rfl) ⟨(Nat.le_of_ble_eq_true rfl), (Nat.le_of_ble_eq_true rfl)⟩ dX10_out_9 rfl (fun E ce q9 H1 locs1 g1 g2 g3 g4 g5 g6 => ?_) (fun g1 => absurd g1 hr0)
    exact x_on hxt hlk g1 g2 g3 g4 g5 g6 hr1 hr2 (Nat.le_of_ble_eq_true rfl) (Nat.le_of_ble_eq_true rfl)
  refine x_callS (As := [.int r_2]) (rest := []) B T hw (c_X10_needPlace l hfl X fu r_2 M (0, r_3, M_4) h_5 _) cs_X10_125 rfl hl.1 rfl rfl ⟨(Nat.le_of_ble_eq_true rfl), (Nat.le_of_ble_eq_true rfl)⟩ (Nat.le_of_ble_eq_true rfl) ⟨(Nat.le_of_ble_eq_true rfl), (Nat.le_of_ble_eq_true rfl)⟩ dX10_out_9 rfl (fun _ _ _ _ _ g1 => absurd rfl g1) (fun _ H locs hw => ?_)
  refine lv_aload_n hx hb dX10_out_12 rfl (lv_at hl 0 rfl) ?_
  refine gt_X10_44 B hw (i := 0) rfl dX10_out_13 ?_
  refine gt_X10_211 B hw (i := 80) rfl dX10_out_16 ?_
  refine lv_iconst (v := 3) hx hb dX10_out_19 (by decide) ?_
  refine nmv_e hf (fun kk => ∀ (H : Heap) (locs : List Loc), HW LC X M_4 s H locs → W p l e rm_X10_out s m args below meth c H locs 1 6 Q (F0 m 28 ls [.int kk])) (fun J => ?_) (fun v_7 hf H locs hw => ?_)
  · refine lv_icmp_ge (tgt := 27) hx hb dX10_out_20 (by decide) (fun c_6 => ?_) (fun c_6 => ?_)
    · rw [if_pos c_6] at J
      refine lv_iconst (v := 0) hx hb dX10_out_27 (by decide) ?_
      exact J _ _ hw
    · rw [if_neg c_6] at J
      refine lv_iconst (v := 1) hx hb dX10_out_23 (by decide) ?_
      refine lv_goto (tgt := 28) hx hb dX10_out_24 (by decide) ?_
      exact J _ _ hw
  · rcases bxm_e hf with ⟨r_8, h_10, hr0, hr1, hr2⟩ | ⟨r_8, M_9, h_10, hf⟩
    · subst hQ
      refine x_callS (As := [.int v_7]) (rest := []) B T hw (c_X10_needState l hfl X fu v_7 M_4 r_8 h_10 _) cs_X10_96 rfl hl.1 rfl rfl ⟨(Nat.le_of_ble_eq_true rfl), (Nat.le_of_ble_eq_true rfl)⟩ (Nat.le_of_ble_eq_true rfl) ⟨(Nat.le_of_ble_eq_true rfl), (Nat.le_of_ble_eq_true rfl)⟩ dX10_out_28 rfl (fun E ce q9 H1 locs1 g1 g2 g3 g4 g5 g6 => ?_) (fun g1 => absurd g1 hr0)
      exact x_on hxt hlk g1 g2 g3 g4 g5 g6 hr1 hr2 (Nat.le_of_ble_eq_true rfl) (Nat.le_of_ble_eq_true rfl)
    refine x_callS (As := [.int v_7]) (rest := []) B T hw (c_X10_needState l hfl X fu v_7 M_4 (0, r_8, M_9) h_10 _) cs_X10_96 rfl hl.1 rfl rfl ⟨(Nat.le_of_ble_eq_true rfl), (Nat.le_of_ble_eq_true rfl)⟩ (Nat.le_of_ble_eq_true rfl) ⟨(Nat.le_of_ble_eq_true rfl), (Nat.le_of_ble_eq_true rfl)⟩ dX10_out_28 rfl (fun _ _ _ _ _ g1 => absurd rfl g1) (fun _ H locs hw => ?_)
    refine lv_aload_n hx hb dX10_out_31 rfl (lv_at hl 0 rfl) ?_
    refine gt_X10_44 B hw (i := 0) rfl dX10_out_32 ?_
    refine lv_iload_n hx hb dX10_out_35 rfl (lv_at hl 1 rfl) ?_
    refine lv_iload_n hx hb dX10_out_36 rfl (lv_at hl 2 rfl) ?_
    obtain ⟨r_12, M_13, h_11, hf⟩ := bm_e hf
    refine q_callVi (M' := M_13) (i := 80) (As := [.int p1, .int p2]) (rest := []) B hw (c_X4_addOutput l X fu p1 p2 M_9 (r_12, M_13) h_11 _) cv_X10_214 (rc_4 B hw rfl) rfl hl.1 rfl rfl ⟨Nat.le_of_ble_eq_true rfl, Nat.le_of_ble_eq_true rfl⟩ (Nat.le_of_ble_eq_true rfl) ⟨Nat.le_of_ble_eq_true rfl, Nat.le_of_ble_eq_true rfl⟩ dX10_out_37 rfl (fun H locs hw => ?_)
    cases hf
    subst hQ
    exact x_iret B hr hlk hw rfl (Nat.le_of_ble_eq_true rfl) (Nat.le_of_ble_eq_true rfl) dX10_out_40
abbrev rm_X10_shape : Room := { frames := 7, cells := 1, slots := 6, locals := 110 }
set_option maxRecDepth 100000 in
set_option maxHeartbeats 4000000 in
theorem c_X10_shape (l : Launch) (hfl : l.stackTraces = false) (X : XT) (fu : Nat) (p1 : Int32) (p2 : Int32) (M : Mem)  (rs : XR) (hf : f_X10_shape fu p1 p2 M = some rs) (sz : Nat) : vx_Met l yX10_shape (wbig yX10_shape cX10_shape 3 none) rm_X10_shape (va_Pc [.ref (X.2.2 0), .int p1, .int p2] (PXW LC X M sz)) (XQv LC X rs sz) (XXC LC X rs sz) 1 6 (AX LC X sz) := by
  refine metx_go (L := LC) (M := M) (by decide +kernel) (Nat.le_of_ble_eq_true rfl) ?_
  intro p e s m args below meth c hsz B T hr hlk hxt hw ls hl
  subst hsz
  have hx := B.hx
  have hb := B.hb
  have hl : lv_has ls 3 [(0, .ref (X.2.2 0)), (1, .int p1), (2, .int p2)] := hl
  generalize hQ : vx_MQ below _ _ args s _ _ (AX LC X s.heap.size) = Q
  unfold f_X10_shape at hf
  refine lv_iload_n hx hb dX10_shape_0 rfl (lv_at hl 1 rfl) ?_
  refine lv_iconst (v := 1) hx hb dX10_shape_1 (by decide) ?_
  refine lv_bipush (v := 40) hx hb dX10_shape_2 (by decide) ?_
  refine q_callSi (M' := M) (As := [.int p1, .int 1, .int 40]) (rest := []) B hw (c_X10_isIn l X p1 1 40 _ rfl M _) cs_X10_148 rfl hl.1 rfl rfl ⟨Nat.le_of_ble_eq_true rfl, Nat.le_of_ble_eq_true rfl⟩ (Nat.le_of_ble_eq_true rfl) ⟨Nat.le_of_ble_eq_true rfl, Nat.le_of_ble_eq_true rfl⟩ dX10_shape_4 rfl (fun H locs hw => ?_)
  rcases bxm_e hf with ⟨r_1, h_3, hr0, hr1, hr2⟩ | ⟨r_1, M_2, h_3, hf⟩
  · subst hQ
    refine x_callS (As := [.int (f_X10_isIn p1 1 40)]) (rest := []) B T hw (c_X10_needArgument l hfl X fu (f_X10_isIn p1 1 40) M r_1 h_3 _) cs_X10_88 rfl hl.1 rfl rfl ⟨(Nat.le_of_ble_eq_true rfl), (Nat.le_of_ble_eq_true rfl)⟩ (Nat.le_of_ble_eq_true rfl) ⟨(Nat.le_of_ble_eq_true rfl), (Nat.le_of_ble_eq_true rfl)⟩ dX10_shape_7 rfl (fun E ce q9 H1 locs1 g1 g2 g3 g4 g5 g6 => ?_) (fun g1 => absurd g1 hr0)
    exact x_on hxt hlk g1 g2 g3 g4 g5 g6 hr1 hr2 (Nat.le_of_ble_eq_true rfl) (Nat.le_of_ble_eq_true rfl)
  refine x_callS (As := [.int (f_X10_isIn p1 1 40)]) (rest := []) B T hw (c_X10_needArgument l hfl X fu (f_X10_isIn p1 1 40) M (0, r_1, M_2) h_3 _) cs_X10_88 rfl hl.1 rfl rfl ⟨(Nat.le_of_ble_eq_true rfl), (Nat.le_of_ble_eq_true rfl)⟩ (Nat.le_of_ble_eq_true rfl) ⟨(Nat.le_of_ble_eq_true rfl), (Nat.le_of_ble_eq_true rfl)⟩ dX10_shape_7 rfl (fun _ _ _ _ _ g1 => absurd rfl g1) (fun _ H locs hw => ?_)
  refine lv_aload_n hx hb dX10_shape_10 rfl (lv_at hl 0 rfl) ?_
  refine gt_X10_44 B hw (i := 0) rfl dX10_shape_11 ?_
  refine lv_iload_n hx hb dX10_shape_14 rfl (lv_at hl 1 rfl) ?_
  refine pt_X10_217 B hw (i := 80) rfl dX10_shape_15 hf (fun M_4 H locs hw hf => ?_)
  refine lv_aload_n hx hb dX10_shape_18 rfl (lv_at hl 0 rfl) ?_
  refine gt_X10_44 B hw (i := 0) rfl dX10_shape_19 ?_
  refine lv_iload_n hx hb dX10_shape_22 rfl (lv_at hl 2 rfl) ?_
  obtain ⟨g_5, hf⟩ := grd_e hf
  refine pt_X10_220 B hw (i := 80) rfl g_5 dX10_shape_23 hf (fun M_6 H locs hw hf => ?_)
  cases hf
  subst hQ
  exact x_vret B hr hlk hw rfl (Nat.le_of_ble_eq_true rfl) (Nat.le_of_ble_eq_true rfl) dX10_shape_26
abbrev rm_X10_ask : Room := { frames := 7, cells := 2, slots := 12, locals := 150 }
set_option maxRecDepth 100000 in
set_option maxHeartbeats 4000000 in
theorem c_X10_ask (l : Launch) (hfl : l.stackTraces = false) (X : XT) (fu : Nat) (p1 : Int32) (p2 : Int32) (M : Mem)  (rs : XR) (hf : f_X10_ask fu p1 p2 M = some rs) (sz : Nat) : vx_Met l yX10_ask (wbig yX10_ask cX10_ask 4 (some .int)) rm_X10_ask (va_Pc [.ref (X.2.2 0), .int p1, .int p2] (PXW LC X M sz)) (XQi LC X rs sz) (XXC LC X rs sz) 2 12 (AX LC X sz) := by
  refine metx_go (L := LC) (M := M) (by decide +kernel) (Nat.le_of_ble_eq_true rfl) ?_
  intro p e s m args below meth c hsz B T hr hlk hxt hw ls hl
  subst hsz
  have hx := B.hx
  have hb := B.hb
  have hl : lv_has ls 4 [(0, .ref (X.2.2 0)), (1, .int p1), (2, .int p2)] := hl
  generalize hQ : vx_MQ below _ _ args s _ _ (AX LC X s.heap.size) = Q
  unfold f_X10_ask at hf
  refine lv_iload_n hx hb dX10_ask_0 rfl (lv_at hl 1 rfl) ?_
  refine lv_iconst (v := 0) hx hb dX10_ask_1 (by decide) ?_
  refine lv_sipush (v := 200) hx hb dX10_ask_2 (by decide) ?_
  refine q_callSi (M' := M) (As := [.int p1, .int 0, .int 200]) (rest := []) B hw (c_X10_isIn l X p1 0 200 _ rfl M _) cs_X10_148 rfl hl.1 rfl rfl ⟨Nat.le_of_ble_eq_true rfl, Nat.le_of_ble_eq_true rfl⟩ (Nat.le_of_ble_eq_true rfl) ⟨Nat.le_of_ble_eq_true rfl, Nat.le_of_ble_eq_true rfl⟩ dX10_ask_5 rfl (fun H locs hw => ?_)
  refine nmv_e hf (fun kk => ∀ (H : Heap) (locs : List Loc), HW LC X M s H locs → W p l e rm_X10_ask s m args below meth c H locs 0 0 Q (F0 m 27 ls [.int kk])) (fun J => ?_) (fun v_3 hf H locs hw => ?_)
  · refine lv_if_eq (tgt := 26) hx hb dX10_ask_8 (by decide) (fun c_1 => ?_) (fun c_1 => ?_)
    · rw [if_pos c_1] at J
      refine lv_iconst (v := 0) hx hb dX10_ask_26 (by decide) ?_
      exact J _ _ hw
    · rw [if_neg c_1] at J
      refine lv_iload_n hx hb dX10_ask_11 rfl (lv_at hl 2 rfl) ?_
      refine lv_iconst (v := 0) hx hb dX10_ask_12 (by decide) ?_
      refine lv_sipush (v := 200) hx hb dX10_ask_13 (by decide) ?_
      refine q_callSi (M' := M) (As := [.int p2, .int 0, .int 200]) (rest := []) B hw (c_X10_isIn l X p2 0 200 _ rfl M _) cs_X10_148 rfl hl.1 rfl rfl ⟨Nat.le_of_ble_eq_true rfl, Nat.le_of_ble_eq_true rfl⟩ (Nat.le_of_ble_eq_true rfl) ⟨Nat.le_of_ble_eq_true rfl, Nat.le_of_ble_eq_true rfl⟩ dX10_ask_16 rfl (fun H locs hw => ?_)
      refine lv_if_eq (tgt := 26) hx hb dX10_ask_19 (by decide) (fun c_2 => ?_) (fun c_2 => ?_)
      · rw [if_pos c_2] at J
        refine lv_iconst (v := 0) hx hb dX10_ask_26 (by decide) ?_
        exact J _ _ hw
      · rw [if_neg c_2] at J
        refine lv_iconst (v := 1) hx hb dX10_ask_22 (by decide) ?_
        refine lv_goto (tgt := 27) hx hb dX10_ask_23 (by decide) ?_
        exact J _ _ hw
  · rcases bxm_e hf with ⟨r_4, h_6, hr0, hr1, hr2⟩ | ⟨r_4, M_5, h_6, hf⟩
    · subst hQ
      refine x_callS (As := [.int v_3]) (rest := []) B T hw (c_X10_needArgument l hfl X fu v_3 M r_4 h_6 _) cs_X10_88 rfl hl.1 rfl rfl ⟨(Nat.le_of_ble_eq_true rfl), (Nat.le_of_ble_eq_true rfl)⟩ (Nat.le_of_ble_eq_true rfl) ⟨(Nat.le_of_ble_eq_true rfl), (Nat.le_of_ble_eq_true rfl)⟩ dX10_ask_27 rfl (fun E ce q9 H1 locs1 g1 g2 g3 g4 g5 g6 => ?_) (fun g1 => absurd g1 hr0)
      exact x_on hxt hlk g1 g2 g3 g4 g5 g6 hr1 hr2 (Nat.le_of_ble_eq_true rfl) (Nat.le_of_ble_eq_true rfl)
    refine x_callS (As := [.int v_3]) (rest := []) B T hw (c_X10_needArgument l hfl X fu v_3 M (0, r_4, M_5) h_6 _) cs_X10_88 rfl hl.1 rfl rfl ⟨(Nat.le_of_ble_eq_true rfl), (Nat.le_of_ble_eq_true rfl)⟩ (Nat.le_of_ble_eq_true rfl) ⟨(Nat.le_of_ble_eq_true rfl), (Nat.le_of_ble_eq_true rfl)⟩ dX10_ask_27 rfl (fun _ _ _ _ _ g1 => absurd rfl g1) (fun _ H locs hw => ?_)
    refine lv_aload_n hx hb dX10_ask_30 rfl (lv_at hl 0 rfl) ?_
    refine gt_X10_44 B hw (i := 0) rfl dX10_ask_31 ?_
    obtain ⟨r_8, h_7, hf⟩ := bd_e hf
    refine q_callVi (M' := M_5) (i := 80) (As := []) (rest := []) B hw (c_X4_isQuery l X fu M_5 r_8 h_7 _) cv_X10_227 (rc_4 B hw rfl) rfl hl.1 rfl rfl ⟨Nat.le_of_ble_eq_true rfl, Nat.le_of_ble_eq_true rfl⟩ (Nat.le_of_ble_eq_true rfl) ⟨Nat.le_of_ble_eq_true rfl, Nat.le_of_ble_eq_true rfl⟩ dX10_ask_34 rfl (fun H locs hw => ?_)
    rcases bxm_e hf with ⟨r_9, h_11, hr0, hr1, hr2⟩ | ⟨r_9, M_10, h_11, hf⟩
    · subst hQ
      refine x_callS (As := [.int r_8]) (rest := []) B T hw (c_X10_needState l hfl X fu r_8 M_5 r_9 h_11 _) cs_X10_96 rfl hl.1 rfl rfl ⟨(Nat.le_of_ble_eq_true rfl), (Nat.le_of_ble_eq_true rfl)⟩ (Nat.le_of_ble_eq_true rfl) ⟨(Nat.le_of_ble_eq_true rfl), (Nat.le_of_ble_eq_true rfl)⟩ dX10_ask_37 rfl (fun E ce q9 H1 locs1 g1 g2 g3 g4 g5 g6 => ?_) (fun g1 => absurd g1 hr0)
      exact x_on hxt hlk g1 g2 g3 g4 g5 g6 hr1 hr2 (Nat.le_of_ble_eq_true rfl) (Nat.le_of_ble_eq_true rfl)
    refine x_callS (As := [.int r_8]) (rest := []) B T hw (c_X10_needState l hfl X fu r_8 M_5 (0, r_9, M_10) h_11 _) cs_X10_96 rfl hl.1 rfl rfl ⟨(Nat.le_of_ble_eq_true rfl), (Nat.le_of_ble_eq_true rfl)⟩ (Nat.le_of_ble_eq_true rfl) ⟨(Nat.le_of_ble_eq_true rfl), (Nat.le_of_ble_eq_true rfl)⟩ dX10_ask_37 rfl (fun _ _ _ _ _ g1 => absurd rfl g1) (fun _ H locs hw => ?_)
    refine lv_aload_n hx hb dX10_ask_40 rfl (lv_at hl 0 rfl) ?_
    refine gt_X10_63 B hw (i := 0) rfl dX10_ask_41 ?_
    refine lv_iload_n hx hb dX10_ask_44 rfl (lv_at hl 1 rfl) ?_
    refine lv_aload_n hx hb dX10_ask_45 rfl (lv_at hl 0 rfl) ?_
    refine gt_X10_10 B hw (i := 0) rfl dX10_ask_46 ?_
    refine gt_X10_180 B hw (i := 1) rfl dX10_ask_49 ?_
    refine lv_iload_n hx hb dX10_ask_52 rfl (lv_at hl 2 rfl) ?_
    refine lv_iadd hx hb dX10_ask_53 ?_
    refine lv_aload_n hx hb dX10_ask_54 rfl (lv_at hl 0 rfl) ?_
    refine gt_X10_10 B hw (i := 0) rfl dX10_ask_55 ?_
    refine gt_X10_145 B hw (i := 1) rfl dX10_ask_58 ?_
    obtain ⟨M_13, h_12, hf⟩ := bd_e hf
    refine q_callVv (M' := M_13) (i := 120) (As := [.int p1, .int ((M_10 1 0) + p2), .int (M_10 1 1)]) (rest := []) B hw (c_X1_begin l X fu p1 ((M_10 1 0) + p2) (M_10 1 1) M_10 M_13 h_12 _) cv_X10_231 (rc_1 B hw rfl) rfl hl.1 rfl rfl ⟨Nat.le_of_ble_eq_true rfl, Nat.le_of_ble_eq_true rfl⟩ (Nat.le_of_ble_eq_true rfl) ⟨Nat.le_of_ble_eq_true rfl, Nat.le_of_ble_eq_true rfl⟩ dX10_ask_61 rfl (fun H locs hw => ?_)
    refine lv_iconst (v := 0) hx hb dX10_ask_64 (by decide) ?_
    refine lv_istore_n (lv' := [(3, .int 0), (0, .ref (X.2.2 0)), (1, .int p1), (2, .int p2)]) hx hb dX10_ask_65 rfl hl (by decide) rfl (fun ls hl => ?_)
    refine jn_e hf (fun kk => ∀ (M_15 : Mem) (H : Heap) (locs : List Loc) (ls : Array Slot), HW LC X M_15 s H locs → lv_has ls 4 [(0, .ref (X.2.2 0))] → kk M_15 = some rs → W p l e rm_X10_ask s m args below meth c H locs 2 12 Q (F0 m 97 ls [])) ?_ (fun k97_14 J97_14 hf => ?_)
    · intro M_15 H locs ls hw hl hf
      refine lv_aload_n hx hb dX10_ask_97 rfl (lv_at hl 0 rfl) ?_
      refine gt_X10_63 B hw (i := 0) rfl dX10_ask_98 ?_
      obtain ⟨M_17, h_16, hf⟩ := bd_e hf
      refine q_callVv (M' := M_17) (i := 120) (As := []) (rest := []) B hw (c_X1_end l X fu M_15 M_17 h_16 _) cv_X10_241 (rc_1 B hw rfl) rfl hl.1 rfl rfl ⟨Nat.le_of_ble_eq_true rfl, Nat.le_of_ble_eq_true rfl⟩ (Nat.le_of_ble_eq_true rfl) ⟨Nat.le_of_ble_eq_true rfl, Nat.le_of_ble_eq_true rfl⟩ dX10_ask_101 rfl (fun H locs hw => ?_)
      refine lv_aload_n hx hb dX10_ask_104 rfl (lv_at hl 0 rfl) ?_
      refine gt_X10_51 B hw (i := 0) rfl dX10_ask_105 ?_
      refine gt_X10_244 B hw (i := 90) rfl dX10_ask_108 ?_
      cases hf
      subst hQ
      exact x_iret B hr hlk hw rfl (Nat.le_of_ble_eq_true rfl) (Nat.le_of_ble_eq_true rfl) dX10_ask_111
    have hL_66 : ∀ (n_66 : Nat) (x3_18 : Int32) (M_19 : Mem) (H : Heap) (locs : List Loc) (ls : Array Slot), HW LC X M_19 s H locs → lv_has ls 4 [(0, .ref (X.2.2 0)), (3, .int x3_18)] → f_X10_ask_L66 fu k97_14 n_66 x3_18 M_19 = some rs → W p l e rm_X10_ask s m args below meth c H locs 2 12 Q (F0 m 66 ls []) := by
      intro n_66
      induction n_66 with
      | zero => intro x3_18 M_19 H locs ls hw hl hf; exact no_none hf
      | succ n_66 ih_66 =>
        intro x3_18 M_19 H locs ls hw hl hf
        rw [f_X10_ask_L66] at hf
        refine lv_iload_n hx hb dX10_ask_66 rfl (lv_at hl 1 rfl) ?_
        refine lv_aload_n hx hb dX10_ask_67 rfl (lv_at hl 0 rfl) ?_
        refine gt_X10_44 B hw (i := 0) rfl dX10_ask_68 ?_
        refine gt_X10_187 B hw (i := 80) rfl dX10_ask_71 ?_
        refine lv_icmp_ge (tgt := 97) hx hb dX10_ask_74 (by decide) (fun c_20 => ?_) (fun c_20 => ?_)
        · have hf := it_e hf c_20
          exact J97_14 M_19 _ _ _ hw (lv_sub hl [0] rfl) hf
        · have hf := ie_e hf c_20
          refine lv_aload_n hx hb dX10_ask_77 rfl (lv_at hl 0 rfl) ?_
          refine gt_X10_63 B hw (i := 0) rfl dX10_ask_78 ?_
          refine lv_aload_n hx hb dX10_ask_81 rfl (lv_at hl 0 rfl) ?_
          refine gt_X10_63 B hw (i := 0) rfl dX10_ask_82 ?_
          obtain ⟨r_22, h_21, hf⟩ := bd_e hf
          refine q_callVi (M' := M_19) (i := 120) (As := []) (rest := [.ref (X.2.2 120)]) B hw (c_X1_nextSeat l X fu M_19 r_22 h_21 _) cv_X10_234 (rc_1 B hw rfl) rfl hl.1 rfl rfl ⟨Nat.le_of_ble_eq_true rfl, Nat.le_of_ble_eq_true rfl⟩ (Nat.le_of_ble_eq_true rfl) ⟨Nat.le_of_ble_eq_true rfl, Nat.le_of_ble_eq_true rfl⟩ dX10_ask_85 rfl (fun H locs hw => ?_)
          obtain ⟨M_24, h_23, hf⟩ := bd_e hf
          refine q_callVv (M' := M_24) (i := 120) (As := [.int r_22]) (rest := []) B hw (c_X1_takeSeat l X fu r_22 M_19 M_24 h_23 _) cv_X10_238 (rc_1 B hw rfl) rfl hl.1 rfl rfl ⟨Nat.le_of_ble_eq_true rfl, Nat.le_of_ble_eq_true rfl⟩ (Nat.le_of_ble_eq_true rfl) ⟨Nat.le_of_ble_eq_true rfl, Nat.le_of_ble_eq_true rfl⟩ dX10_ask_88 rfl (fun H locs hw => ?_)
          refine r_iinc (v := (x3_18 + 1)) hx hb dX10_ask_91 hl (k := 1) rfl rfl (by decide) hf (fun x3_25 ls hl hf => ?_)
          have hl : lv_has ls 4 [(3, .int x3_25), (0, .ref (X.2.2 0))] := hl
          refine lv_goto (tgt := 66) hx hb dX10_ask_94 (by decide) ?_
          exact ih_66 x3_25 M_24 _ _ _ hw (lv_sub hl [1, 0] rfl) hf
    exact hL_66 fu 0 M_13 _ _ _ hw (lv_sub hl [1, 0] rfl) hf
abbrev rm_X10_answer : Room := { frames := 7, cells := 1, slots := 6, locals := 110 }
set_option maxRecDepth 100000 in
set_option maxHeartbeats 4000000 in
theorem c_X10_answer (l : Launch) (hfl : l.stackTraces = false) (X : XT) (fu : Nat) (p1 : Int32) (p2 : Int32) (M : Mem)  (rs : XR) (hf : f_X10_answer fu p1 p2 M = some rs) (sz : Nat) : vx_Met l yX10_answer (wbig yX10_answer cX10_answer 3 (some .int)) rm_X10_answer (va_Pc [.ref (X.2.2 0), .int p1, .int p2] (PXW LC X M sz)) (XQi LC X rs sz) (XXC LC X rs sz) 1 6 (AX LC X sz) := by
  refine metx_go (L := LC) (M := M) (by decide +kernel) (Nat.le_of_ble_eq_true rfl) ?_
  intro p e s m args below meth c hsz B T hr hlk hxt hw ls hl
  subst hsz
  have hx := B.hx
  have hb := B.hb
  have hl : lv_has ls 3 [(0, .ref (X.2.2 0)), (1, .int p1), (2, .int p2)] := hl
  generalize hQ : vx_MQ below _ _ args s _ _ (AX LC X s.heap.size) = Q
  unfold f_X10_answer at hf
  refine lv_aload_n hx hb dX10_answer_0 rfl (lv_at hl 0 rfl) ?_
  refine gt_X10_51 B hw (i := 0) rfl dX10_answer_1 ?_
  refine lv_iload_n hx hb dX10_answer_4 rfl (lv_at hl 1 rfl) ?_
  refine lv_iload_n hx hb dX10_answer_5 rfl (lv_at hl 2 rfl) ?_
  obtain ⟨r_2, h_1, hf⟩ := bd_e hf
  refine q_callVi (M' := M) (i := 90) (As := [.int p1, .int p2]) (rest := []) B hw (c_X0_hasCell l X fu 90 p1 p2 M rfl r_2 h_1 _) cv_X10_245 (rc_0 B hw rfl) rfl hl.1 rfl rfl ⟨Nat.le_of_ble_eq_true rfl, Nat.le_of_ble_eq_true rfl⟩ (Nat.le_of_ble_eq_true rfl) ⟨Nat.le_of_ble_eq_true rfl, Nat.le_of_ble_eq_true rfl⟩ dX10_answer_6 rfl (fun H locs hw => ?_)
  rcases bxm_e hf with ⟨r_3, h_5, hr0, hr1, hr2⟩ | ⟨r_3, M_4, h_5, hf⟩
  · subst hQ
    refine x_callS (As := [.int r_2]) (rest := []) B T hw (c_X10_needPlace l hfl X fu r_2 M r_3 h_5 _) cs_X10_125 rfl hl.1 rfl rfl ⟨(Nat.le_of_ble_eq_true rfl), (Nat.le_of_ble_eq_true rfl)⟩ (Nat.le_of_ble_eq_true rfl) ⟨(Nat.le_of_ble_eq_true rfl), (Nat.le_of_ble_eq_true rfl)⟩ dX10_answer_9 rfl (fun E ce q9 H1 locs1 g1 g2 g3 g4 g5 g6 => ?_) (fun g1 => absurd g1 hr0)
    exact x_on hxt hlk g1 g2 g3 g4 g5 g6 hr1 hr2 (Nat.le_of_ble_eq_true rfl) (Nat.le_of_ble_eq_true rfl)
  refine x_callS (As := [.int r_2]) (rest := []) B T hw (c_X10_needPlace l hfl X fu r_2 M (0, r_3, M_4) h_5 _) cs_X10_125 rfl hl.1 rfl rfl ⟨(Nat.le_of_ble_eq_true rfl), (Nat.le_of_ble_eq_true rfl)⟩ (Nat.le_of_ble_eq_true rfl) ⟨(Nat.le_of_ble_eq_true rfl), (Nat.le_of_ble_eq_true rfl)⟩ dX10_answer_9 rfl (fun _ _ _ _ _ g1 => absurd rfl g1) (fun _ H locs hw => ?_)
  refine lv_aload_n hx hb dX10_answer_12 rfl (lv_at hl 0 rfl) ?_
  refine gt_X10_51 B hw (i := 0) rfl dX10_answer_13 ?_
  refine lv_iload_n hx hb dX10_answer_16 rfl (lv_at hl 1 rfl) ?_
  refine lv_iload_n hx hb dX10_answer_17 rfl (lv_at hl 2 rfl) ?_
  obtain ⟨r_7, h_6, hf⟩ := bd_e hf
  refine q_callVi (M' := M_4) (i := 90) (As := [.int p1, .int p2]) (rest := []) B hw (c_X0_answerAt l X fu 90 p1 p2 M_4 rfl r_7 h_6 _) cv_X10_248 (rc_0 B hw rfl) rfl hl.1 rfl rfl ⟨Nat.le_of_ble_eq_true rfl, Nat.le_of_ble_eq_true rfl⟩ (Nat.le_of_ble_eq_true rfl) ⟨Nat.le_of_ble_eq_true rfl, Nat.le_of_ble_eq_true rfl⟩ dX10_answer_18 rfl (fun H locs hw => ?_)
  cases hf
  subst hQ
  exact x_iret B hr hlk hw rfl (Nat.le_of_ble_eq_true rfl) (Nat.le_of_ble_eq_true rfl) dX10_answer_21
abbrev rm_X10_taken : Room := { frames := 8, cells := 1, slots := 6, locals := 131 }
set_option maxRecDepth 100000 in
set_option maxHeartbeats 4000000 in
theorem c_X10_taken (l : Launch) (hfl : l.stackTraces = false) (X : XT) (fu : Nat) (p1 : Int32) (M : Mem)  (rs : XR) (hf : f_X10_taken fu p1 M = some rs) (sz : Nat) : vx_Met l yX10_taken (wbig yX10_taken cX10_taken 2 (some .int)) rm_X10_taken (va_Pc [.ref (X.2.2 0), .int p1] (PXW LC X M sz)) (XQi LC X rs sz) (XXC LC X rs sz) 1 6 (AX LC X sz) := by
  refine metx_go (L := LC) (M := M) (by decide +kernel) (Nat.le_of_ble_eq_true rfl) ?_
  intro p e s m args below meth c hsz B T hr hlk hxt hw ls hl
  subst hsz
  have hx := B.hx
  have hb := B.hb
  have hl : lv_has ls 2 [(0, .ref (X.2.2 0)), (1, .int p1)] := hl
  generalize hQ : vx_MQ below _ _ args s _ _ (AX LC X s.heap.size) = Q
  unfold f_X10_taken at hf
  refine lv_iload_n hx hb dX10_taken_0 rfl (lv_at hl 1 rfl) ?_
  refine lv_aload_n hx hb dX10_taken_1 rfl (lv_at hl 0 rfl) ?_
  refine gt_X10_51 B hw (i := 0) rfl dX10_taken_2 ?_
  refine gt_X10_266 B hw (i := 90) rfl dX10_taken_5 ?_
  rcases bxm_e hf with ⟨r_1, h_3, hr0, hr1, hr2⟩ | ⟨r_1, M_2, h_3, hf⟩
  · subst hQ
    refine x_callS (As := [.int p1, .int (M 90 12)]) (rest := []) B T hw (c_X10_needIndex l hfl X fu p1 (M 90 12) M r_1 h_3 _) cs_X10_76 rfl hl.1 rfl rfl ⟨(Nat.le_of_ble_eq_true rfl), (Nat.le_of_ble_eq_true rfl)⟩ (Nat.le_of_ble_eq_true rfl) ⟨(Nat.le_of_ble_eq_true rfl), (Nat.le_of_ble_eq_true rfl)⟩ dX10_taken_8 rfl (fun E ce q9 H1 locs1 g1 g2 g3 g4 g5 g6 => ?_) (fun g1 => absurd g1 hr0)
    exact x_on hxt hlk g1 g2 g3 g4 g5 g6 hr1 hr2 (Nat.le_of_ble_eq_true rfl) (Nat.le_of_ble_eq_true rfl)
  refine x_callS (As := [.int p1, .int (M 90 12)]) (rest := []) B T hw (c_X10_needIndex l hfl X fu p1 (M 90 12) M (0, r_1, M_2) h_3 _) cs_X10_76 rfl hl.1 rfl rfl ⟨(Nat.le_of_ble_eq_true rfl), (Nat.le_of_ble_eq_true rfl)⟩ (Nat.le_of_ble_eq_true rfl) ⟨(Nat.le_of_ble_eq_true rfl), (Nat.le_of_ble_eq_true rfl)⟩ dX10_taken_8 rfl (fun _ _ _ _ _ g1 => absurd rfl g1) (fun _ H locs hw => ?_)
  refine lv_aload_n hx hb dX10_taken_11 rfl (lv_at hl 0 rfl) ?_
  refine gt_X10_51 B hw (i := 0) rfl dX10_taken_12 ?_
  refine gt_X10_269 B hw (i := 90) rfl dX10_taken_15 ?_
  refine lv_iload_n hx hb dX10_taken_18 rfl (lv_at hl 1 rfl) ?_
  obtain ⟨g_4, hf⟩ := grd_e hf
  refine c_iald B hw (i := 93) rfl g_4 dX10_taken_19 ?_
  refine lv_bipush (v := 10) hx hb dX10_taken_20 (by decide) ?_
  refine lv_imul hx hb dX10_taken_22 ?_
  refine lv_aload_n hx hb dX10_taken_23 rfl (lv_at hl 0 rfl) ?_
  refine gt_X10_51 B hw (i := 0) rfl dX10_taken_24 ?_
  refine gt_X10_272 B hw (i := 90) rfl dX10_taken_27 ?_
  refine lv_iload_n hx hb dX10_taken_30 rfl (lv_at hl 1 rfl) ?_
  refine c_iald B hw (i := 94) rfl g_4 dX10_taken_31 ?_
  refine lv_iadd hx hb dX10_taken_32 ?_
  cases hf
  subst hQ
  exact x_iret B hr hlk hw rfl (Nat.le_of_ble_eq_true rfl) (Nat.le_of_ble_eq_true rfl) dX10_taken_33
abbrev rm_X10_size : Room := { frames := 8, cells := 1, slots := 6, locals := 131 }
set_option maxRecDepth 100000 in
set_option maxHeartbeats 4000000 in
theorem c_X10_size (l : Launch) (hfl : l.stackTraces = false) (X : XT) (fu : Nat) (p1 : Int32) (M : Mem)  (rs : XR) (hf : f_X10_size fu p1 M = some rs) (sz : Nat) : vx_Met l yX10_size (wbig yX10_size cX10_size 2 (some .int)) rm_X10_size (va_Pc [.ref (X.2.2 0), .int p1] (PXW LC X M sz)) (XQi LC X rs sz) (XXC LC X rs sz) 1 6 (AX LC X sz) := by
  refine metx_go (L := LC) (M := M) (by decide +kernel) (Nat.le_of_ble_eq_true rfl) ?_
  intro p e s m args below meth c hsz B T hr hlk hxt hw ls hl
  subst hsz
  have hx := B.hx
  have hb := B.hb
  have hl : lv_has ls 2 [(0, .ref (X.2.2 0)), (1, .int p1)] := hl
  generalize hQ : vx_MQ below _ _ args s _ _ (AX LC X s.heap.size) = Q
  unfold f_X10_size at hf
  refine lv_iload_n hx hb dX10_size_0 rfl (lv_at hl 1 rfl) ?_
  refine lv_bipush (v := 6) hx hb dX10_size_1 (by decide) ?_
  rcases bxm_e hf with ⟨r_1, h_3, hr0, hr1, hr2⟩ | ⟨r_1, M_2, h_3, hf⟩
  · subst hQ
    refine x_callS (As := [.int p1, .int 6]) (rest := []) B T hw (c_X10_needIndex l hfl X fu p1 6 M r_1 h_3 _) cs_X10_76 rfl hl.1 rfl rfl ⟨(Nat.le_of_ble_eq_true rfl), (Nat.le_of_ble_eq_true rfl)⟩ (Nat.le_of_ble_eq_true rfl) ⟨(Nat.le_of_ble_eq_true rfl), (Nat.le_of_ble_eq_true rfl)⟩ dX10_size_3 rfl (fun E ce q9 H1 locs1 g1 g2 g3 g4 g5 g6 => ?_) (fun g1 => absurd g1 hr0)
    exact x_on hxt hlk g1 g2 g3 g4 g5 g6 hr1 hr2 (Nat.le_of_ble_eq_true rfl) (Nat.le_of_ble_eq_true rfl)
  refine x_callS (As := [.int p1, .int 6]) (rest := []) B T hw (c_X10_needIndex l hfl X fu p1 6 M (0, r_1, M_2) h_3 _) cs_X10_76 rfl hl.1 rfl rfl ⟨(Nat.le_of_ble_eq_true rfl), (Nat.le_of_ble_eq_true rfl)⟩ (Nat.le_of_ble_eq_true rfl) ⟨(Nat.le_of_ble_eq_true rfl), (Nat.le_of_ble_eq_true rfl)⟩ dX10_size_3 rfl (fun _ _ _ _ _ g1 => absurd rfl g1) (fun _ H locs hw => ?_)
  refine lv_aload_n hx hb dX10_size_6 rfl (lv_at hl 0 rfl) ?_
  refine gt_X10_37 B hw (i := 0) rfl dX10_size_7 ?_
  refine gt_X10_275 B hw (i := 57) rfl dX10_size_10 ?_
  refine lv_iload_n hx hb dX10_size_13 rfl (lv_at hl 1 rfl) ?_
  obtain ⟨g_4, hf⟩ := grd_e hf
  refine c_iald B hw (i := 59) rfl g_4 dX10_size_14 ?_
  cases hf
  subst hQ
  exact x_iret B hr hlk hw rfl (Nat.le_of_ble_eq_true rfl) (Nat.le_of_ble_eq_true rfl) dX10_size_15
abbrev rm_X10_answersAnew : Room := { frames := 7, cells := 1, slots := 6, locals := 135 }
set_option maxRecDepth 100000 in
set_option maxHeartbeats 4000000 in
theorem c_X10_answersAnew (l : Launch) (hfl : l.stackTraces = false) (X : XT) (fu : Nat) (M : Mem)  (rs : XR) (hf : f_X10_answersAnew fu M = some rs) (sz : Nat) : vx_Met l yX10_answersAnew (wbig yX10_answersAnew cX10_answersAnew 1 (some .int)) rm_X10_answersAnew (va_Pc [.ref (X.2.2 0)] (PXW LC X M sz)) (XQi LC X rs sz) (XXC LC X rs sz) 1 6 (AX LC X sz) := by
  refine metx_go (L := LC) (M := M) (by decide +kernel) (Nat.le_of_ble_eq_true rfl) ?_
  intro p e s m args below meth c hsz B T hr hlk hxt hw ls hl
  subst hsz
  have hx := B.hx
  have hb := B.hb
  have hl : lv_has ls 1 [(0, .ref (X.2.2 0))] := hl
  generalize hQ : vx_MQ below _ _ args s _ _ (AX LC X s.heap.size) = Q
  unfold f_X10_answersAnew at hf
  refine lv_aload_n hx hb dX10_answersAnew_0 rfl (lv_at hl 0 rfl) ?_
  refine gt_X10_44 B hw (i := 0) rfl dX10_answersAnew_1 ?_
  obtain ⟨r_2, h_1, hf⟩ := bd_e hf
  refine q_callVi (M' := M) (i := 80) (As := []) (rest := []) B hw (c_X4_isQuery l X fu M r_2 h_1 _) cv_X10_227 (rc_4 B hw rfl) rfl hl.1 rfl rfl ⟨Nat.le_of_ble_eq_true rfl, Nat.le_of_ble_eq_true rfl⟩ (Nat.le_of_ble_eq_true rfl) ⟨Nat.le_of_ble_eq_true rfl, Nat.le_of_ble_eq_true rfl⟩ dX10_answersAnew_4 rfl (fun H locs hw => ?_)
  rcases bxm_e hf with ⟨r_3, h_5, hr0, hr1, hr2⟩ | ⟨r_3, M_4, h_5, hf⟩
  · subst hQ
    refine x_callS (As := [.int r_2]) (rest := []) B T hw (c_X10_needState l hfl X fu r_2 M r_3 h_5 _) cs_X10_96 rfl hl.1 rfl rfl ⟨(Nat.le_of_ble_eq_true rfl), (Nat.le_of_ble_eq_true rfl)⟩ (Nat.le_of_ble_eq_true rfl) ⟨(Nat.le_of_ble_eq_true rfl), (Nat.le_of_ble_eq_true rfl)⟩ dX10_answersAnew_7 rfl (fun E ce q9 H1 locs1 g1 g2 g3 g4 g5 g6 => ?_) (fun g1 => absurd g1 hr0)
    exact x_on hxt hlk g1 g2 g3 g4 g5 g6 hr1 hr2 (Nat.le_of_ble_eq_true rfl) (Nat.le_of_ble_eq_true rfl)
  refine x_callS (As := [.int r_2]) (rest := []) B T hw (c_X10_needState l hfl X fu r_2 M (0, r_3, M_4) h_5 _) cs_X10_96 rfl hl.1 rfl rfl ⟨(Nat.le_of_ble_eq_true rfl), (Nat.le_of_ble_eq_true rfl)⟩ (Nat.le_of_ble_eq_true rfl) ⟨(Nat.le_of_ble_eq_true rfl), (Nat.le_of_ble_eq_true rfl)⟩ dX10_answersAnew_7 rfl (fun _ _ _ _ _ g1 => absurd rfl g1) (fun _ H locs hw => ?_)
  refine lv_aload_n hx hb dX10_answersAnew_10 rfl (lv_at hl 0 rfl) ?_
  obtain ⟨M_7, h_6, hf⟩ := bd_e hf
  refine q_callVv (M' := M_7) (i := 0) (As := []) (rest := []) B hw (c_X10_makeAnew l X fu M_4 M_7 h_6 _) cv_X10_279 (rc_10 B hw rfl) rfl hl.1 rfl rfl ⟨Nat.le_of_ble_eq_true rfl, Nat.le_of_ble_eq_true rfl⟩ (Nat.le_of_ble_eq_true rfl) ⟨Nat.le_of_ble_eq_true rfl, Nat.le_of_ble_eq_true rfl⟩ dX10_answersAnew_11 rfl (fun H locs hw => ?_)
  refine lv_aload_n hx hb dX10_answersAnew_14 rfl (lv_at hl 0 rfl) ?_
  refine gt_X10_55 B hw (i := 0) rfl dX10_answersAnew_15 ?_
  refine gt_X10_244 B hw (i := 105) rfl dX10_answersAnew_18 ?_
  cases hf
  subst hQ
  exact x_iret B hr hlk hw rfl (Nat.le_of_ble_eq_true rfl) (Nat.le_of_ble_eq_true rfl) dX10_answersAnew_21
abbrev rm_X10_answerAnew : Room := { frames := 7, cells := 2, slots := 12, locals := 135 }
set_option maxRecDepth 100000 in
set_option maxHeartbeats 4000000 in
theorem c_X10_answerAnew (l : Launch) (hfl : l.stackTraces = false) (X : XT) (fu : Nat) (p1 : Int32) (p2 : Int32) (M : Mem)  (rs : XR) (hf : f_X10_answerAnew fu p1 p2 M = some rs) (sz : Nat) : vx_Met l yX10_answerAnew (wbig yX10_answerAnew cX10_answerAnew 3 (some .int)) rm_X10_answerAnew (va_Pc [.ref (X.2.2 0), .int p1, .int p2] (PXW LC X M sz)) (XQi LC X rs sz) (XXC LC X rs sz) 2 12 (AX LC X sz) := by
  refine metx_go (L := LC) (M := M) (by decide +kernel) (Nat.le_of_ble_eq_true rfl) ?_
  intro p e s m args below meth c hsz B T hr hlk hxt hw ls hl
  subst hsz
  have hx := B.hx
  have hb := B.hb
  have hl : lv_has ls 3 [(0, .ref (X.2.2 0)), (1, .int p1), (2, .int p2)] := hl
  generalize hQ : vx_MQ below _ _ args s _ _ (AX LC X s.heap.size) = Q
  unfold f_X10_answerAnew at hf
  refine lv_aload_n hx hb dX10_answerAnew_0 rfl (lv_at hl 0 rfl) ?_
  refine gt_X10_44 B hw (i := 0) rfl dX10_answerAnew_1 ?_
  obtain ⟨r_2, h_1, hf⟩ := bd_e hf
  refine q_callVi (M' := M) (i := 80) (As := []) (rest := []) B hw (c_X4_isQuery l X fu M r_2 h_1 _) cv_X10_227 (rc_4 B hw rfl) rfl hl.1 rfl rfl ⟨Nat.le_of_ble_eq_true rfl, Nat.le_of_ble_eq_true rfl⟩ (Nat.le_of_ble_eq_true rfl) ⟨Nat.le_of_ble_eq_true rfl, Nat.le_of_ble_eq_true rfl⟩ dX10_answerAnew_4 rfl (fun H locs hw => ?_)
  rcases bxm_e hf with ⟨r_3, h_5, hr0, hr1, hr2⟩ | ⟨r_3, M_4, h_5, hf⟩
  · subst hQ
    refine x_callS (As := [.int r_2]) (rest := []) B T hw (c_X10_needState l hfl X fu r_2 M r_3 h_5 _) cs_X10_96 rfl hl.1 rfl rfl ⟨(Nat.le_of_ble_eq_true rfl), (Nat.le_of_ble_eq_true rfl)⟩ (Nat.le_of_ble_eq_true rfl) ⟨(Nat.le_of_ble_eq_true rfl), (Nat.le_of_ble_eq_true rfl)⟩ dX10_answerAnew_7 rfl (fun E ce q9 H1 locs1 g1 g2 g3 g4 g5 g6 => ?_) (fun g1 => absurd g1 hr0)
    exact x_on hxt hlk g1 g2 g3 g4 g5 g6 hr1 hr2 (Nat.le_of_ble_eq_true rfl) (Nat.le_of_ble_eq_true rfl)
  refine x_callS (As := [.int r_2]) (rest := []) B T hw (c_X10_needState l hfl X fu r_2 M (0, r_3, M_4) h_5 _) cs_X10_96 rfl hl.1 rfl rfl ⟨(Nat.le_of_ble_eq_true rfl), (Nat.le_of_ble_eq_true rfl)⟩ (Nat.le_of_ble_eq_true rfl) ⟨(Nat.le_of_ble_eq_true rfl), (Nat.le_of_ble_eq_true rfl)⟩ dX10_answerAnew_7 rfl (fun _ _ _ _ _ g1 => absurd rfl g1) (fun _ H locs hw => ?_)
  refine lv_aload_n hx hb dX10_answerAnew_10 rfl (lv_at hl 0 rfl) ?_
  obtain ⟨M_7, h_6, hf⟩ := bd_e hf
  refine q_callVv (M' := M_7) (i := 0) (As := []) (rest := []) B hw (c_X10_makeAnew l X fu M_4 M_7 h_6 _) cv_X10_279 (rc_10 B hw rfl) rfl hl.1 rfl rfl ⟨Nat.le_of_ble_eq_true rfl, Nat.le_of_ble_eq_true rfl⟩ (Nat.le_of_ble_eq_true rfl) ⟨Nat.le_of_ble_eq_true rfl, Nat.le_of_ble_eq_true rfl⟩ dX10_answerAnew_11 rfl (fun H locs hw => ?_)
  refine lv_aload_n hx hb dX10_answerAnew_14 rfl (lv_at hl 0 rfl) ?_
  refine gt_X10_55 B hw (i := 0) rfl dX10_answerAnew_15 ?_
  refine lv_iload_n hx hb dX10_answerAnew_18 rfl (lv_at hl 1 rfl) ?_
  refine lv_iload_n hx hb dX10_answerAnew_19 rfl (lv_at hl 2 rfl) ?_
  obtain ⟨r_9, h_8, hf⟩ := bd_e hf
  refine q_callVi (M' := M_7) (i := 105) (As := [.int p1, .int p2]) (rest := []) B hw (c_X0_hasCell l X fu 105 p1 p2 M_7 rfl r_9 h_8 _) cv_X10_245 (rc_0 B hw rfl) rfl hl.1 rfl rfl ⟨Nat.le_of_ble_eq_true rfl, Nat.le_of_ble_eq_true rfl⟩ (Nat.le_of_ble_eq_true rfl) ⟨Nat.le_of_ble_eq_true rfl, Nat.le_of_ble_eq_true rfl⟩ dX10_answerAnew_20 rfl (fun H locs hw => ?_)
  rcases bxm_e hf with ⟨r_10, h_12, hr0, hr1, hr2⟩ | ⟨r_10, M_11, h_12, hf⟩
  · subst hQ
    refine x_callS (As := [.int r_9]) (rest := []) B T hw (c_X10_needPlace l hfl X fu r_9 M_7 r_10 h_12 _) cs_X10_125 rfl hl.1 rfl rfl ⟨(Nat.le_of_ble_eq_true rfl), (Nat.le_of_ble_eq_true rfl)⟩ (Nat.le_of_ble_eq_true rfl) ⟨(Nat.le_of_ble_eq_true rfl), (Nat.le_of_ble_eq_true rfl)⟩ dX10_answerAnew_23 rfl (fun E ce q9 H1 locs1 g1 g2 g3 g4 g5 g6 => ?_) (fun g1 => absurd g1 hr0)
    exact x_on hxt hlk g1 g2 g3 g4 g5 g6 hr1 hr2 (Nat.le_of_ble_eq_true rfl) (Nat.le_of_ble_eq_true rfl)
  refine x_callS (As := [.int r_9]) (rest := []) B T hw (c_X10_needPlace l hfl X fu r_9 M_7 (0, r_10, M_11) h_12 _) cs_X10_125 rfl hl.1 rfl rfl ⟨(Nat.le_of_ble_eq_true rfl), (Nat.le_of_ble_eq_true rfl)⟩ (Nat.le_of_ble_eq_true rfl) ⟨(Nat.le_of_ble_eq_true rfl), (Nat.le_of_ble_eq_true rfl)⟩ dX10_answerAnew_23 rfl (fun _ _ _ _ _ g1 => absurd rfl g1) (fun _ H locs hw => ?_)
  refine lv_aload_n hx hb dX10_answerAnew_26 rfl (lv_at hl 0 rfl) ?_
  refine gt_X10_55 B hw (i := 0) rfl dX10_answerAnew_27 ?_
  refine lv_iload_n hx hb dX10_answerAnew_30 rfl (lv_at hl 1 rfl) ?_
  refine lv_iload_n hx hb dX10_answerAnew_31 rfl (lv_at hl 2 rfl) ?_
  obtain ⟨r_14, h_13, hf⟩ := bd_e hf
  refine q_callVi (M' := M_11) (i := 105) (As := [.int p1, .int p2]) (rest := []) B hw (c_X0_answerAt l X fu 105 p1 p2 M_11 rfl r_14 h_13 _) cv_X10_248 (rc_0 B hw rfl) rfl hl.1 rfl rfl ⟨Nat.le_of_ble_eq_true rfl, Nat.le_of_ble_eq_true rfl⟩ (Nat.le_of_ble_eq_true rfl) ⟨Nat.le_of_ble_eq_true rfl, Nat.le_of_ble_eq_true rfl⟩ dX10_answerAnew_32 rfl (fun H locs hw => ?_)
  cases hf
  subst hQ
  exact x_iret B hr hlk hw rfl (Nat.le_of_ble_eq_true rfl) (Nat.le_of_ble_eq_true rfl) dX10_answerAnew_35
abbrev rm_X10_step : Room := { frames := 8, cells := 3, slots := 18, locals := 131 }
set_option maxRecDepth 100000 in
set_option maxHeartbeats 4000000 in
theorem c_X10_step (l : Launch) (hfl : l.stackTraces = false) (X : XT) (fu : Nat) (p1 : Int32) (p2 : Int32) (p3 : Int32) (p4 : Int32) (p5 : Int32) (p6 : Int32) (M : Mem)  (rs : XR) (hf : f_X10_step fu p1 p2 p3 p4 p5 p6 M = some rs) (sz : Nat) : vx_Met l yX10_step (wbig yX10_step cX10_step 7 (some .int)) rm_X10_step (va_Pc [.ref (X.2.2 0), .int p1, .int p2, .int p3, .int p4, .int p5, .int p6] (PXW LC X M sz)) (XQi LC X rs sz) (XXC LC X rs sz) 3 18 (AX LC X sz) := by
  refine metx_go (L := LC) (M := M) (by decide +kernel) (Nat.le_of_ble_eq_true rfl) ?_
  intro p e s m args below meth c hsz B T hr hlk hxt hw ls hl
  subst hsz
  have hx := B.hx
  have hb := B.hb
  have hl : lv_has ls 7 [(0, .ref (X.2.2 0)), (1, .int p1), (2, .int p2), (3, .int p3), (4, .int p4), (5, .int p5), (6, .int p6)] := hl
  generalize hQ : vx_MQ below _ _ args s _ _ (AX LC X s.heap.size) = Q
  unfold f_X10_step at hf
  refine lv_iload_n hx hb dX10_step_0 rfl (lv_at hl 2 rfl) ?_
  refine lv_bipush (v := 6) hx hb dX10_step_1 (by decide) ?_
  rcases bxm_e hf with ⟨r_1, h_3, hr0, hr1, hr2⟩ | ⟨r_1, M_2, h_3, hf⟩
  · subst hQ
    refine x_callS (As := [.int p2, .int 6]) (rest := []) B T hw (c_X10_needIndex l hfl X fu p2 6 M r_1 h_3 _) cs_X10_76 rfl hl.1 rfl rfl ⟨(Nat.le_of_ble_eq_true rfl), (Nat.le_of_ble_eq_true rfl)⟩ (Nat.le_of_ble_eq_true rfl) ⟨(Nat.le_of_ble_eq_true rfl), (Nat.le_of_ble_eq_true rfl)⟩ dX10_step_3 rfl (fun E ce q9 H1 locs1 g1 g2 g3 g4 g5 g6 => ?_) (fun g1 => absurd g1 hr0)
    exact x_on hxt hlk g1 g2 g3 g4 g5 g6 hr1 hr2 (Nat.le_of_ble_eq_true rfl) (Nat.le_of_ble_eq_true rfl)
  refine x_callS (As := [.int p2, .int 6]) (rest := []) B T hw (c_X10_needIndex l hfl X fu p2 6 M (0, r_1, M_2) h_3 _) cs_X10_76 rfl hl.1 rfl rfl ⟨(Nat.le_of_ble_eq_true rfl), (Nat.le_of_ble_eq_true rfl)⟩ (Nat.le_of_ble_eq_true rfl) ⟨(Nat.le_of_ble_eq_true rfl), (Nat.le_of_ble_eq_true rfl)⟩ dX10_step_3 rfl (fun _ _ _ _ _ g1 => absurd rfl g1) (fun _ H locs hw => ?_)
  refine lv_iload_n hx hb dX10_step_6 rfl (lv_at hl 1 rfl) ?_
  refine lv_iload hx hb dX10_step_7 (lv_at hl 4 rfl) ?_
  refine lv_iload hx hb dX10_step_9 (lv_at hl 5 rfl) ?_
  refine lv_iload hx hb dX10_step_11 (lv_at hl 6 rfl) ?_
  refine q_callSi (M' := M_2) (As := [.int p1, .int p4, .int p5, .int p6]) (rest := []) B hw (c_X10_isStep l X p1 p4 p5 p6 _ rfl M_2 _) cs_X10_297 rfl hl.1 rfl rfl ⟨Nat.le_of_ble_eq_true rfl, Nat.le_of_ble_eq_true rfl⟩ (Nat.le_of_ble_eq_true rfl) ⟨Nat.le_of_ble_eq_true rfl, Nat.le_of_ble_eq_true rfl⟩ dX10_step_13 rfl (fun H locs hw => ?_)
  rcases bxm_e hf with ⟨r_4, h_6, hr0, hr1, hr2⟩ | ⟨r_4, M_5, h_6, hf⟩
  · subst hQ
    refine x_callS (As := [.int (f_X10_isStep p1 p4 p5 p6)]) (rest := []) B T hw (c_X10_needArgument l hfl X fu (f_X10_isStep p1 p4 p5 p6) M_2 r_4 h_6 _) cs_X10_88 rfl hl.1 rfl rfl ⟨(Nat.le_of_ble_eq_true rfl), (Nat.le_of_ble_eq_true rfl)⟩ (Nat.le_of_ble_eq_true rfl) ⟨(Nat.le_of_ble_eq_true rfl), (Nat.le_of_ble_eq_true rfl)⟩ dX10_step_16 rfl (fun E ce q9 H1 locs1 g1 g2 g3 g4 g5 g6 => ?_) (fun g1 => absurd g1 hr0)
    exact x_on hxt hlk g1 g2 g3 g4 g5 g6 hr1 hr2 (Nat.le_of_ble_eq_true rfl) (Nat.le_of_ble_eq_true rfl)
  refine x_callS (As := [.int (f_X10_isStep p1 p4 p5 p6)]) (rest := []) B T hw (c_X10_needArgument l hfl X fu (f_X10_isStep p1 p4 p5 p6) M_2 (0, r_4, M_5) h_6 _) cs_X10_88 rfl hl.1 rfl rfl ⟨(Nat.le_of_ble_eq_true rfl), (Nat.le_of_ble_eq_true rfl)⟩ (Nat.le_of_ble_eq_true rfl) ⟨(Nat.le_of_ble_eq_true rfl), (Nat.le_of_ble_eq_true rfl)⟩ dX10_step_16 rfl (fun _ _ _ _ _ g1 => absurd rfl g1) (fun _ H locs hw => ?_)
  refine lv_aload_n hx hb dX10_step_19 rfl (lv_at hl 0 rfl) ?_
  refine gt_X10_72 B hw (i := 0) rfl dX10_step_20 ?_
  refine gt_X10_301 B hw (i := 122) rfl dX10_step_23 ?_
  refine lv_iconst (v := 4) hx hb dX10_step_26 (by decide) ?_
  refine nmv_e hf (fun kk => ∀ (H : Heap) (locs : List Loc), HW LC X M_5 s H locs → W p l e rm_X10_step s m args below meth c H locs 2 12 Q (F0 m 35 ls [.int kk])) (fun J => ?_) (fun v_8 hf H locs hw => ?_)
  · refine lv_icmp_ge (tgt := 34) hx hb dX10_step_27 (by decide) (fun c_7 => ?_) (fun c_7 => ?_)
    · rw [if_pos c_7] at J
      refine lv_iconst (v := 0) hx hb dX10_step_34 (by decide) ?_
      exact J _ _ hw
    · rw [if_neg c_7] at J
      refine lv_iconst (v := 1) hx hb dX10_step_30 (by decide) ?_
      refine lv_goto (tgt := 35) hx hb dX10_step_31 (by decide) ?_
      exact J _ _ hw
  · rcases bxm_e hf with ⟨r_9, h_11, hr0, hr1, hr2⟩ | ⟨r_9, M_10, h_11, hf⟩
    · subst hQ
      refine x_callS (As := [.int v_8]) (rest := []) B T hw (c_X10_needState l hfl X fu v_8 M_5 r_9 h_11 _) cs_X10_96 rfl hl.1 rfl rfl ⟨(Nat.le_of_ble_eq_true rfl), (Nat.le_of_ble_eq_true rfl)⟩ (Nat.le_of_ble_eq_true rfl) ⟨(Nat.le_of_ble_eq_true rfl), (Nat.le_of_ble_eq_true rfl)⟩ dX10_step_35 rfl (fun E ce q9 H1 locs1 g1 g2 g3 g4 g5 g6 => ?_) (fun g1 => absurd g1 hr0)
      exact x_on hxt hlk g1 g2 g3 g4 g5 g6 hr1 hr2 (Nat.le_of_ble_eq_true rfl) (Nat.le_of_ble_eq_true rfl)
    refine x_callS (As := [.int v_8]) (rest := []) B T hw (c_X10_needState l hfl X fu v_8 M_5 (0, r_9, M_10) h_11 _) cs_X10_96 rfl hl.1 rfl rfl ⟨(Nat.le_of_ble_eq_true rfl), (Nat.le_of_ble_eq_true rfl)⟩ (Nat.le_of_ble_eq_true rfl) ⟨(Nat.le_of_ble_eq_true rfl), (Nat.le_of_ble_eq_true rfl)⟩ dX10_step_35 rfl (fun _ _ _ _ _ g1 => absurd rfl g1) (fun _ H locs hw => ?_)
    refine lv_aload_n hx hb dX10_step_38 rfl (lv_at hl 0 rfl) ?_
    refine gt_X10_72 B hw (i := 0) rfl dX10_step_39 ?_
    refine lv_iload_n hx hb dX10_step_42 rfl (lv_at hl 1 rfl) ?_
    refine lv_iload_n hx hb dX10_step_43 rfl (lv_at hl 2 rfl) ?_
    refine lv_iload_n hx hb dX10_step_44 rfl (lv_at hl 3 rfl) ?_
    refine lv_iload hx hb dX10_step_45 (lv_at hl 4 rfl) ?_
    refine lv_iload hx hb dX10_step_47 (lv_at hl 5 rfl) ?_
    refine lv_iload hx hb dX10_step_49 (lv_at hl 6 rfl) ?_
    obtain ⟨r_13, M_14, h_12, hf⟩ := bm_e hf
    refine q_callVi (M' := M_14) (i := 122) (As := [.int p1, .int p2, .int p3, .int p4, .int p5, .int p6]) (rest := []) B hw (c_X2_addStep l X fu p1 p2 p3 p4 p5 p6 M_10 (r_13, M_14) h_12 _) cv_X10_302 (rc_2 B hw rfl) rfl hl.1 rfl rfl ⟨Nat.le_of_ble_eq_true rfl, Nat.le_of_ble_eq_true rfl⟩ (Nat.le_of_ble_eq_true rfl) ⟨Nat.le_of_ble_eq_true rfl, Nat.le_of_ble_eq_true rfl⟩ dX10_step_51 rfl (fun H locs hw => ?_)
    cases hf
    subst hQ
    exact x_iret B hr hlk hw rfl (Nat.le_of_ble_eq_true rfl) (Nat.le_of_ble_eq_true rfl) dX10_step_54
abbrev rm_X10_run : Room := { frames := 7, cells := 1, slots := 6, locals := 170 }
set_option maxRecDepth 100000 in
set_option maxHeartbeats 4000000 in
theorem c_X10_run (l : Launch) (hfl : l.stackTraces = false) (X : XT) (fu : Nat) (M : Mem)  (rs : XR) (hf : f_X10_run fu M = some rs) (sz : Nat) : vx_Met l yX10_run (wbig yX10_run cX10_run 1 (some .int)) rm_X10_run (va_Pc [.ref (X.2.2 0)] (PXW LC X M sz)) (XQi LC X rs sz) (XXC LC X rs sz) 1 6 (AX LC X sz) := by
  refine metx_go (L := LC) (M := M) (by decide +kernel) (Nat.le_of_ble_eq_true rfl) ?_
  intro p e s m args below meth c hsz B T hr hlk hxt hw ls hl
  subst hsz
  have hx := B.hx
  have hb := B.hb
  have hl : lv_has ls 1 [(0, .ref (X.2.2 0))] := hl
  generalize hQ : vx_MQ below _ _ args s _ _ (AX LC X s.heap.size) = Q
  unfold f_X10_run at hf
  refine lv_aload_n hx hb dX10_run_0 rfl (lv_at hl 0 rfl) ?_
  refine gt_X10_72 B hw (i := 0) rfl dX10_run_1 ?_
  refine gt_X10_301 B hw (i := 122) rfl dX10_run_4 ?_
  refine nmv_e hf (fun kk => ∀ (H : Heap) (locs : List Loc), HW LC X M s H locs → W p l e rm_X10_run s m args below meth c H locs 0 0 Q (F0 m 15 ls [.int kk])) (fun J => ?_) (fun v_2 hf H locs hw => ?_)
  · refine lv_if_le (tgt := 14) hx hb dX10_run_7 (by decide) (fun c_1 => ?_) (fun c_1 => ?_)
    · rw [if_pos c_1] at J
      refine lv_iconst (v := 0) hx hb dX10_run_14 (by decide) ?_
      exact J _ _ hw
    · rw [if_neg c_1] at J
      refine lv_iconst (v := 1) hx hb dX10_run_10 (by decide) ?_
      refine lv_goto (tgt := 15) hx hb dX10_run_11 (by decide) ?_
      exact J _ _ hw
  · rcases bxm_e hf with ⟨r_3, h_5, hr0, hr1, hr2⟩ | ⟨r_3, M_4, h_5, hf⟩
    · subst hQ
      refine x_callS (As := [.int v_2]) (rest := []) B T hw (c_X10_needState l hfl X fu v_2 M r_3 h_5 _) cs_X10_96 rfl hl.1 rfl rfl ⟨(Nat.le_of_ble_eq_true rfl), (Nat.le_of_ble_eq_true rfl)⟩ (Nat.le_of_ble_eq_true rfl) ⟨(Nat.le_of_ble_eq_true rfl), (Nat.le_of_ble_eq_true rfl)⟩ dX10_run_15 rfl (fun E ce q9 H1 locs1 g1 g2 g3 g4 g5 g6 => ?_) (fun g1 => absurd g1 hr0)
      exact x_on hxt hlk g1 g2 g3 g4 g5 g6 hr1 hr2 (Nat.le_of_ble_eq_true rfl) (Nat.le_of_ble_eq_true rfl)
    refine x_callS (As := [.int v_2]) (rest := []) B T hw (c_X10_needState l hfl X fu v_2 M (0, r_3, M_4) h_5 _) cs_X10_96 rfl hl.1 rfl rfl ⟨(Nat.le_of_ble_eq_true rfl), (Nat.le_of_ble_eq_true rfl)⟩ (Nat.le_of_ble_eq_true rfl) ⟨(Nat.le_of_ble_eq_true rfl), (Nat.le_of_ble_eq_true rfl)⟩ dX10_run_15 rfl (fun _ _ _ _ _ g1 => absurd rfl g1) (fun _ H locs hw => ?_)
    refine lv_aload_n hx hb dX10_run_18 rfl (lv_at hl 0 rfl) ?_
    refine gt_X10_72 B hw (i := 0) rfl dX10_run_19 ?_
    obtain ⟨r_7, M_8, h_6, hf⟩ := bm_e hf
    refine q_callVi (M' := M_8) (i := 122) (As := []) (rest := []) B hw (c_X2_runSteps l X fu M_4 (r_7, M_8) h_6 _) cv_X10_306 (rc_2 B hw rfl) rfl hl.1 rfl rfl ⟨Nat.le_of_ble_eq_true rfl, Nat.le_of_ble_eq_true rfl⟩ (Nat.le_of_ble_eq_true rfl) ⟨Nat.le_of_ble_eq_true rfl, Nat.le_of_ble_eq_true rfl⟩ dX10_run_22 rfl (fun H locs hw => ?_)
    cases hf
    subst hQ
    exact x_iret B hr hlk hw rfl (Nat.le_of_ble_eq_true rfl) (Nat.le_of_ble_eq_true rfl) dX10_run_25
