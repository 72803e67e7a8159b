abbrev rm_X11_cell : Room := { frames := 2, cells := 0, slots := 0, locals := 43 }
set_option maxRecDepth 100000 in
set_option maxHeartbeats 4000000 in
theorem c_X11_cell (l : Launch) (X : XT) (fu : Nat) (p1 : Int32) (p2 : Int32) (p3 : Int32) (M : Mem)  (rs : (Int32 × Mem)) (hf : f_X11_cell fu p1 p2 p3 M = some rs) (sz : Nat) : Met l yX11_cell (wbig yX11_cell cX11_cell 4 (some .int)) rm_X11_cell (va_Pc [.ref (X.2.2 0), .int p1, .int p2, .int p3] (PW LM X M sz)) (QI LM X rs.2 rs.1 sz) 0 0 (AX LM X sz) := by
  refine met_go (L := LM) (M := M) (by decide +kernel) (Nat.le_of_ble_eq_true rfl) ?_
  intro p e s m args below meth c hsz B hr hlk hw ls hl
  subst hsz
  have hx := B.hx
  have hb := B.hb
  have hl : lv_has ls 4 [(0, .ref (X.2.2 0)), (1, .int p1), (2, .int p2), (3, .int p3)] := hl
  generalize hQ : MQ below _ args s 0 0 (AX LM X s.heap.size) = Q
  unfold f_X11_cell at hf
  refine lv_aload_n hx hb dX11_cell_0 rfl (lv_at hl 0 rfl) ?_
  refine lv_iload_n hx hb dX11_cell_1 rfl (lv_at hl 1 rfl) ?_
  refine q_callSi (M' := M) (As := [.int p1]) (rest := [.ref (X.2.2 0)]) B hw (c_X11_isSource l X p1 _ rfl M _) cs_X11_270 rfl hl.1 rfl rfl ⟨Nat.le_of_ble_eq_true rfl, Nat.le_of_ble_eq_true rfl⟩ (Nat.le_of_ble_eq_true rfl) ⟨Nat.le_of_ble_eq_true rfl, Nat.le_of_ble_eq_true rfl⟩ dX11_cell_2 rfl (fun H locs hw => ?_)
  refine jn_e hf (fun kk => ∀ (v_2 : Int32) (H : Heap) (locs : List Loc) (ls : Array Slot), HW LM X M s H locs → lv_has ls 4 [(0, .ref (X.2.2 0)), (1, .int p1), (2, .int p2), (3, .int p3)] → kk v_2 = some rs → W p l e rm_X11_cell s m args below meth c H locs 0 0 Q (F0 m 31 ls [.int v_2, .ref (X.2.2 0)])) ?_ (fun k31_1 J31_1 hf => ?_)
  · intro v_2 H locs ls hw hl hf
    refine pt_X11_213 B hw dX11_cell_31 hf (fun M_3 H locs hw hf => ?_)
    refine lv_aload_n hx hb dX11_cell_34 rfl (lv_at hl 0 rfl) ?_
    refine gt_X11_213 B hw dX11_cell_35 ?_
    refine lv_if_le (tgt := 45) hx hb dX11_cell_38 (by decide) (fun c_4 => ?_) (fun c_4 => ?_)
    · have hf := it_e hf c_4
      refine lv_aload_n hx hb dX11_cell_45 rfl (lv_at hl 0 rfl) ?_
      refine gt_X11_16 B hw dX11_cell_46 ?_
      refine lv_iconst (v := 4) hx hb dX11_cell_49 (by decide) ?_
      refine lv_bipush (v := 12) hx hb dX11_cell_50 (by decide) ?_
      refine lv_iload_n hx hb dX11_cell_52 rfl (lv_at hl 1 rfl) ?_
      refine lv_imul hx hb dX11_cell_53 ?_
      refine lv_aload_n hx hb dX11_cell_54 rfl (lv_at hl 0 rfl) ?_
      refine lv_iload_n hx hb dX11_cell_55 rfl (lv_at hl 1 rfl) ?_
      refine lv_iload_n hx hb dX11_cell_56 rfl (lv_at hl 2 rfl) ?_
      obtain ⟨r_6, h_5, hf⟩ := bd_e hf
      refine q_callVi (M' := M_3) (i := 0) (As := [.int p1, .int p2]) (rest := [.int (12 * p1), .int 4, .ref (X.2.2 3)]) B hw (c_X11_placeOf l X fu p1 p2 M_3 r_6 h_5 _) cv_X11_252 (rc_11 B hw) rfl hl.1 rfl rfl ⟨Nat.le_of_ble_eq_true rfl, Nat.le_of_ble_eq_true rfl⟩ (Nat.le_of_ble_eq_true rfl) ⟨Nat.le_of_ble_eq_true rfl, Nat.le_of_ble_eq_true rfl⟩ dX11_cell_57 rfl (fun H locs hw => ?_)
      refine lv_iadd hx hb dX11_cell_60 ?_
      refine lv_imul hx hb dX11_cell_61 ?_
      refine lv_iload_n hx hb dX11_cell_62 rfl (lv_at hl 3 rfl) ?_
      refine lv_iadd hx hb dX11_cell_63 ?_
      obtain ⟨g_7, hf⟩ := grd_e hf
      refine m_iald B hw (i := 3) rfl g_7 dX11_cell_64 ?_
      cases hf
      subst hQ
      exact q_iret B hr hlk hw rfl rfl dX11_cell_65
    · have hf := ie_e hf c_4
      refine lv_iconst (v := 0) hx hb dX11_cell_41 (by decide) ?_
      refine lv_goto (tgt := 65) hx hb dX11_cell_42 (by decide) ?_
      cases hf
      subst hQ
      exact q_iret B hr hlk hw rfl rfl dX11_cell_65
  refine jn_e hf (fun kk => ∀ (_ : Unit) (H : Heap) (locs : List Loc) (ls : Array Slot), HW LM X M s H locs → lv_has ls 4 [(0, .ref (X.2.2 0)), (1, .int p1), (2, .int p2), (3, .int p3)] → kk () = some rs → W p l e rm_X11_cell s m args below meth c H locs 0 0 Q (F0 m 26 ls [.ref (X.2.2 0)])) ?_ (fun k26_8 J26_8 hf => ?_)
  · intro _ H locs ls hw hl hf
    refine lv_iconst (v := 1) hx hb dX11_cell_26 (by decide) ?_
    refine lv_goto (tgt := 31) hx hb dX11_cell_27 (by decide) ?_
    exact J31_1 1 _ _ _ hw (lv_sub hl [0, 1, 2, 3] rfl) hf
  refine lv_if_eq (tgt := 26) hx hb dX11_cell_5 (by decide) (fun c_9 => ?_) (fun c_9 => ?_)
  · have hf := it_e hf c_9
    exact J26_8 () _ _ _ hw (lv_sub hl [0, 1, 2, 3] rfl) hf
  · have hf := ie_e hf c_9
    refine lv_aload_n hx hb dX11_cell_8 rfl (lv_at hl 0 rfl) ?_
    refine lv_iload_n hx hb dX11_cell_9 rfl (lv_at hl 1 rfl) ?_
    refine lv_iload_n hx hb dX11_cell_10 rfl (lv_at hl 2 rfl) ?_
    obtain ⟨r_11, h_10, hf⟩ := bd_e hf
    refine q_callVi (M' := M) (i := 0) (As := [.int p1, .int p2]) (rest := [.ref (X.2.2 0)]) B hw (c_X11_placeOf l X fu p1 p2 M r_11 h_10 _) cv_X11_252 (rc_11 B hw) rfl hl.1 rfl rfl ⟨Nat.le_of_ble_eq_true rfl, Nat.le_of_ble_eq_true rfl⟩ (Nat.le_of_ble_eq_true rfl) ⟨Nat.le_of_ble_eq_true rfl, Nat.le_of_ble_eq_true rfl⟩ dX11_cell_11 rfl (fun H locs hw => ?_)
    refine lv_iconst (v := (-1)) hx hb dX11_cell_14 (by decide) ?_
    refine lv_icmp_eq (tgt := 26) hx hb dX11_cell_15 (by decide) (fun c_12 => ?_) (fun c_12 => ?_)
    · have hf := it_e hf c_12
      exact J26_8 () _ _ _ hw (lv_sub hl [0, 1, 2, 3] rfl) hf
    · have hf := ie_e hf c_12
      refine lv_iload_n hx hb dX11_cell_18 rfl (lv_at hl 1 rfl) ?_
      refine lv_iload_n hx hb dX11_cell_19 rfl (lv_at hl 3 rfl) ?_
      refine q_callSi (M' := M) (As := [.int p1, .int p3]) (rest := [.ref (X.2.2 0)]) B hw (c_X11_isColumn l X p1 p3 _ rfl M _) cs_X11_224 rfl hl.1 rfl rfl ⟨Nat.le_of_ble_eq_true rfl, Nat.le_of_ble_eq_true rfl⟩ (Nat.le_of_ble_eq_true rfl) ⟨Nat.le_of_ble_eq_true rfl, Nat.le_of_ble_eq_true rfl⟩ dX11_cell_20 rfl (fun H locs hw => ?_)
      refine lv_if_ne (tgt := 30) hx hb dX11_cell_23 (by decide) (fun c_13 => ?_) (fun c_13 => ?_)
      · have hf := ie_e hf c_13
        refine lv_iconst (v := 0) hx hb dX11_cell_30 (by decide) ?_
        exact J31_1 0 _ _ _ hw (lv_sub hl [0, 1, 2, 3] rfl) hf
      · have hf := it_e hf c_13
        exact J26_8 () _ _ _ hw (lv_sub hl [0, 1, 2, 3] rfl) hf
abbrev rm_X11_losses : Room := { frames := 0, cells := 0, slots := 0, locals := 0 }
set_option maxRecDepth 100000 in
set_option maxHeartbeats 4000000 in
theorem c_X11_losses (l : Launch) (X : XT) (fu : Nat) (M : Mem)  (rs : (Int32 × Mem)) (hf : f_X11_losses fu M = some rs) (sz : Nat) : Met l yX11_losses (wbig yX11_losses cX11_losses 1 (some .int)) rm_X11_losses (va_Pc [.ref (X.2.2 0)] (PW LM X M sz)) (QI LM X rs.2 rs.1 sz) 0 0 (AX LM X sz) := by
  refine met_go (L := LM) (M := M) (by decide +kernel) (Nat.le_of_ble_eq_true rfl) ?_
  intro p e s m args below meth c hsz B hr hlk hw ls hl
  subst hsz
  have hx := B.hx
  have hb := B.hb
  have hl : lv_has ls 1 [(0, .ref (X.2.2 0))] := hl
  generalize hQ : MQ below _ args s 0 0 (AX LM X s.heap.size) = Q
  unfold f_X11_losses at hf
  refine lv_aload_n hx hb dX11_losses_0 rfl (lv_at hl 0 rfl) ?_
  refine lv_iconst (v := 0) hx hb dX11_losses_1 (by decide) ?_
  refine pt_X11_213 B hw dX11_losses_2 hf (fun M_1 H locs hw hf => ?_)
  refine lv_aload_n hx hb dX11_losses_5 rfl (lv_at hl 0 rfl) ?_
  refine gt_X11_256 B hw dX11_losses_6 ?_
  cases hf
  subst hQ
  exact q_iret B hr hlk hw rfl rfl dX11_losses_9
abbrev rm_X11_moment : Room := { frames := 0, cells := 0, slots := 0, locals := 0 }
set_option maxRecDepth 100000 in
set_option maxHeartbeats 4000000 in
theorem c_X11_moment (l : Launch) (X : XT) (fu : Nat) (M : Mem)  (rs : (Int32 × Mem)) (hf : f_X11_moment fu M = some rs) (sz : Nat) : Met l yX11_moment (wbig yX11_moment cX11_moment 1 (some .int)) rm_X11_moment (va_Pc [.ref (X.2.2 0)] (PW LM X M sz)) (QI LM X rs.2 rs.1 sz) 0 0 (AX LM X sz) := by
  refine met_go (L := LM) (M := M) (by decide +kernel) (Nat.le_of_ble_eq_true rfl) ?_
  intro p e s m args below meth c hsz B hr hlk hw ls hl
  subst hsz
  have hx := B.hx
  have hb := B.hb
  have hl : lv_has ls 1 [(0, .ref (X.2.2 0))] := hl
  generalize hQ : MQ below _ args s 0 0 (AX LM X s.heap.size) = Q
  unfold f_X11_moment at hf
  refine lv_aload_n hx hb dX11_moment_0 rfl (lv_at hl 0 rfl) ?_
  refine lv_iconst (v := 0) hx hb dX11_moment_1 (by decide) ?_
  refine pt_X11_213 B hw dX11_moment_2 hf (fun M_1 H locs hw hf => ?_)
  refine lv_aload_n hx hb dX11_moment_5 rfl (lv_at hl 0 rfl) ?_
  refine gt_X11_242 B hw dX11_moment_6 ?_
  cases hf
  subst hQ
  exact q_iret B hr hlk hw rfl rfl dX11_moment_9
abbrev rm_X11_setPace : Room := { frames := 2, cells := 0, slots := 0, locals := 42 }
set_option maxRecDepth 100000 in
set_option maxHeartbeats 4000000 in
theorem c_X11_setPace (l : Launch) (X : XT) (fu : Nat) (p1 : Int32) (p2 : Int32) (p3 : Int32) (M : Mem)  (rs : (Int32 × Mem)) (hf : f_X11_setPace fu p1 p2 p3 M = some rs) (sz : Nat) : Met l yX11_setPace (wbig yX11_setPace cX11_setPace 5 (some .int)) rm_X11_setPace (va_Pc [.ref (X.2.2 0), .int p1, .int p2, .int p3] (PW LM X M sz)) (QI LM X rs.2 rs.1 sz) 0 0 (AX LM X sz) := by
  refine met_go (L := LM) (M := M) (by decide +kernel) (Nat.le_of_ble_eq_true rfl) ?_
  intro p e s m args below meth c hsz B hr hlk hw ls hl
  subst hsz
  have hx := B.hx
  have hb := B.hb
  have hl : lv_has ls 5 [(0, .ref (X.2.2 0)), (1, .int p1), (2, .int p2), (3, .int p3)] := hl
  generalize hQ : MQ below _ args s 0 0 (AX LM X s.heap.size) = Q
  unfold f_X11_setPace at hf
  refine lv_aload_n hx hb dX11_setPace_0 rfl (lv_at hl 0 rfl) ?_
  refine lv_iload_n hx hb dX11_setPace_1 rfl (lv_at hl 1 rfl) ?_
  refine q_callSi (M' := M) (As := [.int p1]) (rest := [.ref (X.2.2 0)]) B hw (c_X11_isStore l X p1 _ rfl M _) cs_X11_290 rfl hl.1 rfl rfl ⟨Nat.le_of_ble_eq_true rfl, Nat.le_of_ble_eq_true rfl⟩ (Nat.le_of_ble_eq_true rfl) ⟨Nat.le_of_ble_eq_true rfl, Nat.le_of_ble_eq_true rfl⟩ dX11_setPace_2 rfl (fun H locs hw => ?_)
  refine nmv_e hf (fun kk => ∀ (H : Heap) (locs : List Loc), HW LM X M s H locs → W p l e rm_X11_setPace s m args below meth c H locs 0 0 Q (F0 m 37 ls [.int kk, .ref (X.2.2 0)])) (fun J => ?_) (fun v_4 hf H locs hw => ?_)
  · refine lv_if_ne (tgt := 12) hx hb dX11_setPace_5 (by decide) (fun c_1 => ?_) (fun c_1 => ?_)
    · rw [if_neg c_1] at J
      refine lv_iload_n hx hb dX11_setPace_12 rfl (lv_at hl 2 rfl) ?_
      refine lv_iconst (v := 0) hx hb dX11_setPace_13 (by decide) ?_
      refine lv_bipush (v := 30) hx hb dX11_setPace_14 (by decide) ?_
      refine q_callSi (M' := M) (As := [.int p2, .int 0, .int 30]) (rest := [.ref (X.2.2 0)]) B hw (c_X11_in l X p2 0 30 _ rfl M _) cs_X11_216 rfl hl.1 rfl rfl ⟨Nat.le_of_ble_eq_true rfl, Nat.le_of_ble_eq_true rfl⟩ (Nat.le_of_ble_eq_true rfl) ⟨Nat.le_of_ble_eq_true rfl, Nat.le_of_ble_eq_true rfl⟩ dX11_setPace_16 rfl (fun H locs hw => ?_)
      refine lv_if_eq (tgt := 36) hx hb dX11_setPace_19 (by decide) (fun c_2 => ?_) (fun c_2 => ?_)
      · rw [if_pos c_2] at J
        refine lv_iconst (v := 2) hx hb dX11_setPace_36 (by decide) ?_
        exact J _ _ hw
      · rw [if_neg c_2] at J
        refine lv_iload_n hx hb dX11_setPace_22 rfl (lv_at hl 3 rfl) ?_
        refine lv_iconst (v := 0) hx hb dX11_setPace_23 (by decide) ?_
        refine lv_bipush (v := 60) hx hb dX11_setPace_24 (by decide) ?_
        refine q_callSi (M' := M) (As := [.int p3, .int 0, .int 60]) (rest := [.ref (X.2.2 0)]) B hw (c_X11_in l X p3 0 60 _ rfl M _) cs_X11_216 rfl hl.1 rfl rfl ⟨Nat.le_of_ble_eq_true rfl, Nat.le_of_ble_eq_true rfl⟩ (Nat.le_of_ble_eq_true rfl) ⟨Nat.le_of_ble_eq_true rfl, Nat.le_of_ble_eq_true rfl⟩ dX11_setPace_26 rfl (fun H locs hw => ?_)
        refine lv_if_eq (tgt := 36) hx hb dX11_setPace_29 (by decide) (fun c_3 => ?_) (fun c_3 => ?_)
        · rw [if_pos c_3] at J
          refine lv_iconst (v := 2) hx hb dX11_setPace_36 (by decide) ?_
          exact J _ _ hw
        · rw [if_neg c_3] at J
          refine lv_iconst (v := 0) hx hb dX11_setPace_32 (by decide) ?_
          refine lv_goto (tgt := 37) hx hb dX11_setPace_33 (by decide) ?_
          exact J _ _ hw
    · rw [if_pos c_1] at J
      refine lv_iconst (v := 1) hx hb dX11_setPace_8 (by decide) ?_
      refine lv_goto (tgt := 37) hx hb dX11_setPace_9 (by decide) ?_
      exact J _ _ hw
  · refine pt_X11_213 B hw dX11_setPace_37 hf (fun M_5 H locs hw hf => ?_)
    refine lv_aload_n hx hb dX11_setPace_40 rfl (lv_at hl 0 rfl) ?_
    refine gt_X11_213 B hw dX11_setPace_41 ?_
    refine lv_if_le (tgt := 49) hx hb dX11_setPace_44 (by decide) (fun c_6 => ?_) (fun c_6 => ?_)
    · have hf := it_e hf c_6
      refine lv_aload_n hx hb dX11_setPace_49 rfl (lv_at hl 0 rfl) ?_
      refine gt_X11_25 B hw dX11_setPace_50 ?_
      refine lv_iload_n hx hb dX11_setPace_53 rfl (lv_at hl 1 rfl) ?_
      obtain ⟨g_7, hf⟩ := grd_e hf
      refine m_iald B hw (i := 6) rfl g_7 dX11_setPace_54 ?_
      refine r_topn hf (fun x4_8 hf => ?_)
      refine lv_istore (lv' := [(4, .int x4_8), (0, .ref (X.2.2 0)), (1, .int p1), (2, .int p2), (3, .int p3)]) hx hb dX11_setPace_55 hl (by decide) rfl (fun ls hl => ?_)
      refine lv_aload_n hx hb dX11_setPace_57 rfl (lv_at hl 1 rfl) ?_
      refine gt_X11_25 B hw dX11_setPace_58 ?_
      refine lv_iload_n hx hb dX11_setPace_61 rfl (lv_at hl 2 rfl) ?_
      refine lv_iload_n hx hb dX11_setPace_62 rfl (lv_at hl 3 rfl) ?_
      refine m_iast B hw (i := 6) rfl g_7 dX11_setPace_63 hf (fun M_9 H locs hw hf => ?_)
      refine lv_aload_n hx hb dX11_setPace_64 rfl (lv_at hl 1 rfl) ?_
      refine gt_X11_28 B hw dX11_setPace_65 ?_
      refine lv_iload_n hx hb dX11_setPace_68 rfl (lv_at hl 2 rfl) ?_
      refine lv_iload_n hx hb dX11_setPace_69 rfl (lv_at hl 4 rfl) ?_
      refine m_iast B hw (i := 7) rfl g_7 dX11_setPace_70 hf (fun M_10 H locs hw hf => ?_)
      refine lv_iload hx hb dX11_setPace_71 (lv_at hl 0 rfl) ?_
      cases hf
      subst hQ
      exact q_iret B hr hlk hw rfl rfl dX11_setPace_73
    · have hf := ie_e hf c_6
      refine lv_iconst (v := 0) hx hb dX11_setPace_47 (by decide) ?_
      cases hf
      subst hQ
      exact q_iret B hr hlk hw rfl rfl dX11_setPace_48
abbrev rm_X11_setBounds : Room := { frames := 2, cells := 0, slots := 0, locals := 42 }
set_option maxRecDepth 100000 in
set_option maxHeartbeats 4000000 in
theorem c_X11_setBounds (l : Launch) (X : XT) (fu : Nat) (p1 : Int32) (p2 : Int32) (p3 : Int32) (M : Mem)  (rs : (Int32 × Mem)) (hf : f_X11_setBounds fu p1 p2 p3 M = some rs) (sz : Nat) : Met l yX11_setBounds (wbig yX11_setBounds cX11_setBounds 5 (some .int)) rm_X11_setBounds (va_Pc [.ref (X.2.2 0), .int p1, .int p2, .int p3] (PW LM X M sz)) (QI LM X rs.2 rs.1 sz) 0 0 (AX LM X sz) := by
  refine met_go (L := LM) (M := M) (by decide +kernel) (Nat.le_of_ble_eq_true rfl) ?_
  intro p e s m args below meth c hsz B hr hlk hw ls hl
  subst hsz
  have hx := B.hx
  have hb := B.hb
  have hl : lv_has ls 5 [(0, .ref (X.2.2 0)), (1, .int p1), (2, .int p2), (3, .int p3)] := hl
  generalize hQ : MQ below _ args s 0 0 (AX LM X s.heap.size) = Q
  unfold f_X11_setBounds at hf
  refine lv_aload_n hx hb dX11_setBounds_0 rfl (lv_at hl 0 rfl) ?_
  refine lv_iload_n hx hb dX11_setBounds_1 rfl (lv_at hl 1 rfl) ?_
  refine q_callSi (M' := M) (As := [.int p1]) (rest := [.ref (X.2.2 0)]) B hw (c_X11_isStore l X p1 _ rfl M _) cs_X11_290 rfl hl.1 rfl rfl ⟨Nat.le_of_ble_eq_true rfl, Nat.le_of_ble_eq_true rfl⟩ (Nat.le_of_ble_eq_true rfl) ⟨Nat.le_of_ble_eq_true rfl, Nat.le_of_ble_eq_true rfl⟩ dX11_setBounds_2 rfl (fun H locs hw => ?_)
  refine nmv_e hf (fun kk => ∀ (H : Heap) (locs : List Loc), HW LM X M s H locs → W p l e rm_X11_setBounds s m args below meth c H locs 0 0 Q (F0 m 37 ls [.int kk, .ref (X.2.2 0)])) (fun J => ?_) (fun v_4 hf H locs hw => ?_)
  · refine lv_if_ne (tgt := 12) hx hb dX11_setBounds_5 (by decide) (fun c_1 => ?_) (fun c_1 => ?_)
    · rw [if_neg c_1] at J
      refine lv_iload_n hx hb dX11_setBounds_12 rfl (lv_at hl 2 rfl) ?_
      refine lv_iconst (v := 1) hx hb dX11_setBounds_13 (by decide) ?_
      refine lv_bipush (v := 20) hx hb dX11_setBounds_14 (by decide) ?_
      refine q_callSi (M' := M) (As := [.int p2, .int 1, .int 20]) (rest := [.ref (X.2.2 0)]) B hw (c_X11_in l X p2 1 20 _ rfl M _) cs_X11_216 rfl hl.1 rfl rfl ⟨Nat.le_of_ble_eq_true rfl, Nat.le_of_ble_eq_true rfl⟩ (Nat.le_of_ble_eq_true rfl) ⟨Nat.le_of_ble_eq_true rfl, Nat.le_of_ble_eq_true rfl⟩ dX11_setBounds_16 rfl (fun H locs hw => ?_)
      refine lv_if_eq (tgt := 36) hx hb dX11_setBounds_19 (by decide) (fun c_2 => ?_) (fun c_2 => ?_)
      · rw [if_pos c_2] at J
        refine lv_iconst (v := 2) hx hb dX11_setBounds_36 (by decide) ?_
        exact J _ _ hw
      · rw [if_neg c_2] at J
        refine lv_iload_n hx hb dX11_setBounds_22 rfl (lv_at hl 3 rfl) ?_
        refine lv_iconst (v := 0) hx hb dX11_setBounds_23 (by decide) ?_
        refine lv_bipush (v := 12) hx hb dX11_setBounds_24 (by decide) ?_
        refine q_callSi (M' := M) (As := [.int p3, .int 0, .int 12]) (rest := [.ref (X.2.2 0)]) B hw (c_X11_in l X p3 0 12 _ rfl M _) cs_X11_216 rfl hl.1 rfl rfl ⟨Nat.le_of_ble_eq_true rfl, Nat.le_of_ble_eq_true rfl⟩ (Nat.le_of_ble_eq_true rfl) ⟨Nat.le_of_ble_eq_true rfl, Nat.le_of_ble_eq_true rfl⟩ dX11_setBounds_26 rfl (fun H locs hw => ?_)
        refine lv_if_eq (tgt := 36) hx hb dX11_setBounds_29 (by decide) (fun c_3 => ?_) (fun c_3 => ?_)
        · rw [if_pos c_3] at J
          refine lv_iconst (v := 2) hx hb dX11_setBounds_36 (by decide) ?_
          exact J _ _ hw
        · rw [if_neg c_3] at J
          refine lv_iconst (v := 0) hx hb dX11_setBounds_32 (by decide) ?_
          refine lv_goto (tgt := 37) hx hb dX11_setBounds_33 (by decide) ?_
          exact J _ _ hw
    · rw [if_pos c_1] at J
      refine lv_iconst (v := 1) hx hb dX11_setBounds_8 (by decide) ?_
      refine lv_goto (tgt := 37) hx hb dX11_setBounds_9 (by decide) ?_
      exact J _ _ hw
  · refine pt_X11_213 B hw dX11_setBounds_37 hf (fun M_5 H locs hw hf => ?_)
    refine lv_aload_n hx hb dX11_setBounds_40 rfl (lv_at hl 0 rfl) ?_
    refine gt_X11_213 B hw dX11_setBounds_41 ?_
    refine lv_if_le (tgt := 49) hx hb dX11_setBounds_44 (by decide) (fun c_6 => ?_) (fun c_6 => ?_)
    · have hf := it_e hf c_6
      refine lv_aload_n hx hb dX11_setBounds_49 rfl (lv_at hl 0 rfl) ?_
      refine gt_X11_31 B hw dX11_setBounds_50 ?_
      refine lv_iload_n hx hb dX11_setBounds_53 rfl (lv_at hl 1 rfl) ?_
      obtain ⟨g_7, hf⟩ := grd_e hf
      refine m_iald B hw (i := 8) rfl g_7 dX11_setBounds_54 ?_
      refine r_topn hf (fun x4_8 hf => ?_)
      refine lv_istore (lv' := [(4, .int x4_8), (0, .ref (X.2.2 0)), (1, .int p1), (2, .int p2), (3, .int p3)]) hx hb dX11_setBounds_55 hl (by decide) rfl (fun ls hl => ?_)
      refine lv_aload_n hx hb dX11_setBounds_57 rfl (lv_at hl 1 rfl) ?_
      refine gt_X11_31 B hw dX11_setBounds_58 ?_
      refine lv_iload_n hx hb dX11_setBounds_61 rfl (lv_at hl 2 rfl) ?_
      refine lv_iload_n hx hb dX11_setBounds_62 rfl (lv_at hl 3 rfl) ?_
      refine m_iast B hw (i := 8) rfl g_7 dX11_setBounds_63 hf (fun M_9 H locs hw hf => ?_)
      refine lv_aload_n hx hb dX11_setBounds_64 rfl (lv_at hl 1 rfl) ?_
      refine gt_X11_34 B hw dX11_setBounds_65 ?_
      refine lv_iload_n hx hb dX11_setBounds_68 rfl (lv_at hl 2 rfl) ?_
      refine lv_iload_n hx hb dX11_setBounds_69 rfl (lv_at hl 4 rfl) ?_
      refine m_iast B hw (i := 9) rfl g_7 dX11_setBounds_70 hf (fun M_10 H locs hw hf => ?_)
      refine lv_iload hx hb dX11_setBounds_71 (lv_at hl 0 rfl) ?_
      cases hf
      subst hQ
      exact q_iret B hr hlk hw rfl rfl dX11_setBounds_73
    · have hf := ie_e hf c_6
      refine lv_iconst (v := 0) hx hb dX11_setBounds_47 (by decide) ?_
      cases hf
      subst hQ
      exact q_iret B hr hlk hw rfl rfl dX11_setBounds_48
abbrev rm_X11_setLease : Room := { frames := 2, cells := 0, slots := 0, locals := 46 }
set_option maxRecDepth 100000 in
set_option maxHeartbeats 4000000 in
theorem c_X11_setLease (l : Launch) (X : XT) (fu : Nat) (p1 : Int32) (p2 : Int32) (M : Mem)  (rs : (Int32 × Mem)) (hf : f_X11_setLease fu p1 p2 M = some rs) (sz : Nat) : Met l yX11_setLease (wbig yX11_setLease cX11_setLease 4 (some .int)) rm_X11_setLease (va_Pc [.ref (X.2.2 0), .int p1, .int p2] (PW LM X M sz)) (QI LM X rs.2 rs.1 sz) 0 0 (AX LM X sz) := by
  refine met_go (L := LM) (M := M) (by decide +kernel) (Nat.le_of_ble_eq_true rfl) ?_
  intro p e s m args below meth c hsz B hr hlk hw ls hl
  subst hsz
  have hx := B.hx
  have hb := B.hb
  have hl : lv_has ls 4 [(0, .ref (X.2.2 0)), (1, .int p1), (2, .int p2)] := hl
  generalize hQ : MQ below _ args s 0 0 (AX LM X s.heap.size) = Q
  unfold f_X11_setLease at hf
  refine lv_aload_n hx hb dX11_setLease_0 rfl (lv_at hl 0 rfl) ?_
  refine lv_iload_n hx hb dX11_setLease_1 rfl (lv_at hl 1 rfl) ?_
  refine q_callSi (M' := M) (As := [.int p1]) (rest := [.ref (X.2.2 0)]) B hw (c_X11_isStore l X p1 _ rfl M _) cs_X11_290 rfl hl.1 rfl rfl ⟨Nat.le_of_ble_eq_true rfl, Nat.le_of_ble_eq_true rfl⟩ (Nat.le_of_ble_eq_true rfl) ⟨Nat.le_of_ble_eq_true rfl, Nat.le_of_ble_eq_true rfl⟩ dX11_setLease_2 rfl (fun H locs hw => ?_)
  refine nmv_e hf (fun kk => ∀ (H : Heap) (locs : List Loc), HW LM X M s H locs → W p l e rm_X11_setLease s m args below meth c H locs 0 0 Q (F0 m 28 ls [.int kk, .ref (X.2.2 0)])) (fun J => ?_) (fun v_3 hf H locs hw => ?_)
  · refine lv_if_ne (tgt := 12) hx hb dX11_setLease_5 (by decide) (fun c_1 => ?_) (fun c_1 => ?_)
    · rw [if_neg c_1] at J
      refine lv_iload_n hx hb dX11_setLease_12 rfl (lv_at hl 2 rfl) ?_
      refine lv_iconst (v := 0) hx hb dX11_setLease_13 (by decide) ?_
      refine lv_sipush (v := 200) hx hb dX11_setLease_14 (by decide) ?_
      refine q_callSi (M' := M) (As := [.int p2, .int 0, .int 200]) (rest := [.ref (X.2.2 0)]) B hw (c_X11_in l X p2 0 200 _ rfl M _) cs_X11_216 rfl hl.1 rfl rfl ⟨Nat.le_of_ble_eq_true rfl, Nat.le_of_ble_eq_true rfl⟩ (Nat.le_of_ble_eq_true rfl) ⟨Nat.le_of_ble_eq_true rfl, Nat.le_of_ble_eq_true rfl⟩ dX11_setLease_17 rfl (fun H locs hw => ?_)
      refine lv_if_eq (tgt := 27) hx hb dX11_setLease_20 (by decide) (fun c_2 => ?_) (fun c_2 => ?_)
      · rw [if_pos c_2] at J
        refine lv_iconst (v := 2) hx hb dX11_setLease_27 (by decide) ?_
        exact J _ _ hw
      · rw [if_neg c_2] at J
        refine lv_iconst (v := 0) hx hb dX11_setLease_23 (by decide) ?_
        refine lv_goto (tgt := 28) hx hb dX11_setLease_24 (by decide) ?_
        exact J _ _ hw
    · rw [if_pos c_1] at J
      refine lv_iconst (v := 1) hx hb dX11_setLease_8 (by decide) ?_
      refine lv_goto (tgt := 28) hx hb dX11_setLease_9 (by decide) ?_
      exact J _ _ hw
  · refine pt_X11_213 B hw dX11_setLease_28 hf (fun M_4 H locs hw hf => ?_)
    refine lv_aload_n hx hb dX11_setLease_31 rfl (lv_at hl 0 rfl) ?_
    refine gt_X11_213 B hw dX11_setLease_32 ?_
    refine lv_if_le (tgt := 40) hx hb dX11_setLease_35 (by decide) (fun c_5 => ?_) (fun c_5 => ?_)
    · have hf := it_e hf c_5
      refine lv_aload_n hx hb dX11_setLease_40 rfl (lv_at hl 0 rfl) ?_
      refine gt_X11_37 B hw dX11_setLease_41 ?_
      refine lv_iload_n hx hb dX11_setLease_44 rfl (lv_at hl 1 rfl) ?_
      obtain ⟨g_6, hf⟩ := grd_e hf
      refine m_iald B hw (i := 10) rfl g_6 dX11_setLease_45 ?_
      refine r_topn hf (fun x3_7 hf => ?_)
      refine lv_istore_n (lv' := [(3, .int x3_7), (0, .ref (X.2.2 0)), (1, .int p1), (2, .int p2)]) hx hb dX11_setLease_46 rfl hl (by decide) rfl (fun ls hl => ?_)
      refine lv_aload_n hx hb dX11_setLease_47 rfl (lv_at hl 1 rfl) ?_
      refine gt_X11_37 B hw dX11_setLease_48 ?_
      refine lv_iload_n hx hb dX11_setLease_51 rfl (lv_at hl 2 rfl) ?_
      refine lv_iload_n hx hb dX11_setLease_52 rfl (lv_at hl 3 rfl) ?_
      refine m_iast B hw (i := 10) rfl g_6 dX11_setLease_53 hf (fun M_8 H locs hw hf => ?_)
      refine lv_aload_n hx hb dX11_setLease_54 rfl (lv_at hl 1 rfl) ?_
      obtain ⟨M_10, h_9, hf⟩ := bd_e hf
      refine q_callVv (M' := M_10) (i := 0) (As := []) (rest := []) B hw (c_X11_drops l X fu M_8 M_10 h_9 _) cv_X11_245 (rc_11 B hw) rfl hl.1 rfl rfl ⟨Nat.le_of_ble_eq_true rfl, Nat.le_of_ble_eq_true rfl⟩ (Nat.le_of_ble_eq_true rfl) ⟨Nat.le_of_ble_eq_true rfl, Nat.le_of_ble_eq_true rfl⟩ dX11_setLease_55 rfl (fun H locs hw => ?_)
      refine lv_iload_n hx hb dX11_setLease_58 rfl (lv_at hl 0 rfl) ?_
      cases hf
      subst hQ
      exact q_iret B hr hlk hw rfl rfl dX11_setLease_59
    · have hf := ie_e hf c_5
      refine lv_iconst (v := 0) hx hb dX11_setLease_38 (by decide) ?_
      cases hf
      subst hQ
      exact q_iret B hr hlk hw rfl rfl dX11_setLease_39
abbrev rm_X11_fail : Room := { frames := 2, cells := 0, slots := 0, locals := 42 }
set_option maxRecDepth 100000 in
set_option maxHeartbeats 4000000 in
theorem c_X11_fail (l : Launch) (X : XT) (fu : Nat) (p1 : Int32) (p2 : Int32) (p3 : Int32) (M : Mem)  (rs : (Int32 × Mem)) (hf : f_X11_fail fu p1 p2 p3 M = some rs) (sz : Nat) : Met l yX11_fail (wbig yX11_fail cX11_fail 5 (some .int)) rm_X11_fail (va_Pc [.ref (X.2.2 0), .int p1, .int p2, .int p3] (PW LM X M sz)) (QI LM X rs.2 rs.1 sz) 0 0 (AX LM X sz) := by
  refine met_go (L := LM) (M := M) (by decide +kernel) (Nat.le_of_ble_eq_true rfl) ?_
  intro p e s m args below meth c hsz B hr hlk hw ls hl
  subst hsz
  have hx := B.hx
  have hb := B.hb
  have hl : lv_has ls 5 [(0, .ref (X.2.2 0)), (1, .int p1), (2, .int p2), (3, .int p3)] := hl
  generalize hQ : MQ below _ args s 0 0 (AX LM X s.heap.size) = Q
  unfold f_X11_fail at hf
  refine lv_aload_n hx hb dX11_fail_0 rfl (lv_at hl 0 rfl) ?_
  refine lv_iload_n hx hb dX11_fail_1 rfl (lv_at hl 1 rfl) ?_
  refine q_callSi (M' := M) (As := [.int p1]) (rest := [.ref (X.2.2 0)]) B hw (c_X11_isStore l X p1 _ rfl M _) cs_X11_290 rfl hl.1 rfl rfl ⟨Nat.le_of_ble_eq_true rfl, Nat.le_of_ble_eq_true rfl⟩ (Nat.le_of_ble_eq_true rfl) ⟨Nat.le_of_ble_eq_true rfl, Nat.le_of_ble_eq_true rfl⟩ dX11_fail_2 rfl (fun H locs hw => ?_)
  refine nmv_e hf (fun kk => ∀ (H : Heap) (locs : List Loc), HW LM X M s H locs → W p l e rm_X11_fail s m args below meth c H locs 0 0 Q (F0 m 27 ls [.int kk, .ref (X.2.2 0)])) (fun J => ?_) (fun v_3 hf H locs hw => ?_)
  · refine lv_if_ne (tgt := 12) hx hb dX11_fail_5 (by decide) (fun c_1 => ?_) (fun c_1 => ?_)
    · rw [if_neg c_1] at J
      refine lv_iload_n hx hb dX11_fail_12 rfl (lv_at hl 2 rfl) ?_
      refine lv_iconst (v := 0) hx hb dX11_fail_13 (by decide) ?_
      refine lv_bipush (v := 20) hx hb dX11_fail_14 (by decide) ?_
      refine q_callSi (M' := M) (As := [.int p2, .int 0, .int 20]) (rest := [.ref (X.2.2 0)]) B hw (c_X11_in l X p2 0 20 _ rfl M _) cs_X11_216 rfl hl.1 rfl rfl ⟨Nat.le_of_ble_eq_true rfl, Nat.le_of_ble_eq_true rfl⟩ (Nat.le_of_ble_eq_true rfl) ⟨Nat.le_of_ble_eq_true rfl, Nat.le_of_ble_eq_true rfl⟩ dX11_fail_16 rfl (fun H locs hw => ?_)
      refine lv_if_eq (tgt := 26) hx hb dX11_fail_19 (by decide) (fun c_2 => ?_) (fun c_2 => ?_)
      · rw [if_pos c_2] at J
        refine lv_iconst (v := 2) hx hb dX11_fail_26 (by decide) ?_
        exact J _ _ hw
      · rw [if_neg c_2] at J
        refine lv_iconst (v := 0) hx hb dX11_fail_22 (by decide) ?_
        refine lv_goto (tgt := 27) hx hb dX11_fail_23 (by decide) ?_
        exact J _ _ hw
    · rw [if_pos c_1] at J
      refine lv_iconst (v := 1) hx hb dX11_fail_8 (by decide) ?_
      refine lv_goto (tgt := 27) hx hb dX11_fail_9 (by decide) ?_
      exact J _ _ hw
  · refine pt_X11_213 B hw dX11_fail_27 hf (fun M_4 H locs hw hf => ?_)
    refine lv_aload_n hx hb dX11_fail_30 rfl (lv_at hl 0 rfl) ?_
    refine gt_X11_213 B hw dX11_fail_31 ?_
    refine lv_if_le (tgt := 39) hx hb dX11_fail_34 (by decide) (fun c_5 => ?_) (fun c_5 => ?_)
    · have hf := it_e hf c_5
      refine lv_aload_n hx hb dX11_fail_39 rfl (lv_at hl 0 rfl) ?_
      refine gt_X11_40 B hw dX11_fail_40 ?_
      refine lv_iload_n hx hb dX11_fail_43 rfl (lv_at hl 1 rfl) ?_
      obtain ⟨g_6, hf⟩ := grd_e hf
      refine m_iald B hw (i := 11) rfl g_6 dX11_fail_44 ?_
      refine r_topn hf (fun x4_7 hf => ?_)
      refine lv_istore (lv' := [(4, .int x4_7), (0, .ref (X.2.2 0)), (1, .int p1), (2, .int p2), (3, .int p3)]) hx hb dX11_fail_45 hl (by decide) rfl (fun ls hl => ?_)
      refine lv_aload_n hx hb dX11_fail_47 rfl (lv_at hl 1 rfl) ?_
      refine gt_X11_40 B hw dX11_fail_48 ?_
      refine lv_iload_n hx hb dX11_fail_51 rfl (lv_at hl 2 rfl) ?_
      refine lv_iload_n hx hb dX11_fail_52 rfl (lv_at hl 3 rfl) ?_
      refine m_iast B hw (i := 11) rfl g_6 dX11_fail_53 hf (fun M_8 H locs hw hf => ?_)
      refine lv_aload_n hx hb dX11_fail_54 rfl (lv_at hl 1 rfl) ?_
      refine gt_X11_43 B hw dX11_fail_55 ?_
      refine lv_iload_n hx hb dX11_fail_58 rfl (lv_at hl 2 rfl) ?_
      refine lv_iload_n hx hb dX11_fail_59 rfl (lv_at hl 4 rfl) ?_
      obtain ⟨g_9, hf⟩ := grd_e hf
      refine m_zast B hw (i := 12) rfl g_6 g_9 dX11_fail_60 hf (fun M_10 H locs hw hf => ?_)
      refine lv_iload hx hb dX11_fail_61 (lv_at hl 0 rfl) ?_
      cases hf
      subst hQ
      exact q_iret B hr hlk hw rfl rfl dX11_fail_63
    · have hf := ie_e hf c_5
      refine lv_iconst (v := 0) hx hb dX11_fail_37 (by decide) ?_
      cases hf
      subst hQ
      exact q_iret B hr hlk hw rfl rfl dX11_fail_38
abbrev rm_X11_isForbidden : Room := { frames := 0, cells := 0, slots := 0, locals := 0 }
set_option maxRecDepth 100000 in
set_option maxHeartbeats 4000000 in
theorem c_X11_isForbidden (l : Launch) (X : XT) (fu : Nat) (p1 : Int32) (p2 : Int32) (M : Mem)  (rs : Int32) (hf : f_X11_isForbidden fu p1 p2 M = some rs) (sz : Nat) : Met l yX11_isForbidden (wbig yX11_isForbidden cX11_isForbidden 3 (some .boolean)) rm_X11_isForbidden (va_Pc [.ref (X.2.2 0), .int p1, .int p2] (PW LM X M sz)) (QI LM X M rs sz) 0 0 (AX LM X sz) := by
  refine met_go (L := LM) (M := M) (by decide +kernel) (Nat.le_of_ble_eq_true rfl) ?_
  intro p e s m args below meth c hsz B hr hlk hw ls hl
  subst hsz
  have hx := B.hx
  have hb := B.hb
  have hl : lv_has ls 3 [(0, .ref (X.2.2 0)), (1, .int p1), (2, .int p2)] := hl
  generalize hQ : MQ below _ args s 0 0 (AX LM X s.heap.size) = Q
  unfold f_X11_isForbidden at hf
  refine lv_aload_n hx hb dX11_isForbidden_0 rfl (lv_at hl 0 rfl) ?_
  refine gt_X11_59 B hw dX11_isForbidden_1 ?_
  refine lv_iload_n hx hb dX11_isForbidden_4 rfl (lv_at hl 1 rfl) ?_
  obtain ⟨g_1, hf⟩ := grd_e hf
  refine m_iald B hw (i := 17) rfl g_1 dX11_isForbidden_5 ?_
  refine lv_iload_n hx hb dX11_isForbidden_6 rfl (lv_at hl 2 rfl) ?_
  refine lv_ishr hx hb dX11_isForbidden_7 ?_
  refine lv_iconst (v := 1) hx hb dX11_isForbidden_8 (by decide) ?_
  refine lv_iand hx hb dX11_isForbidden_9 ?_
  refine lv_iconst (v := 1) hx hb dX11_isForbidden_10 (by decide) ?_
  refine lv_icmp_ne (tgt := 18) hx hb dX11_isForbidden_11 (by decide) (fun c_2 => ?_) (fun c_2 => ?_)
  · have hf := ie_e hf c_2
    refine lv_iconst (v := 0) hx hb dX11_isForbidden_18 (by decide) ?_
    cases hf
    subst hQ
    exact q_zret B hr hlk rfl hw rfl rfl dX11_isForbidden_19
  · have hf := it_e hf c_2
    refine lv_iconst (v := 1) hx hb dX11_isForbidden_14 (by decide) ?_
    refine lv_goto (tgt := 19) hx hb dX11_isForbidden_15 (by decide) ?_
    cases hf
    subst hQ
    exact q_zret B hr hlk rfl hw rfl rfl dX11_isForbidden_19
abbrev rm_X11_forbid : Room := { frames := 2, cells := 0, slots := 0, locals := 42 }
set_option maxRecDepth 100000 in
set_option maxHeartbeats 4000000 in
theorem c_X11_forbid (l : Launch) (X : XT) (fu : Nat) (p1 : Int32) (p2 : Int32) (p3 : Int32) (M : Mem)  (rs : (Int32 × Mem)) (hf : f_X11_forbid fu p1 p2 p3 M = some rs) (sz : Nat) : Met l yX11_forbid (wbig yX11_forbid cX11_forbid 5 (some .boolean)) rm_X11_forbid (va_Pc [.ref (X.2.2 0), .int p1, .int p2, .int p3] (PW LM X M sz)) (QI LM X rs.2 rs.1 sz) 0 0 (AX LM X sz) := by
  refine met_go (L := LM) (M := M) (by decide +kernel) (Nat.le_of_ble_eq_true rfl) ?_
  intro p e s m args below meth c hsz B hr hlk hw ls hl
  subst hsz
  have hx := B.hx
  have hb := B.hb
  have hl : lv_has ls 5 [(0, .ref (X.2.2 0)), (1, .int p1), (2, .int p2), (3, .int p3)] := hl
  generalize hQ : MQ below _ args s 0 0 (AX LM X s.heap.size) = Q
  unfold f_X11_forbid at hf
  refine lv_aload_n hx hb dX11_forbid_0 rfl (lv_at hl 0 rfl) ?_
  refine lv_iload_n hx hb dX11_forbid_1 rfl (lv_at hl 1 rfl) ?_
  refine q_callSi (M' := M) (As := [.int p1]) (rest := [.ref (X.2.2 0)]) B hw (c_X11_isSource l X p1 _ rfl M _) cs_X11_270 rfl hl.1 rfl rfl ⟨Nat.le_of_ble_eq_true rfl, Nat.le_of_ble_eq_true rfl⟩ (Nat.le_of_ble_eq_true rfl) ⟨Nat.le_of_ble_eq_true rfl, Nat.le_of_ble_eq_true rfl⟩ dX11_forbid_2 rfl (fun H locs hw => ?_)
  refine nmv_e hf (fun kk => ∀ (H : Heap) (locs : List Loc), HW LM X M s H locs → W p l e rm_X11_forbid s m args below meth c H locs 0 0 Q (F0 m 20 ls [.int kk, .ref (X.2.2 0)])) (fun J => ?_) (fun v_3 hf H locs hw => ?_)
  · refine lv_if_eq (tgt := 19) hx hb dX11_forbid_5 (by decide) (fun c_1 => ?_) (fun c_1 => ?_)
    · rw [if_pos c_1] at J
      refine lv_iconst (v := 1) hx hb dX11_forbid_19 (by decide) ?_
      exact J _ _ hw
    · rw [if_neg c_1] at J
      refine lv_iload_n hx hb dX11_forbid_8 rfl (lv_at hl 2 rfl) ?_
      refine q_callSi (M' := M) (As := [.int p2]) (rest := [.ref (X.2.2 0)]) B hw (c_X11_isStore l X p2 _ rfl M _) cs_X11_290 rfl hl.1 rfl rfl ⟨Nat.le_of_ble_eq_true rfl, Nat.le_of_ble_eq_true rfl⟩ (Nat.le_of_ble_eq_true rfl) ⟨Nat.le_of_ble_eq_true rfl, Nat.le_of_ble_eq_true rfl⟩ dX11_forbid_9 rfl (fun H locs hw => ?_)
      refine lv_if_eq (tgt := 19) hx hb dX11_forbid_12 (by decide) (fun c_2 => ?_) (fun c_2 => ?_)
      · rw [if_pos c_2] at J
        refine lv_iconst (v := 1) hx hb dX11_forbid_19 (by decide) ?_
        exact J _ _ hw
      · rw [if_neg c_2] at J
        refine lv_iconst (v := 0) hx hb dX11_forbid_15 (by decide) ?_
        refine lv_goto (tgt := 20) hx hb dX11_forbid_16 (by decide) ?_
        exact J _ _ hw
  · refine pt_X11_213 B hw dX11_forbid_20 hf (fun M_4 H locs hw hf => ?_)
    refine lv_aload_n hx hb dX11_forbid_23 rfl (lv_at hl 0 rfl) ?_
    refine gt_X11_213 B hw dX11_forbid_24 ?_
    refine lv_if_le (tgt := 32) hx hb dX11_forbid_27 (by decide) (fun c_5 => ?_) (fun c_5 => ?_)
    · have hf := it_e hf c_5
      refine lv_aload_n hx hb dX11_forbid_32 rfl (lv_at hl 0 rfl) ?_
      refine lv_iload_n hx hb dX11_forbid_33 rfl (lv_at hl 1 rfl) ?_
      refine lv_iload_n hx hb dX11_forbid_34 rfl (lv_at hl 2 rfl) ?_
      obtain ⟨r_7, h_6, hf⟩ := bd_e hf
      refine q_callVi (M' := M_4) (i := 0) (As := [.int p1, .int p2]) (rest := []) B hw (c_X11_isForbidden l X fu p1 p2 M_4 r_7 h_6 _) cv_X11_293 (rc_11 B hw) rfl hl.1 rfl rfl ⟨Nat.le_of_ble_eq_true rfl, Nat.le_of_ble_eq_true rfl⟩ (Nat.le_of_ble_eq_true rfl) ⟨Nat.le_of_ble_eq_true rfl, Nat.le_of_ble_eq_true rfl⟩ dX11_forbid_35 rfl (fun H locs hw => ?_)
      refine lv_istore (lv' := [(4, .int r_7), (0, .ref (X.2.2 0)), (1, .int p1), (2, .int p2), (3, .int p3)]) hx hb dX11_forbid_38 hl (by decide) rfl (fun ls hl => ?_)
      refine lv_aload_n hx hb dX11_forbid_40 rfl (lv_at hl 1 rfl) ?_
      refine gt_X11_59 B hw dX11_forbid_41 ?_
      refine lv_iload_n hx hb dX11_forbid_44 rfl (lv_at hl 2 rfl) ?_
      refine lv_iload_n hx hb dX11_forbid_45 rfl (lv_at hl 4 rfl) ?_
      refine jn_e hf (fun kk => ∀ (v_9 : Int32) (H : Heap) (locs : List Loc) (ls : Array Slot), HW LM X M_4 s H locs → lv_has ls 5 [(4, .int r_7)] → kk v_9 = some rs → W p l e rm_X11_forbid s m args below meth c H locs 0 0 Q (F0 m 74 ls [.int v_9, .int p1, .ref (X.2.2 17)])) ?_ (fun k74_8 J74_8 hf => ?_)
      · intro v_9 H locs ls hw hl hf
        obtain ⟨g_10, hf⟩ := grd_e hf
        refine m_iast B hw (i := 17) rfl g_10 dX11_forbid_74 hf (fun M_11 H locs hw hf => ?_)
        refine lv_iload hx hb dX11_forbid_75 (lv_at hl 0 rfl) ?_
        obtain ⟨g_12, hf⟩ := grd_e hf
        cases hf
        subst hQ
        exact q_zret B hr hlk g_12 hw rfl rfl dX11_forbid_77
      refine lv_if_eq (tgt := 62) hx hb dX11_forbid_46 (by decide) (fun c_13 => ?_) (fun c_13 => ?_)
      · have hf := it_e hf c_13
        refine lv_aload_n hx hb dX11_forbid_62 rfl (lv_at hl 1 rfl) ?_
        refine gt_X11_59 B hw dX11_forbid_63 ?_
        refine lv_iload_n hx hb dX11_forbid_66 rfl (lv_at hl 2 rfl) ?_
        obtain ⟨g_14, hf⟩ := grd_e hf
        refine m_iald B hw (i := 17) rfl g_14 dX11_forbid_67 ?_
        refine lv_iconst (v := 1) hx hb dX11_forbid_68 (by decide) ?_
        refine lv_iload_n hx hb dX11_forbid_69 rfl (lv_at hl 3 rfl) ?_
        refine lv_ishl hx hb dX11_forbid_70 ?_
        refine lv_iconst (v := (-1)) hx hb dX11_forbid_71 (by decide) ?_
        refine lv_ixor hx hb dX11_forbid_72 ?_
        refine lv_iand hx hb dX11_forbid_73 ?_
        exact J74_8 ((M_4 17 p1.toNatClampNeg) &&& ((1 <<< (p2 &&& 31)) ^^^ (-1))) _ _ _ hw (lv_sub hl [0] rfl) hf
      · have hf := ie_e hf c_13
        refine lv_aload_n hx hb dX11_forbid_49 rfl (lv_at hl 1 rfl) ?_
        refine gt_X11_59 B hw dX11_forbid_50 ?_
        refine lv_iload_n hx hb dX11_forbid_53 rfl (lv_at hl 2 rfl) ?_
        obtain ⟨g_15, hf⟩ := grd_e hf
        refine m_iald B hw (i := 17) rfl g_15 dX11_forbid_54 ?_
        refine lv_iconst (v := 1) hx hb dX11_forbid_55 (by decide) ?_
        refine lv_iload_n hx hb dX11_forbid_56 rfl (lv_at hl 3 rfl) ?_
        refine lv_ishl hx hb dX11_forbid_57 ?_
        refine lv_ior hx hb dX11_forbid_58 ?_
        refine lv_goto (tgt := 74) hx hb dX11_forbid_59 (by decide) ?_
        exact J74_8 ((M_4 17 p1.toNatClampNeg) ||| (1 <<< (p2 &&& 31))) _ _ _ hw (lv_sub hl [0] rfl) hf
    · have hf := ie_e hf c_5
      refine lv_iconst (v := 0) hx hb dX11_forbid_30 (by decide) ?_
      cases hf
      subst hQ
      exact q_zret B hr hlk rfl hw rfl rfl dX11_forbid_31
abbrev rm_X11_goes : Room := { frames := 2, cells := 0, slots := 0, locals := 46 }
set_option maxRecDepth 100000 in
set_option maxHeartbeats 4000000 in
theorem c_X11_goes (l : Launch) (X : XT) (fu : Nat) (p1 : Int32) (M : Mem)  (rs : Mem) (hf : f_X11_goes fu p1 M = some rs) (sz : Nat) : Met l yX11_goes (wbig yX11_goes cX11_goes 2 none) rm_X11_goes (va_Pc [.ref (X.2.2 0), .int p1] (PW LM X M sz)) (QV LM X rs sz) 0 0 (AX LM X sz) := by
  refine met_go (L := LM) (M := M) (by decide +kernel) (Nat.le_of_ble_eq_true rfl) ?_
  intro p e s m args below meth c hsz B hr hlk hw ls hl
  subst hsz
  have hx := B.hx
  have hb := B.hb
  have hl : lv_has ls 2 [(0, .ref (X.2.2 0)), (1, .int p1)] := hl
  generalize hQ : MQ below _ args s 0 0 (AX LM X s.heap.size) = Q
  unfold f_X11_goes at hf
  refine lv_aload_n hx hb dX11_goes_0 rfl (lv_at hl 0 rfl) ?_
  refine lv_dup hx hb dX11_goes_1 rfl ?_
  refine gt_X11_235 B hw dX11_goes_2 ?_
  refine lv_iload_n hx hb dX11_goes_5 rfl (lv_at hl 1 rfl) ?_
  refine lv_iadd hx hb dX11_goes_6 ?_
  refine pt_X11_235 B hw dX11_goes_7 hf (fun M_1 H locs hw hf => ?_)
  refine lv_aload_n hx hb dX11_goes_10 rfl (lv_at hl 0 rfl) ?_
  obtain ⟨M_3, h_2, hf⟩ := bd_e hf
  refine q_callVv (M' := M_3) (i := 0) (As := []) (rest := []) B hw (c_X11_drops l X fu M_1 M_3 h_2 _) cv_X11_245 (rc_11 B hw) rfl hl.1 rfl rfl ⟨Nat.le_of_ble_eq_true rfl, Nat.le_of_ble_eq_true rfl⟩ (Nat.le_of_ble_eq_true rfl) ⟨Nat.le_of_ble_eq_true rfl, Nat.le_of_ble_eq_true rfl⟩ dX11_goes_11 rfl (fun H locs hw => ?_)
  cases hf
  subst hQ
  exact q_vret B hr hlk hw rfl dX11_goes_14
abbrev rm_X11_pass : Room := { frames := 3, cells := 0, slots := 0, locals := 67 }
set_option maxRecDepth 100000 in
set_option maxHeartbeats 4000000 in
theorem c_X11_pass (l : Launch) (X : XT) (fu : Nat) (p1 : Int32) (M : Mem)  (rs : (Int32 × Mem)) (hf : f_X11_pass fu p1 M = some rs) (sz : Nat) : Met l yX11_pass (wbig yX11_pass cX11_pass 2 (some .int)) rm_X11_pass (va_Pc [.ref (X.2.2 0), .int p1] (PW LM X M sz)) (QI LM X rs.2 rs.1 sz) 0 0 (AX LM X sz) := by
  refine met_go (L := LM) (M := M) (by decide +kernel) (Nat.le_of_ble_eq_true rfl) ?_
  intro p e s m args below meth c hsz B hr hlk hw ls hl
  subst hsz
  have hx := B.hx
  have hb := B.hb
  have hl : lv_has ls 2 [(0, .ref (X.2.2 0)), (1, .int p1)] := hl
  generalize hQ : MQ below _ args s 0 0 (AX LM X s.heap.size) = Q
  unfold f_X11_pass at hf
  refine lv_aload_n hx hb dX11_pass_0 rfl (lv_at hl 0 rfl) ?_
  refine lv_iload_n hx hb dX11_pass_1 rfl (lv_at hl 1 rfl) ?_
  refine lv_iconst (v := 1) hx hb dX11_pass_2 (by decide) ?_
  refine lv_bipush (v := 100) hx hb dX11_pass_3 (by decide) ?_
  refine q_callSi (M' := M) (As := [.int p1, .int 1, .int 100]) (rest := [.ref (X.2.2 0)]) B hw (c_X11_in l X p1 1 100 _ rfl M _) cs_X11_216 rfl hl.1 rfl rfl ⟨Nat.le_of_ble_eq_true rfl, Nat.le_of_ble_eq_true rfl⟩ (Nat.le_of_ble_eq_true rfl) ⟨Nat.le_of_ble_eq_true rfl, Nat.le_of_ble_eq_true rfl⟩ dX11_pass_5 rfl (fun H locs hw => ?_)
  refine nmv_e hf (fun kk => ∀ (H : Heap) (locs : List Loc), HW LM X M s H locs → W p l e rm_X11_pass s m args below meth c H locs 0 0 Q (F0 m 16 ls [.int kk, .ref (X.2.2 0)])) (fun J => ?_) (fun v_2 hf H locs hw => ?_)
  · refine lv_if_eq (tgt := 15) hx hb dX11_pass_8 (by decide) (fun c_1 => ?_) (fun c_1 => ?_)
    · rw [if_pos c_1] at J
      refine lv_iconst (v := 1) hx hb dX11_pass_15 (by decide) ?_
      exact J _ _ hw
    · rw [if_neg c_1] at J
      refine lv_iconst (v := 0) hx hb dX11_pass_11 (by decide) ?_
      refine lv_goto (tgt := 16) hx hb dX11_pass_12 (by decide) ?_
      exact J _ _ hw
  · refine pt_X11_213 B hw dX11_pass_16 hf (fun M_3 H locs hw hf => ?_)
    refine lv_aload_n hx hb dX11_pass_19 rfl (lv_at hl 0 rfl) ?_
    refine gt_X11_213 B hw dX11_pass_20 ?_
    refine lv_if_le (tgt := 28) hx hb dX11_pass_23 (by decide) (fun c_4 => ?_) (fun c_4 => ?_)
    · have hf := it_e hf c_4
      refine lv_aload_n hx hb dX11_pass_28 rfl (lv_at hl 0 rfl) ?_
      refine lv_iload_n hx hb dX11_pass_29 rfl (lv_at hl 1 rfl) ?_
      obtain ⟨M_6, h_5, hf⟩ := bd_e hf
      refine q_callVv (M' := M_6) (i := 0) (As := [.int p1]) (rest := []) B hw (c_X11_goes l X fu p1 M_3 M_6 h_5 _) cv_X11_296 (rc_11 B hw) rfl hl.1 rfl rfl ⟨Nat.le_of_ble_eq_true rfl, Nat.le_of_ble_eq_true rfl⟩ (Nat.le_of_ble_eq_true rfl) ⟨Nat.le_of_ble_eq_true rfl, Nat.le_of_ble_eq_true rfl⟩ dX11_pass_30 rfl (fun H locs hw => ?_)
      refine lv_aload_n hx hb dX11_pass_33 rfl (lv_at hl 0 rfl) ?_
      refine gt_X11_235 B hw dX11_pass_34 ?_
      cases hf
      subst hQ
      exact q_iret B hr hlk hw rfl rfl dX11_pass_37
    · have hf := ie_e hf c_4
      refine lv_iconst (v := 0) hx hb dX11_pass_26 (by decide) ?_
      cases hf
      subst hQ
      exact q_iret B hr hlk hw rfl rfl dX11_pass_27
abbrev rm_X11_now : Room := { frames := 0, cells := 0, slots := 0, locals := 0 }
set_option maxRecDepth 100000 in
set_option maxHeartbeats 4000000 in
theorem c_X11_now (l : Launch) (X : XT) (fu : Nat) (M : Mem)  (rs : (Int32 × Mem)) (hf : f_X11_now fu M = some rs) (sz : Nat) : Met l yX11_now (wbig yX11_now cX11_now 1 (some .int)) rm_X11_now (va_Pc [.ref (X.2.2 0)] (PW LM X M sz)) (QI LM X rs.2 rs.1 sz) 0 0 (AX LM X sz) := by
  refine met_go (L := LM) (M := M) (by decide +kernel) (Nat.le_of_ble_eq_true rfl) ?_
  intro p e s m args below meth c hsz B hr hlk hw ls hl
  subst hsz
  have hx := B.hx
  have hb := B.hb
  have hl : lv_has ls 1 [(0, .ref (X.2.2 0))] := hl
  generalize hQ : MQ below _ args s 0 0 (AX LM X s.heap.size) = Q
  unfold f_X11_now at hf
  refine lv_aload_n hx hb dX11_now_0 rfl (lv_at hl 0 rfl) ?_
  refine lv_iconst (v := 0) hx hb dX11_now_1 (by decide) ?_
  refine pt_X11_213 B hw dX11_now_2 hf (fun M_1 H locs hw hf => ?_)
  refine lv_aload_n hx hb dX11_now_5 rfl (lv_at hl 0 rfl) ?_
  refine gt_X11_235 B hw dX11_now_6 ?_
  cases hf
  subst hQ
  exact q_iret B hr hlk hw rfl rfl dX11_now_9
abbrev rm_X11_isSeat : Room := { frames := 1, cells := 0, slots := 0, locals := 22 }
set_option maxRecDepth 100000 in
set_option maxHeartbeats 4000000 in
theorem c_X11_isSeat (l : Launch) (X : XT) (fu : Nat) (p1 : Int32) (M : Mem)  (rs : Int32) (hf : f_X11_isSeat fu p1 M = some rs) (sz : Nat) : Met l yX11_isSeat (wbig yX11_isSeat cX11_isSeat 2 (some .boolean)) rm_X11_isSeat (va_Pc [.ref (X.2.2 0), .int p1] (PW LM X M sz)) (QI LM X M rs sz) 0 0 (AX LM X sz) := by
  refine met_go (L := LM) (M := M) (by decide +kernel) (Nat.le_of_ble_eq_true rfl) ?_
  intro p e s m args below meth c hsz B hr hlk hw ls hl
  subst hsz
  have hx := B.hx
  have hb := B.hb
  have hl : lv_has ls 2 [(0, .ref (X.2.2 0)), (1, .int p1)] := hl
  generalize hQ : MQ below _ args s 0 0 (AX LM X s.heap.size) = Q
  unfold f_X11_isSeat at hf
  refine lv_iload_n hx hb dX11_isSeat_0 rfl (lv_at hl 1 rfl) ?_
  refine lv_iconst (v := 0) hx hb dX11_isSeat_1 (by decide) ?_
  refine lv_aload_n hx hb dX11_isSeat_2 rfl (lv_at hl 0 rfl) ?_
  refine gt_X11_299 B hw dX11_isSeat_3 ?_
  refine lv_iconst (v := 1) hx hb dX11_isSeat_6 (by decide) ?_
  refine lv_isub hx hb dX11_isSeat_7 ?_
  refine q_callSi (M' := M) (As := [.int p1, .int 0, .int ((M 0 22) - 1)]) (rest := []) B hw (c_X11_in l X p1 0 ((M 0 22) - 1) _ rfl M _) cs_X11_216 rfl hl.1 rfl rfl ⟨Nat.le_of_ble_eq_true rfl, Nat.le_of_ble_eq_true rfl⟩ (Nat.le_of_ble_eq_true rfl) ⟨Nat.le_of_ble_eq_true rfl, Nat.le_of_ble_eq_true rfl⟩ dX11_isSeat_8 rfl (fun H locs hw => ?_)
  cases hf
  subst hQ
  exact q_zret B hr hlk (isb_f_X11_in _ _ _) hw rfl rfl dX11_isSeat_11
abbrev rm_X11_isSeatColumn : Room := { frames := 2, cells := 0, slots := 0, locals := 43 }
set_option maxRecDepth 100000 in
set_option maxHeartbeats 4000000 in
theorem c_X11_isSeatColumn (l : Launch) (X : XT) (fu : Nat) (p1 : Int32) (p2 : Int32) (M : Mem)  (rs : Int32) (hf : f_X11_isSeatColumn fu p1 p2 M = some rs) (sz : Nat) : Met l yX11_isSeatColumn (wbig yX11_isSeatColumn cX11_isSeatColumn 3 (some .boolean)) rm_X11_isSeatColumn (va_Pc [.ref (X.2.2 0), .int p1, .int p2] (PW LM X M sz)) (QI LM X M rs sz) 0 0 (AX LM X sz) := by
  refine met_go (L := LM) (M := M) (by decide +kernel) (Nat.le_of_ble_eq_true rfl) ?_
  intro p e s m args below meth c hsz B hr hlk hw ls hl
  subst hsz
  have hx := B.hx
  have hb := B.hb
  have hl : lv_has ls 3 [(0, .ref (X.2.2 0)), (1, .int p1), (2, .int p2)] := hl
  generalize hQ : MQ below _ args s 0 0 (AX LM X s.heap.size) = Q
  unfold f_X11_isSeatColumn at hf
  refine lv_aload_n hx hb dX11_isSeatColumn_0 rfl (lv_at hl 0 rfl) ?_
  refine lv_iload_n hx hb dX11_isSeatColumn_1 rfl (lv_at hl 1 rfl) ?_
  obtain ⟨r_2, h_1, hf⟩ := bd_e hf
  refine q_callVi (M' := M) (i := 0) (As := [.int p1]) (rest := []) B hw (c_X11_isSeat l X fu p1 M r_2 h_1 _) cv_X11_302 (rc_11 B hw) rfl hl.1 rfl rfl ⟨Nat.le_of_ble_eq_true rfl, Nat.le_of_ble_eq_true rfl⟩ (Nat.le_of_ble_eq_true rfl) ⟨Nat.le_of_ble_eq_true rfl, Nat.le_of_ble_eq_true rfl⟩ dX11_isSeatColumn_2 rfl (fun H locs hw => ?_)
  refine lv_if_eq (tgt := 25) hx hb dX11_isSeatColumn_5 (by decide) (fun c_3 => ?_) (fun c_3 => ?_)
  · have hf := it_e hf c_3
    refine lv_iconst (v := 0) hx hb dX11_isSeatColumn_25 (by decide) ?_
    cases hf
    subst hQ
    exact q_zret B hr hlk rfl hw rfl rfl dX11_isSeatColumn_26
  · have hf := ie_e hf c_3
    refine lv_aload_n hx hb dX11_isSeatColumn_8 rfl (lv_at hl 0 rfl) ?_
    refine gt_X11_65 B hw dX11_isSeatColumn_9 ?_
    refine lv_iload_n hx hb dX11_isSeatColumn_12 rfl (lv_at hl 1 rfl) ?_
    obtain ⟨g_4, hf⟩ := grd_e hf
    refine m_iald B hw (i := 19) rfl g_4 dX11_isSeatColumn_13 ?_
    refine lv_iload_n hx hb dX11_isSeatColumn_14 rfl (lv_at hl 2 rfl) ?_
    refine q_callSi (M' := M) (As := [.int (M 19 p1.toNatClampNeg), .int p2]) (rest := []) B hw (c_X11_isColumn l X (M 19 p1.toNatClampNeg) p2 _ rfl M _) cs_X11_224 rfl hl.1 rfl rfl ⟨Nat.le_of_ble_eq_true rfl, Nat.le_of_ble_eq_true rfl⟩ (Nat.le_of_ble_eq_true rfl) ⟨Nat.le_of_ble_eq_true rfl, Nat.le_of_ble_eq_true rfl⟩ dX11_isSeatColumn_15 rfl (fun H locs hw => ?_)
    refine lv_if_eq (tgt := 25) hx hb dX11_isSeatColumn_18 (by decide) (fun c_5 => ?_) (fun c_5 => ?_)
    · have hf := it_e hf c_5
      refine lv_iconst (v := 0) hx hb dX11_isSeatColumn_25 (by decide) ?_
      cases hf
      subst hQ
      exact q_zret B hr hlk rfl hw rfl rfl dX11_isSeatColumn_26
    · have hf := ie_e hf c_5
      refine lv_iconst (v := 1) hx hb dX11_isSeatColumn_21 (by decide) ?_
      refine lv_goto (tgt := 26) hx hb dX11_isSeatColumn_22 (by decide) ?_
      cases hf
      subst hQ
      exact q_zret B hr hlk rfl hw rfl rfl dX11_isSeatColumn_26
abbrev rm_X11_seat : Room := { frames := 2, cells := 0, slots := 0, locals := 42 }
set_option maxRecDepth 100000 in
set_option maxHeartbeats 4000000 in
theorem c_X11_seat (l : Launch) (X : XT) (fu : Nat) (p1 : Int32) (M : Mem)  (rs : (Int32 × Mem)) (hf : f_X11_seat fu p1 M = some rs) (sz : Nat) : Met l yX11_seat (wbig yX11_seat cX11_seat 2 (some .int)) rm_X11_seat (va_Pc [.ref (X.2.2 0), .int p1] (PW LM X M sz)) (QI LM X rs.2 rs.1 sz) 0 0 (AX LM X sz) := by
  refine met_go (L := LM) (M := M) (by decide +kernel) (Nat.le_of_ble_eq_true rfl) ?_
  intro p e s m args below meth c hsz B hr hlk hw ls hl
  subst hsz
  have hx := B.hx
  have hb := B.hb
  have hl : lv_has ls 2 [(0, .ref (X.2.2 0)), (1, .int p1)] := hl
  generalize hQ : MQ below _ args s 0 0 (AX LM X s.heap.size) = Q
  unfold f_X11_seat at hf
  refine lv_aload_n hx hb dX11_seat_0 rfl (lv_at hl 0 rfl) ?_
  refine lv_iload_n hx hb dX11_seat_1 rfl (lv_at hl 1 rfl) ?_
  refine q_callSi (M' := M) (As := [.int p1]) (rest := [.ref (X.2.2 0)]) B hw (c_X11_isSource l X p1 _ rfl M _) cs_X11_270 rfl hl.1 rfl rfl ⟨Nat.le_of_ble_eq_true rfl, Nat.le_of_ble_eq_true rfl⟩ (Nat.le_of_ble_eq_true rfl) ⟨Nat.le_of_ble_eq_true rfl, Nat.le_of_ble_eq_true rfl⟩ dX11_seat_2 rfl (fun H locs hw => ?_)
  refine nmv_e hf (fun kk => ∀ (H : Heap) (locs : List Loc), HW LM X M s H locs → W p l e rm_X11_seat s m args below meth c H locs 0 0 Q (F0 m 25 ls [.int kk, .ref (X.2.2 0)])) (fun J => ?_) (fun v_3 hf H locs hw => ?_)
  · refine lv_if_ne (tgt := 12) hx hb dX11_seat_5 (by decide) (fun c_1 => ?_) (fun c_1 => ?_)
    · rw [if_neg c_1] at J
      refine lv_aload_n hx hb dX11_seat_12 rfl (lv_at hl 0 rfl) ?_
      refine gt_X11_299 B hw dX11_seat_13 ?_
      refine lv_iconst (v := 3) hx hb dX11_seat_16 (by decide) ?_
      refine lv_icmp_ne (tgt := 24) hx hb dX11_seat_17 (by decide) (fun c_2 => ?_) (fun c_2 => ?_)
      · rw [if_neg c_2] at J
        refine lv_iconst (v := 0) hx hb dX11_seat_24 (by decide) ?_
        exact J _ _ hw
      · rw [if_pos c_2] at J
        refine lv_iconst (v := 2) hx hb dX11_seat_20 (by decide) ?_
        refine lv_goto (tgt := 25) hx hb dX11_seat_21 (by decide) ?_
        exact J _ _ hw
    · rw [if_pos c_1] at J
      refine lv_iconst (v := 1) hx hb dX11_seat_8 (by decide) ?_
      refine lv_goto (tgt := 25) hx hb dX11_seat_9 (by decide) ?_
      exact J _ _ hw
  · refine pt_X11_213 B hw dX11_seat_25 hf (fun M_4 H locs hw hf => ?_)
    refine lv_aload_n hx hb dX11_seat_28 rfl (lv_at hl 0 rfl) ?_
    refine gt_X11_213 B hw dX11_seat_29 ?_
    refine lv_if_le (tgt := 37) hx hb dX11_seat_32 (by decide) (fun c_5 => ?_) (fun c_5 => ?_)
    · have hf := it_e hf c_5
      refine lv_aload_n hx hb dX11_seat_37 rfl (lv_at hl 0 rfl) ?_
      refine gt_X11_65 B hw dX11_seat_38 ?_
      refine lv_aload_n hx hb dX11_seat_41 rfl (lv_at hl 0 rfl) ?_
      refine gt_X11_299 B hw dX11_seat_42 ?_
      refine lv_iload_n hx hb dX11_seat_45 rfl (lv_at hl 1 rfl) ?_
      obtain ⟨g_6, hf⟩ := grd_e hf
      refine m_iast B hw (i := 19) rfl g_6 dX11_seat_46 hf (fun M_7 H locs hw hf => ?_)
      refine lv_aload_n hx hb dX11_seat_47 rfl (lv_at hl 0 rfl) ?_
      refine lv_dup hx hb dX11_seat_48 rfl ?_
      refine gt_X11_299 B hw dX11_seat_49 ?_
      refine lv_iconst (v := 1) hx hb dX11_seat_52 (by decide) ?_
      refine lv_iadd hx hb dX11_seat_53 ?_
      refine pt_X11_299 B hw dX11_seat_54 hf (fun M_8 H locs hw hf => ?_)
      refine lv_aload_n hx hb dX11_seat_57 rfl (lv_at hl 0 rfl) ?_
      refine gt_X11_299 B hw dX11_seat_58 ?_
      refine lv_iconst (v := 1) hx hb dX11_seat_61 (by decide) ?_
      refine lv_isub hx hb dX11_seat_62 ?_
      cases hf
      subst hQ
      exact q_iret B hr hlk hw rfl rfl dX11_seat_63
    · have hf := ie_e hf c_5
      refine lv_iconst (v := 0) hx hb dX11_seat_35 (by decide) ?_
      cases hf
      subst hQ
      exact q_iret B hr hlk hw rfl rfl dX11_seat_36
abbrev rm_X11_link : Room := { frames := 3, cells := 0, slots := 0, locals := 65 }
set_option maxRecDepth 100000 in
set_option maxHeartbeats 4000000 in
theorem c_X11_link (l : Launch) (X : XT) (fu : Nat) (p1 : Int32) (p2 : Int32) (p3 : Int32) (p4 : Int32) (M : Mem)  (rs : (Int32 × Mem)) (hf : f_X11_link fu p1 p2 p3 p4 M = some rs) (sz : Nat) : Met l yX11_link (wbig yX11_link cX11_link 5 (some .int)) rm_X11_link (va_Pc [.ref (X.2.2 0), .int p1, .int p2, .int p3, .int p4] (PW LM X M sz)) (QI LM X rs.2 rs.1 sz) 0 0 (AX LM X sz) := by
  refine met_go (L := LM) (M := M) (by decide +kernel) (Nat.le_of_ble_eq_true rfl) ?_
  intro p e s m args below meth c hsz B hr hlk hw ls hl
  subst hsz
  have hx := B.hx
  have hb := B.hb
  have hl : lv_has ls 5 [(0, .ref (X.2.2 0)), (1, .int p1), (2, .int p2), (3, .int p3), (4, .int p4)] := hl
  generalize hQ : MQ below _ args s 0 0 (AX LM X s.heap.size) = Q
  unfold f_X11_link at hf
  refine lv_aload_n hx hb dX11_link_0 rfl (lv_at hl 0 rfl) ?_
  refine lv_aload_n hx hb dX11_link_1 rfl (lv_at hl 0 rfl) ?_
  refine lv_iload_n hx hb dX11_link_2 rfl (lv_at hl 1 rfl) ?_
  refine lv_iload_n hx hb dX11_link_3 rfl (lv_at hl 2 rfl) ?_
  obtain ⟨r_2, h_1, hf⟩ := bd_e hf
  refine q_callVi (M' := M) (i := 0) (As := [.int p1, .int p2]) (rest := [.ref (X.2.2 0)]) B hw (c_X11_isSeatColumn l X fu p1 p2 M r_2 h_1 _) cv_X11_305 (rc_11 B hw) rfl hl.1 rfl rfl ⟨Nat.le_of_ble_eq_true rfl, Nat.le_of_ble_eq_true rfl⟩ (Nat.le_of_ble_eq_true rfl) ⟨Nat.le_of_ble_eq_true rfl, Nat.le_of_ble_eq_true rfl⟩ dX11_link_4 rfl (fun H locs hw => ?_)
  refine jn_e hf (fun kk => ∀ (v_4 : Int32) (H : Heap) (locs : List Loc) (ls : Array Slot), HW LM X M s H locs → lv_has ls 5 [(0, .ref (X.2.2 0)), (1, .int p1), (2, .int p2), (3, .int p3), (4, .int p4)] → kk v_4 = some rs → W p l e rm_X11_link s m args below meth c H locs 0 0 Q (F0 m 46 ls [.int v_4, .ref (X.2.2 0)])) ?_ (fun k46_3 J46_3 hf => ?_)
  · intro v_4 H locs ls hw hl hf
    refine pt_X11_213 B hw dX11_link_46 hf (fun M_5 H locs hw hf => ?_)
    refine lv_aload_n hx hb dX11_link_49 rfl (lv_at hl 0 rfl) ?_
    refine gt_X11_213 B hw dX11_link_50 ?_
    refine lv_if_le (tgt := 58) hx hb dX11_link_53 (by decide) (fun c_6 => ?_) (fun c_6 => ?_)
    · have hf := it_e hf c_6
      refine lv_aload_n hx hb dX11_link_58 rfl (lv_at hl 0 rfl) ?_
      refine gt_X11_68 B hw dX11_link_59 ?_
      refine lv_aload_n hx hb dX11_link_62 rfl (lv_at hl 0 rfl) ?_
      refine gt_X11_308 B hw dX11_link_63 ?_
      refine lv_iload_n hx hb dX11_link_66 rfl (lv_at hl 1 rfl) ?_
      obtain ⟨g_7, hf⟩ := grd_e hf
      refine m_iast B hw (i := 20) rfl g_7 dX11_link_67 hf (fun M_8 H locs hw hf => ?_)
      refine lv_aload_n hx hb dX11_link_68 rfl (lv_at hl 0 rfl) ?_
      refine gt_X11_71 B hw dX11_link_69 ?_
      refine lv_aload_n hx hb dX11_link_72 rfl (lv_at hl 0 rfl) ?_
      refine gt_X11_308 B hw dX11_link_73 ?_
      refine lv_iload_n hx hb dX11_link_76 rfl (lv_at hl 2 rfl) ?_
      obtain ⟨g_9, hf⟩ := grd_e hf
      refine m_iast B hw (i := 21) rfl g_9 dX11_link_77 hf (fun M_10 H locs hw hf => ?_)
      refine lv_aload_n hx hb dX11_link_78 rfl (lv_at hl 0 rfl) ?_
      refine gt_X11_74 B hw dX11_link_79 ?_
      refine lv_aload_n hx hb dX11_link_82 rfl (lv_at hl 0 rfl) ?_
      refine gt_X11_308 B hw dX11_link_83 ?_
      refine lv_iload_n hx hb dX11_link_86 rfl (lv_at hl 3 rfl) ?_
      obtain ⟨g_11, hf⟩ := grd_e hf
      refine m_iast B hw (i := 22) rfl g_11 dX11_link_87 hf (fun M_12 H locs hw hf => ?_)
      refine lv_aload_n hx hb dX11_link_88 rfl (lv_at hl 0 rfl) ?_
      refine gt_X11_77 B hw dX11_link_89 ?_
      refine lv_aload_n hx hb dX11_link_92 rfl (lv_at hl 0 rfl) ?_
      refine gt_X11_308 B hw dX11_link_93 ?_
      refine lv_iload hx hb dX11_link_96 (lv_at hl 4 rfl) ?_
      obtain ⟨g_13, hf⟩ := grd_e hf
      refine m_iast B hw (i := 23) rfl g_13 dX11_link_98 hf (fun M_14 H locs hw hf => ?_)
      refine lv_aload_n hx hb dX11_link_99 rfl (lv_at hl 0 rfl) ?_
      refine lv_dup hx hb dX11_link_100 rfl ?_
      refine gt_X11_308 B hw dX11_link_101 ?_
      refine lv_iconst (v := 1) hx hb dX11_link_104 (by decide) ?_
      refine lv_iadd hx hb dX11_link_105 ?_
      refine pt_X11_308 B hw dX11_link_106 hf (fun M_15 H locs hw hf => ?_)
      refine lv_aload_n hx hb dX11_link_109 rfl (lv_at hl 0 rfl) ?_
      refine gt_X11_308 B hw dX11_link_110 ?_
      cases hf
      subst hQ
      exact q_iret B hr hlk hw rfl rfl dX11_link_113
    · have hf := ie_e hf c_6
      refine lv_iconst (v := 0) hx hb dX11_link_56 (by decide) ?_
      cases hf
      subst hQ
      exact q_iret B hr hlk hw rfl rfl dX11_link_57
  refine jn_e hf (fun kk => ∀ (_ : Unit) (H : Heap) (locs : List Loc) (ls : Array Slot), HW LM X M s H locs → lv_has ls 5 [(0, .ref (X.2.2 0)), (1, .int p1), (2, .int p2), (3, .int p3), (4, .int p4)] → kk () = some rs → W p l e rm_X11_link s m args below meth c H locs 0 0 Q (F0 m 20 ls [.ref (X.2.2 0)])) ?_ (fun k20_16 J20_16 hf => ?_)
  · intro _ H locs ls hw hl hf
    refine lv_iconst (v := 1) hx hb dX11_link_20 (by decide) ?_
    refine lv_goto (tgt := 46) hx hb dX11_link_21 (by decide) ?_
    exact J46_3 1 _ _ _ hw (lv_sub hl [0, 1, 2, 3, 4] rfl) hf
  refine lv_if_eq (tgt := 20) hx hb dX11_link_7 (by decide) (fun c_17 => ?_) (fun c_17 => ?_)
  · have hf := it_e hf c_17
    exact J20_16 () _ _ _ hw (lv_sub hl [0, 1, 2, 3, 4] rfl) hf
  · have hf := ie_e hf c_17
    refine lv_aload_n hx hb dX11_link_10 rfl (lv_at hl 0 rfl) ?_
    refine lv_iload_n hx hb dX11_link_11 rfl (lv_at hl 3 rfl) ?_
    refine lv_iload hx hb dX11_link_12 (lv_at hl 4 rfl) ?_
    obtain ⟨r_19, h_18, hf⟩ := bd_e hf
    refine q_callVi (M' := M) (i := 0) (As := [.int p3, .int p4]) (rest := [.ref (X.2.2 0)]) B hw (c_X11_isSeatColumn l X fu p3 p4 M r_19 h_18 _) cv_X11_305 (rc_11 B hw) rfl hl.1 rfl rfl ⟨Nat.le_of_ble_eq_true rfl, Nat.le_of_ble_eq_true rfl⟩ (Nat.le_of_ble_eq_true rfl) ⟨Nat.le_of_ble_eq_true rfl, Nat.le_of_ble_eq_true rfl⟩ dX11_link_14 rfl (fun H locs hw => ?_)
    refine lv_if_ne (tgt := 24) hx hb dX11_link_17 (by decide) (fun c_20 => ?_) (fun c_20 => ?_)
    · have hf := ie_e hf c_20
      refine lv_iload_n hx hb dX11_link_24 rfl (lv_at hl 3 rfl) ?_
      refine lv_iload_n hx hb dX11_link_25 rfl (lv_at hl 1 rfl) ?_
      refine lv_icmp_gt (tgt := 33) hx hb dX11_link_26 (by decide) (fun c_21 => ?_) (fun c_21 => ?_)
      · have hf := it_e hf c_21
        refine lv_aload_n hx hb dX11_link_33 rfl (lv_at hl 0 rfl) ?_
        refine gt_X11_308 B hw dX11_link_34 ?_
        refine lv_iconst (v := 3) hx hb dX11_link_37 (by decide) ?_
        refine lv_icmp_ne (tgt := 45) hx hb dX11_link_38 (by decide) (fun c_22 => ?_) (fun c_22 => ?_)
        · have hf := ie_e hf c_22
          refine lv_iconst (v := 0) hx hb dX11_link_45 (by decide) ?_
          exact J46_3 0 _ _ _ hw (lv_sub hl [0, 1, 2, 3, 4] rfl) hf
        · have hf := it_e hf c_22
          refine lv_iconst (v := 3) hx hb dX11_link_41 (by decide) ?_
          refine lv_goto (tgt := 46) hx hb dX11_link_42 (by decide) ?_
          exact J46_3 3 _ _ _ hw (lv_sub hl [0, 1, 2, 3, 4] rfl) hf
      · have hf := ie_e hf c_21
        refine lv_iconst (v := 2) hx hb dX11_link_29 (by decide) ?_
        refine lv_goto (tgt := 46) hx hb dX11_link_30 (by decide) ?_
        exact J46_3 2 _ _ _ hw (lv_sub hl [0, 1, 2, 3, 4] rfl) hf
    · have hf := it_e hf c_20
      exact J20_16 () _ _ _ hw (lv_sub hl [0, 1, 2, 3, 4] rfl) hf
abbrev rm_X11_where : Room := { frames := 3, cells := 0, slots := 0, locals := 65 }
set_option maxRecDepth 100000 in
set_option maxHeartbeats 4000000 in
theorem c_X11_where (l : Launch) (X : XT) (fu : Nat) (p1 : Int32) (p2 : Int32) (p3 : Int32) (p4 : Int32) (M : Mem)  (rs : (Int32 × Mem)) (hf : f_X11_where fu p1 p2 p3 p4 M = some rs) (sz : Nat) : Met l yX11_where (wbig yX11_where cX11_where 6 (some .int)) rm_X11_where (va_Pc [.ref (X.2.2 0), .int p1, .int p2, .int p3, .int p4] (PW LM X M sz)) (QI LM X rs.2 rs.1 sz) 0 0 (AX LM X sz) := by
  refine met_go (L := LM) (M := M) (by decide +kernel) (Nat.le_of_ble_eq_true rfl) ?_
  intro p e s m args below meth c hsz B hr hlk hw ls hl
  subst hsz
  have hx := B.hx
  have hb := B.hb
  have hl : lv_has ls 6 [(0, .ref (X.2.2 0)), (1, .int p1), (2, .int p2), (3, .int p3), (4, .int p4)] := hl
  generalize hQ : MQ below _ args s 0 0 (AX LM X s.heap.size) = Q
  unfold f_X11_where at hf
  refine lv_iload_n hx hb dX11_where_0 rfl (lv_at hl 3 rfl) ?_
  refine lv_iconst (v := 0) hx hb dX11_where_1 (by decide) ?_
  refine lv_iconst (v := 4) hx hb dX11_where_2 (by decide) ?_
  refine q_callSi (M' := M) (As := [.int p3, .int 0, .int 4]) (rest := []) B hw (c_X11_in l X p3 0 4 _ rfl M _) cs_X11_216 rfl hl.1 rfl rfl ⟨Nat.le_of_ble_eq_true rfl, Nat.le_of_ble_eq_true rfl⟩ (Nat.le_of_ble_eq_true rfl) ⟨Nat.le_of_ble_eq_true rfl, Nat.le_of_ble_eq_true rfl⟩ dX11_where_3 rfl (fun H locs hw => ?_)
  refine nmv_e hf (fun kk => ∀ (H : Heap) (locs : List Loc), HW LM X M s H locs → W p l e rm_X11_where s m args below meth c H locs 0 0 Q (F0 m 35 ls [.int kk])) (fun J => ?_) (fun v_5 hf H locs hw => ?_)
  · refine lv_if_eq (tgt := 34) hx hb dX11_where_6 (by decide) (fun c_1 => ?_) (fun c_1 => ?_)
    · rw [if_pos c_1] at J
      refine lv_iconst (v := 0) hx hb dX11_where_34 (by decide) ?_
      exact J _ _ hw
    · rw [if_neg c_1] at J
      refine lv_iload_n hx hb dX11_where_9 rfl (lv_at hl 3 rfl) ?_
      refine lv_iconst (v := 3) hx hb dX11_where_10 (by decide) ?_
      refine lv_icmp_ge (tgt := 25) hx hb dX11_where_11 (by decide) (fun c_2 => ?_) (fun c_2 => ?_)
      · rw [if_pos c_2] at J
        refine lv_iload hx hb dX11_where_25 (lv_at hl 4 rfl) ?_
        refine lv_if_ne (tgt := 34) hx hb dX11_where_27 (by decide) (fun c_3 => ?_) (fun c_3 => ?_)
        · rw [if_neg c_3] at J
          refine lv_iconst (v := 0) hx hb dX11_where_34 (by decide) ?_
          exact J _ _ hw
        · rw [if_pos c_3] at J
          refine lv_iconst (v := 1) hx hb dX11_where_30 (by decide) ?_
          refine lv_goto (tgt := 35) hx hb dX11_where_31 (by decide) ?_
          exact J _ _ hw
      · rw [if_neg c_2] at J
        refine lv_iload hx hb dX11_where_14 (lv_at hl 4 rfl) ?_
        refine q_callSi (M' := M) (As := [.int p4]) (rest := []) B hw (c_X11_isNumber l X p4 _ rfl M _) cs_X11_228 rfl hl.1 rfl rfl ⟨Nat.le_of_ble_eq_true rfl, Nat.le_of_ble_eq_true rfl⟩ (Nat.le_of_ble_eq_true rfl) ⟨Nat.le_of_ble_eq_true rfl, Nat.le_of_ble_eq_true rfl⟩ dX11_where_16 rfl (fun H locs hw => ?_)
        refine lv_if_eq (tgt := 34) hx hb dX11_where_19 (by decide) (fun c_4 => ?_) (fun c_4 => ?_)
        · rw [if_pos c_4] at J
          refine lv_iconst (v := 0) hx hb dX11_where_34 (by decide) ?_
          exact J _ _ hw
        · rw [if_neg c_4] at J
          refine lv_goto (tgt := 30) hx hb dX11_where_22 (by decide) ?_
          refine lv_iconst (v := 1) hx hb dX11_where_30 (by decide) ?_
          refine lv_goto (tgt := 35) hx hb dX11_where_31 (by decide) ?_
          exact J _ _ hw
  · refine lv_istore (lv' := [(5, .int v_5), (0, .ref (X.2.2 0)), (1, .int p1), (2, .int p2), (3, .int p3), (4, .int p4)]) hx hb dX11_where_35 hl (by decide) rfl (fun ls hl => ?_)
    refine lv_aload_n hx hb dX11_where_37 rfl (lv_at hl 1 rfl) ?_
    refine lv_aload_n hx hb dX11_where_38 rfl (lv_at hl 1 rfl) ?_
    refine lv_iload_n hx hb dX11_where_39 rfl (lv_at hl 2 rfl) ?_
    refine lv_iload_n hx hb dX11_where_40 rfl (lv_at hl 3 rfl) ?_
    obtain ⟨r_7, h_6, hf⟩ := bd_e hf
    refine q_callVi (M' := M) (i := 0) (As := [.int p1, .int p2]) (rest := [.ref (X.2.2 0)]) B hw (c_X11_isSeatColumn l X fu p1 p2 M r_7 h_6 _) cv_X11_305 (rc_11 B hw) rfl hl.1 rfl rfl ⟨Nat.le_of_ble_eq_true rfl, Nat.le_of_ble_eq_true rfl⟩ (Nat.le_of_ble_eq_true rfl) ⟨Nat.le_of_ble_eq_true rfl, Nat.le_of_ble_eq_true rfl⟩ dX11_where_41 rfl (fun H locs hw => ?_)
    refine nmv_e hf (fun kk => ∀ (H : Heap) (locs : List Loc), HW LM X M s H locs → W p l e rm_X11_where s m args below meth c H locs 0 0 Q (F0 m 73 ls [.int kk, .ref (X.2.2 0)])) (fun J => ?_) (fun v_11 hf H locs hw => ?_)
    · refine lv_if_ne (tgt := 51) hx hb dX11_where_44 (by decide) (fun c_8 => ?_) (fun c_8 => ?_)
      · rw [if_neg c_8] at J
        refine lv_iload hx hb dX11_where_51 (lv_at hl 0 rfl) ?_
        refine lv_if_ne (tgt := 60) hx hb dX11_where_53 (by decide) (fun c_9 => ?_) (fun c_9 => ?_)
        · rw [if_neg c_9] at J
          refine lv_aload_n hx hb dX11_where_60 rfl (lv_at hl 1 rfl) ?_
          refine gt_X11_311 B hw dX11_where_61 ?_
          refine lv_iconst (v := 4) hx hb dX11_where_64 (by decide) ?_
          refine lv_icmp_ne (tgt := 72) hx hb dX11_where_65 (by decide) (fun c_10 => ?_) (fun c_10 => ?_)
          · rw [if_neg c_10] at J
            refine lv_iconst (v := 0) hx hb dX11_where_72 (by decide) ?_
            exact J _ _ hw
          · rw [if_pos c_10] at J
            refine lv_iconst (v := 3) hx hb dX11_where_68 (by decide) ?_
            refine lv_goto (tgt := 73) hx hb dX11_where_69 (by decide) ?_
            exact J _ _ hw
        · rw [if_pos c_9] at J
          refine lv_iconst (v := 2) hx hb dX11_where_56 (by decide) ?_
          refine lv_goto (tgt := 73) hx hb dX11_where_57 (by decide) ?_
          exact J _ _ hw
      · rw [if_pos c_8] at J
        refine lv_iconst (v := 1) hx hb dX11_where_47 (by decide) ?_
        refine lv_goto (tgt := 73) hx hb dX11_where_48 (by decide) ?_
        exact J _ _ hw
    · refine pt_X11_213 B hw dX11_where_73 hf (fun M_12 H locs hw hf => ?_)
      refine lv_aload_n hx hb dX11_where_76 rfl (lv_at hl 1 rfl) ?_
      refine gt_X11_213 B hw dX11_where_77 ?_
      refine lv_if_le (tgt := 85) hx hb dX11_where_80 (by decide) (fun c_13 => ?_) (fun c_13 => ?_)
      · have hf := it_e hf c_13
        refine lv_aload_n hx hb dX11_where_85 rfl (lv_at hl 1 rfl) ?_
        refine gt_X11_80 B hw dX11_where_86 ?_
        refine lv_aload_n hx hb dX11_where_89 rfl (lv_at hl 1 rfl) ?_
        refine gt_X11_311 B hw dX11_where_90 ?_
        refine lv_iload_n hx hb dX11_where_93 rfl (lv_at hl 2 rfl) ?_
        obtain ⟨g_14, hf⟩ := grd_e hf
        refine m_iast B hw (i := 24) rfl g_14 dX11_where_94 hf (fun M_15 H locs hw hf => ?_)
        refine lv_aload_n hx hb dX11_where_95 rfl (lv_at hl 1 rfl) ?_
        refine gt_X11_83 B hw dX11_where_96 ?_
        refine lv_aload_n hx hb dX11_where_99 rfl (lv_at hl 1 rfl) ?_
        refine gt_X11_311 B hw dX11_where_100 ?_
        refine lv_iload_n hx hb dX11_where_103 rfl (lv_at hl 3 rfl) ?_
        obtain ⟨g_16, hf⟩ := grd_e hf
        refine m_iast B hw (i := 25) rfl g_16 dX11_where_104 hf (fun M_17 H locs hw hf => ?_)
        refine lv_aload_n hx hb dX11_where_105 rfl (lv_at hl 1 rfl) ?_
        refine gt_X11_86 B hw dX11_where_106 ?_
        refine lv_aload_n hx hb dX11_where_109 rfl (lv_at hl 1 rfl) ?_
        refine gt_X11_311 B hw dX11_where_110 ?_
        refine lv_iload_n hx hb dX11_where_113 rfl (lv_at hl 4 rfl) ?_
        obtain ⟨g_18, hf⟩ := grd_e hf
        refine m_iast B hw (i := 26) rfl g_18 dX11_where_114 hf (fun M_19 H locs hw hf => ?_)
        refine lv_aload_n hx hb dX11_where_115 rfl (lv_at hl 1 rfl) ?_
        refine gt_X11_89 B hw dX11_where_116 ?_
        refine lv_aload_n hx hb dX11_where_119 rfl (lv_at hl 1 rfl) ?_
        refine gt_X11_311 B hw dX11_where_120 ?_
        refine lv_iload hx hb dX11_where_123 (lv_at hl 5 rfl) ?_
        obtain ⟨g_20, hf⟩ := grd_e hf
        refine m_iast B hw (i := 27) rfl g_20 dX11_where_125 hf (fun M_21 H locs hw hf => ?_)
        refine lv_aload_n hx hb dX11_where_126 rfl (lv_at hl 1 rfl) ?_
        refine lv_dup hx hb dX11_where_127 rfl ?_
        refine gt_X11_311 B hw dX11_where_128 ?_
        refine lv_iconst (v := 1) hx hb dX11_where_131 (by decide) ?_
        refine lv_iadd hx hb dX11_where_132 ?_
        refine pt_X11_311 B hw dX11_where_133 hf (fun M_22 H locs hw hf => ?_)
        refine lv_aload_n hx hb dX11_where_136 rfl (lv_at hl 1 rfl) ?_
        refine gt_X11_311 B hw dX11_where_137 ?_
        cases hf
        subst hQ
        exact q_iret B hr hlk hw rfl rfl dX11_where_140
      · have hf := ie_e hf c_13
        refine lv_iconst (v := 0) hx hb dX11_where_83 (by decide) ?_
        cases hf
        subst hQ
        exact q_iret B hr hlk hw rfl rfl dX11_where_84
abbrev rm_X11_out : Room := { frames := 3, cells := 0, slots := 0, locals := 65 }
set_option maxRecDepth 100000 in
set_option maxHeartbeats 4000000 in
theorem c_X11_out (l : Launch) (X : XT) (fu : Nat) (p1 : Int32) (p2 : Int32) (M : Mem)  (rs : (Int32 × Mem)) (hf : f_X11_out fu p1 p2 M = some rs) (sz : Nat) : Met l yX11_out (wbig yX11_out cX11_out 3 (some .int)) rm_X11_out (va_Pc [.ref (X.2.2 0), .int p1, .int p2] (PW LM X M sz)) (QI LM X rs.2 rs.1 sz) 0 0 (AX LM X sz) := by
  refine met_go (L := LM) (M := M) (by decide +kernel) (Nat.le_of_ble_eq_true rfl) ?_
  intro p e s m args below meth c hsz B hr hlk hw ls hl
  subst hsz
  have hx := B.hx
  have hb := B.hb
  have hl : lv_has ls 3 [(0, .ref (X.2.2 0)), (1, .int p1), (2, .int p2)] := hl
  generalize hQ : MQ below _ args s 0 0 (AX LM X s.heap.size) = Q
  unfold f_X11_out at hf
  refine lv_aload_n hx hb dX11_out_0 rfl (lv_at hl 0 rfl) ?_
  refine lv_aload_n hx hb dX11_out_1 rfl (lv_at hl 0 rfl) ?_
  refine lv_iload_n hx hb dX11_out_2 rfl (lv_at hl 1 rfl) ?_
  refine lv_iload_n hx hb dX11_out_3 rfl (lv_at hl 2 rfl) ?_
  obtain ⟨r_2, h_1, hf⟩ := bd_e hf
  refine q_callVi (M' := M) (i := 0) (As := [.int p1, .int p2]) (rest := [.ref (X.2.2 0)]) B hw (c_X11_isSeatColumn l X fu p1 p2 M r_2 h_1 _) cv_X11_305 (rc_11 B hw) rfl hl.1 rfl rfl ⟨Nat.le_of_ble_eq_true rfl, Nat.le_of_ble_eq_true rfl⟩ (Nat.le_of_ble_eq_true rfl) ⟨Nat.le_of_ble_eq_true rfl, Nat.le_of_ble_eq_true rfl⟩ dX11_out_4 rfl (fun H locs hw => ?_)
  refine nmv_e hf (fun kk => ∀ (H : Heap) (locs : List Loc), HW LM X M s H locs → W p l e rm_X11_out s m args below meth c H locs 0 0 Q (F0 m 27 ls [.int kk, .ref (X.2.2 0)])) (fun J => ?_) (fun v_5 hf H locs hw => ?_)
  · refine lv_if_ne (tgt := 14) hx hb dX11_out_7 (by decide) (fun c_3 => ?_) (fun c_3 => ?_)
    · rw [if_neg c_3] at J
      refine lv_aload_n hx hb dX11_out_14 rfl (lv_at hl 0 rfl) ?_
      refine gt_X11_314 B hw dX11_out_15 ?_
      refine lv_iconst (v := 3) hx hb dX11_out_18 (by decide) ?_
      refine lv_icmp_ne (tgt := 26) hx hb dX11_out_19 (by decide) (fun c_4 => ?_) (fun c_4 => ?_)
      · rw [if_neg c_4] at J
        refine lv_iconst (v := 0) hx hb dX11_out_26 (by decide) ?_
        exact J _ _ hw
      · rw [if_pos c_4] at J
        refine lv_iconst (v := 2) hx hb dX11_out_22 (by decide) ?_
        refine lv_goto (tgt := 27) hx hb dX11_out_23 (by decide) ?_
        exact J _ _ hw
    · rw [if_pos c_3] at J
      refine lv_iconst (v := 1) hx hb dX11_out_10 (by decide) ?_
      refine lv_goto (tgt := 27) hx hb dX11_out_11 (by decide) ?_
      exact J _ _ hw
  · refine pt_X11_213 B hw dX11_out_27 hf (fun M_6 H locs hw hf => ?_)
    refine lv_aload_n hx hb dX11_out_30 rfl (lv_at hl 0 rfl) ?_
    refine gt_X11_213 B hw dX11_out_31 ?_
    refine lv_if_le (tgt := 39) hx hb dX11_out_34 (by decide) (fun c_7 => ?_) (fun c_7 => ?_)
    · have hf := it_e hf c_7
      refine lv_aload_n hx hb dX11_out_39 rfl (lv_at hl 0 rfl) ?_
      refine gt_X11_92 B hw dX11_out_40 ?_
      refine lv_aload_n hx hb dX11_out_43 rfl (lv_at hl 0 rfl) ?_
      refine gt_X11_314 B hw dX11_out_44 ?_
      refine lv_iload_n hx hb dX11_out_47 rfl (lv_at hl 1 rfl) ?_
      obtain ⟨g_8, hf⟩ := grd_e hf
      refine m_iast B hw (i := 28) rfl g_8 dX11_out_48 hf (fun M_9 H locs hw hf => ?_)
      refine lv_aload_n hx hb dX11_out_49 rfl (lv_at hl 0 rfl) ?_
      refine gt_X11_95 B hw dX11_out_50 ?_
      refine lv_aload_n hx hb dX11_out_53 rfl (lv_at hl 0 rfl) ?_
      refine gt_X11_314 B hw dX11_out_54 ?_
      refine lv_iload_n hx hb dX11_out_57 rfl (lv_at hl 2 rfl) ?_
      obtain ⟨g_10, hf⟩ := grd_e hf
      refine m_iast B hw (i := 29) rfl g_10 dX11_out_58 hf (fun M_11 H locs hw hf => ?_)
      refine lv_aload_n hx hb dX11_out_59 rfl (lv_at hl 0 rfl) ?_
      refine lv_dup hx hb dX11_out_60 rfl ?_
      refine gt_X11_314 B hw dX11_out_61 ?_
      refine lv_iconst (v := 1) hx hb dX11_out_64 (by decide) ?_
      refine lv_iadd hx hb dX11_out_65 ?_
      refine pt_X11_314 B hw dX11_out_66 hf (fun M_12 H locs hw hf => ?_)
      refine lv_aload_n hx hb dX11_out_69 rfl (lv_at hl 0 rfl) ?_
      refine gt_X11_314 B hw dX11_out_70 ?_
      cases hf
      subst hQ
      exact q_iret B hr hlk hw rfl rfl dX11_out_73
    · have hf := ie_e hf c_7
      refine lv_iconst (v := 0) hx hb dX11_out_37 (by decide) ?_
      cases hf
      subst hQ
      exact q_iret B hr hlk hw rfl rfl dX11_out_38
abbrev rm_X11_shape : Room := { frames := 1, cells := 0, slots := 0, locals := 22 }
set_option maxRecDepth 100000 in
set_option maxHeartbeats 4000000 in
theorem c_X11_shape (l : Launch) (X : XT) (fu : Nat) (p1 : Int32) (p2 : Int32) (M : Mem)  (rs : Mem) (hf : f_X11_shape fu p1 p2 M = some rs) (sz : Nat) : Met l yX11_shape (wbig yX11_shape cX11_shape 3 none) rm_X11_shape (va_Pc [.ref (X.2.2 0), .int p1, .int p2] (PW LM X M sz)) (QV LM X rs sz) 0 0 (AX LM X sz) := by
  refine met_go (L := LM) (M := M) (by decide +kernel) (Nat.le_of_ble_eq_true rfl) ?_
  intro p e s m args below meth c hsz B hr hlk hw ls hl
  subst hsz
  have hx := B.hx
  have hb := B.hb
  have hl : lv_has ls 3 [(0, .ref (X.2.2 0)), (1, .int p1), (2, .int p2)] := hl
  generalize hQ : MQ below _ args s 0 0 (AX LM X s.heap.size) = Q
  unfold f_X11_shape at hf
  refine lv_aload_n hx hb dX11_shape_0 rfl (lv_at hl 0 rfl) ?_
  refine lv_iload_n hx hb dX11_shape_1 rfl (lv_at hl 1 rfl) ?_
  refine lv_iconst (v := 1) hx hb dX11_shape_2 (by decide) ?_
  refine lv_bipush (v := 40) hx hb dX11_shape_3 (by decide) ?_
  refine q_callSi (M' := M) (As := [.int p1, .int 1, .int 40]) (rest := [.ref (X.2.2 0)]) B hw (c_X11_in l X p1 1 40 _ rfl M _) cs_X11_216 rfl hl.1 rfl rfl ⟨Nat.le_of_ble_eq_true rfl, Nat.le_of_ble_eq_true rfl⟩ (Nat.le_of_ble_eq_true rfl) ⟨Nat.le_of_ble_eq_true rfl, Nat.le_of_ble_eq_true rfl⟩ dX11_shape_5 rfl (fun H locs hw => ?_)
  refine nmv_e hf (fun kk => ∀ (H : Heap) (locs : List Loc), HW LM X M s H locs → W p l e rm_X11_shape s m args below meth c H locs 0 0 Q (F0 m 16 ls [.int kk, .ref (X.2.2 0)])) (fun J => ?_) (fun v_2 hf H locs hw => ?_)
  · refine lv_if_eq (tgt := 15) hx hb dX11_shape_8 (by decide) (fun c_1 => ?_) (fun c_1 => ?_)
    · rw [if_pos c_1] at J
      refine lv_iconst (v := 1) hx hb dX11_shape_15 (by decide) ?_
      exact J _ _ hw
    · rw [if_neg c_1] at J
      refine lv_iconst (v := 0) hx hb dX11_shape_11 (by decide) ?_
      refine lv_goto (tgt := 16) hx hb dX11_shape_12 (by decide) ?_
      exact J _ _ hw
  · refine pt_X11_213 B hw dX11_shape_16 hf (fun M_3 H locs hw hf => ?_)
    refine lv_aload_n hx hb dX11_shape_19 rfl (lv_at hl 0 rfl) ?_
    refine gt_X11_213 B hw dX11_shape_20 ?_
    refine lv_if_ne (tgt := 36) hx hb dX11_shape_23 (by decide) (fun c_4 => ?_) (fun c_4 => ?_)
    · have hf := ie_e hf c_4
      cases hf
      subst hQ
      exact q_vret B hr hlk hw rfl dX11_shape_36
    · have hf := it_e hf c_4
      refine lv_aload_n hx hb dX11_shape_26 rfl (lv_at hl 0 rfl) ?_
      refine lv_iload_n hx hb dX11_shape_27 rfl (lv_at hl 1 rfl) ?_
      refine pt_X11_98 B hw dX11_shape_28 hf (fun M_5 H locs hw hf => ?_)
      refine lv_aload_n hx hb dX11_shape_31 rfl (lv_at hl 0 rfl) ?_
      refine lv_iload_n hx hb dX11_shape_32 rfl (lv_at hl 2 rfl) ?_
      obtain ⟨g_6, hf⟩ := grd_e hf
      refine pt_X11_317 B hw g_6 dX11_shape_33 hf (fun M_7 H locs hw hf => ?_)
      cases hf
      subst hQ
      exact q_vret B hr hlk hw rfl dX11_shape_36
abbrev rm_X11_clear : Room := { frames := 0, cells := 0, slots := 0, locals := 0 }
set_option maxRecDepth 100000 in
set_option maxHeartbeats 4000000 in
theorem c_X11_clear (l : Launch) (X : XT) (fu : Nat) (M : Mem)  (rs : (Int32 × Mem)) (hf : f_X11_clear fu M = some rs) (sz : Nat) : Met l yX11_clear (wbig yX11_clear cX11_clear 2 (some .int)) rm_X11_clear (va_Pc [.ref (X.2.2 0)] (PW LM X M sz)) (QI LM X rs.2 rs.1 sz) 0 0 (AX LM X sz) := by
  refine met_go (L := LM) (M := M) (by decide +kernel) (Nat.le_of_ble_eq_true rfl) ?_
  intro p e s m args below meth c hsz B hr hlk hw ls hl
  subst hsz
  have hx := B.hx
  have hb := B.hb
  have hl : lv_has ls 2 [(0, .ref (X.2.2 0))] := hl
  generalize hQ : MQ below _ args s 0 0 (AX LM X s.heap.size) = Q
  unfold f_X11_clear at hf
  refine lv_aload_n hx hb dX11_clear_0 rfl (lv_at hl 0 rfl) ?_
  refine lv_iconst (v := 0) hx hb dX11_clear_1 (by decide) ?_
  refine pt_X11_213 B hw dX11_clear_2 hf (fun M_1 H locs hw hf => ?_)
  refine lv_aload_n hx hb dX11_clear_5 rfl (lv_at hl 0 rfl) ?_
  refine gt_X11_299 B hw dX11_clear_6 ?_
  refine r_topn hf (fun x1_2 hf => ?_)
  refine lv_istore_n (lv' := [(1, .int x1_2), (0, .ref (X.2.2 0))]) hx hb dX11_clear_9 rfl hl (by decide) rfl (fun ls hl => ?_)
  refine lv_aload_n hx hb dX11_clear_10 rfl (lv_at hl 1 rfl) ?_
  refine lv_iconst (v := 0) hx hb dX11_clear_11 (by decide) ?_
  refine pt_X11_299 B hw dX11_clear_12 hf (fun M_3 H locs hw hf => ?_)
  refine lv_aload_n hx hb dX11_clear_15 rfl (lv_at hl 1 rfl) ?_
  refine lv_iconst (v := 0) hx hb dX11_clear_16 (by decide) ?_
  refine pt_X11_308 B hw dX11_clear_17 hf (fun M_4 H locs hw hf => ?_)
  refine lv_aload_n hx hb dX11_clear_20 rfl (lv_at hl 1 rfl) ?_
  refine lv_iconst (v := 0) hx hb dX11_clear_21 (by decide) ?_
  refine pt_X11_311 B hw dX11_clear_22 hf (fun M_5 H locs hw hf => ?_)
  refine lv_aload_n hx hb dX11_clear_25 rfl (lv_at hl 1 rfl) ?_
  refine lv_iconst (v := 0) hx hb dX11_clear_26 (by decide) ?_
  refine pt_X11_314 B hw dX11_clear_27 hf (fun M_6 H locs hw hf => ?_)
  refine lv_aload_n hx hb dX11_clear_30 rfl (lv_at hl 1 rfl) ?_
  refine lv_bipush (v := 40) hx hb dX11_clear_31 (by decide) ?_
  refine pt_X11_98 B hw dX11_clear_33 hf (fun M_7 H locs hw hf => ?_)
  refine lv_aload_n hx hb dX11_clear_36 rfl (lv_at hl 1 rfl) ?_
  refine lv_iconst (v := 0) hx hb dX11_clear_37 (by decide) ?_
  refine pt_X11_317 B hw rfl dX11_clear_38 hf (fun M_8 H locs hw hf => ?_)
  refine lv_iload_n hx hb dX11_clear_41 rfl (lv_at hl 0 rfl) ?_
  cases hf
  subst hQ
  exact q_iret B hr hlk hw rfl rfl dX11_clear_42
abbrev rm_X11_isSent : Room := { frames := 1, cells := 0, slots := 0, locals := 22 }
set_option maxRecDepth 100000 in
set_option maxHeartbeats 4000000 in
theorem c_X11_isSent (l : Launch) (X : XT) (fu : Nat) (p1 : Int32) (p2 : Int32) (M : Mem)  (rs : Int32) (hf : f_X11_isSent fu p1 p2 M = some rs) (sz : Nat) : Met l yX11_isSent (wbig yX11_isSent cX11_isSent 3 (some .boolean)) rm_X11_isSent (va_Pc [.ref (X.2.2 0), .int p1, .int p2] (PW LM X M sz)) (QI LM X M rs sz) 0 0 (AX LM X sz) := by
  refine met_go (L := LM) (M := M) (by decide +kernel) (Nat.le_of_ble_eq_true rfl) ?_
  intro p e s m args below meth c hsz B hr hlk hw ls hl
  subst hsz
  have hx := B.hx
  have hb := B.hb
  have hl : lv_has ls 3 [(0, .ref (X.2.2 0)), (1, .int p1), (2, .int p2)] := hl
  generalize hQ : MQ below _ args s 0 0 (AX LM X s.heap.size) = Q
  unfold f_X11_isSent at hf
  refine lv_aload_n hx hb dX11_isSent_0 rfl (lv_at hl 0 rfl) ?_
  refine gt_X11_80 B hw dX11_isSent_1 ?_
  refine lv_iload_n hx hb dX11_isSent_4 rfl (lv_at hl 1 rfl) ?_
  obtain ⟨g_1, hf⟩ := grd_e hf
  refine m_iald B hw (i := 24) rfl g_1 dX11_isSent_5 ?_
  refine lv_iload_n hx hb dX11_isSent_6 rfl (lv_at hl 2 rfl) ?_
  refine lv_icmp_ne (tgt := 41) hx hb dX11_isSent_7 (by decide) (fun c_2 => ?_) (fun c_2 => ?_)
  · have hf := ie_e hf c_2
    refine lv_iconst (v := 0) hx hb dX11_isSent_41 (by decide) ?_
    cases hf
    subst hQ
    exact q_zret B hr hlk rfl hw rfl rfl dX11_isSent_42
  · have hf := it_e hf c_2
    refine lv_aload_n hx hb dX11_isSent_10 rfl (lv_at hl 0 rfl) ?_
    refine gt_X11_65 B hw dX11_isSent_11 ?_
    refine lv_iload_n hx hb dX11_isSent_14 rfl (lv_at hl 2 rfl) ?_
    obtain ⟨g_3, hf⟩ := grd_e hf
    refine m_iald B hw (i := 19) rfl g_3 dX11_isSent_15 ?_
    refine q_callSi (M' := M) (As := [.int (M 19 p2.toNatClampNeg)]) (rest := []) B hw (c_X11_storeOf l X (M 19 p2.toNatClampNeg) _ rfl M _) cs_X11_220 rfl hl.1 rfl rfl ⟨Nat.le_of_ble_eq_true rfl, Nat.le_of_ble_eq_true rfl⟩ (Nat.le_of_ble_eq_true rfl) ⟨Nat.le_of_ble_eq_true rfl, Nat.le_of_ble_eq_true rfl⟩ dX11_isSent_16 rfl (fun H locs hw => ?_)
    refine lv_aload_n hx hb dX11_isSent_19 rfl (lv_at hl 0 rfl) ?_
    refine gt_X11_83 B hw dX11_isSent_20 ?_
    refine lv_iload_n hx hb dX11_isSent_23 rfl (lv_at hl 1 rfl) ?_
    refine m_iald B hw (i := 25) rfl g_1 dX11_isSent_24 ?_
    refine lv_aload_n hx hb dX11_isSent_25 rfl (lv_at hl 0 rfl) ?_
    refine gt_X11_86 B hw dX11_isSent_26 ?_
    refine lv_iload_n hx hb dX11_isSent_29 rfl (lv_at hl 1 rfl) ?_
    refine m_iald B hw (i := 26) rfl g_1 dX11_isSent_30 ?_
    refine q_callSi (M' := M) (As := [.int (f_X11_storeOf (M 19 p2.toNatClampNeg)), .int (M 25 p1.toNatClampNeg), .int (M 26 p1.toNatClampNeg)]) (rest := []) B hw (c_X11_canDo l X (f_X11_storeOf (M 19 p2.toNatClampNeg)) (M 25 p1.toNatClampNeg) (M 26 p1.toNatClampNeg) _ rfl M _) cs_X11_321 rfl hl.1 rfl rfl ⟨Nat.le_of_ble_eq_true rfl, Nat.le_of_ble_eq_true rfl⟩ (Nat.le_of_ble_eq_true rfl) ⟨Nat.le_of_ble_eq_true rfl, Nat.le_of_ble_eq_true rfl⟩ dX11_isSent_31 rfl (fun H locs hw => ?_)
    refine lv_if_eq (tgt := 41) hx hb dX11_isSent_34 (by decide) (fun c_4 => ?_) (fun c_4 => ?_)
    · have hf := it_e hf c_4
      refine lv_iconst (v := 0) hx hb dX11_isSent_41 (by decide) ?_
      cases hf
      subst hQ
      exact q_zret B hr hlk rfl hw rfl rfl dX11_isSent_42
    · have hf := ie_e hf c_4
      refine lv_iconst (v := 1) hx hb dX11_isSent_37 (by decide) ?_
      refine lv_goto (tgt := 42) hx hb dX11_isSent_38 (by decide) ?_
      cases hf
      subst hQ
      exact q_zret B hr hlk rfl hw rfl rfl dX11_isSent_42
abbrev rm_X11_manySent : Room := { frames := 2, cells := 0, slots := 0, locals := 44 }
set_option maxRecDepth 100000 in
set_option maxHeartbeats 4000000 in
theorem c_X11_manySent (l : Launch) (X : XT) (fu : Nat) (p1 : Int32) (M : Mem)  (rs : Int32) (hf : f_X11_manySent fu p1 M = some rs) (sz : Nat) : Met l yX11_manySent (wbig yX11_manySent cX11_manySent 4 (some .int)) rm_X11_manySent (va_Pc [.ref (X.2.2 0), .int p1] (PW LM X M sz)) (QI LM X M rs sz) 0 0 (AX LM X sz) := by
  refine met_go (L := LM) (M := M) (by decide +kernel) (Nat.le_of_ble_eq_true rfl) ?_
  intro p e s m args below meth c hsz B hr hlk hw ls hl
  subst hsz
  have hx := B.hx
  have hb := B.hb
  have hl : lv_has ls 4 [(0, .ref (X.2.2 0)), (1, .int p1)] := hl
  generalize hQ : MQ below _ args s 0 0 (AX LM X s.heap.size) = Q
  unfold f_X11_manySent at hf
  refine lv_iconst (v := 0) hx hb dX11_manySent_0 (by decide) ?_
  refine lv_istore_n (lv' := [(2, .int 0), (0, .ref (X.2.2 0)), (1, .int p1)]) hx hb dX11_manySent_1 rfl hl (by decide) rfl (fun ls hl => ?_)
  refine lv_iconst (v := 0) hx hb dX11_manySent_2 (by decide) ?_
  refine lv_istore_n (lv' := [(3, .int 0), (2, .int 0), (0, .ref (X.2.2 0)), (1, .int p1)]) hx hb dX11_manySent_3 rfl hl (by decide) rfl (fun ls hl => ?_)
  have hL_4 : ∀ (n_4 : Nat) (x2_1 : Int32) (x3_2 : Int32) (H : Heap) (locs : List Loc) (ls : Array Slot), HW LM X M s H locs → lv_has ls 4 [(0, .ref (X.2.2 0)), (1, .int p1), (2, .int x2_1), (3, .int x3_2)] → f_X11_manySent_L4 fu p1 M n_4 x2_1 x3_2 = some rs → W p l e rm_X11_manySent s m args below meth c H locs 0 0 Q (F0 m 4 ls []) := by
    intro n_4
    induction n_4 with
    | zero => intro x2_1 x3_2 H locs ls hw hl hf; exact no_none hf
    | succ n_4 ih_4 =>
      intro x2_1 x3_2 H locs ls hw hl hf
      rw [f_X11_manySent_L4] at hf
      refine lv_iload_n hx hb dX11_manySent_4 rfl (lv_at hl 3 rfl) ?_
      refine lv_aload_n hx hb dX11_manySent_5 rfl (lv_at hl 0 rfl) ?_
      refine gt_X11_311 B hw dX11_manySent_6 ?_
      refine lv_icmp_ge (tgt := 35) hx hb dX11_manySent_9 (by decide) (fun c_3 => ?_) (fun c_3 => ?_)
      · have hf := it_e hf c_3
        refine lv_iload_n hx hb dX11_manySent_35 rfl (lv_at hl 2 rfl) ?_
        cases hf
        subst hQ
        exact q_iret B hr hlk hw rfl rfl dX11_manySent_36
      · have hf := ie_e hf c_3
        refine lv_iload_n hx hb dX11_manySent_12 rfl (lv_at hl 2 rfl) ?_
        refine lv_aload_n hx hb dX11_manySent_13 rfl (lv_at hl 0 rfl) ?_
        refine lv_iload_n hx hb dX11_manySent_14 rfl (lv_at hl 3 rfl) ?_
        refine lv_iload_n hx hb dX11_manySent_15 rfl (lv_at hl 1 rfl) ?_
        obtain ⟨r_5, h_4, hf⟩ := bd_e hf
        refine q_callVi (M' := M) (i := 0) (As := [.int x3_2, .int p1]) (rest := [.int x2_1]) B hw (c_X11_isSent l X fu x3_2 p1 M r_5 h_4 _) cv_X11_324 (rc_11 B hw) rfl hl.1 rfl rfl ⟨Nat.le_of_ble_eq_true rfl, Nat.le_of_ble_eq_true rfl⟩ (Nat.le_of_ble_eq_true rfl) ⟨Nat.le_of_ble_eq_true rfl, Nat.le_of_ble_eq_true rfl⟩ dX11_manySent_16 rfl (fun H locs hw => ?_)
        refine nmv_e hf (fun kk => ∀ (H : Heap) (locs : List Loc), HW LM X M s H locs → W p l e rm_X11_manySent s m args below meth c H locs 0 0 Q (F0 m 27 ls [.int kk, .int x2_1])) (fun J => ?_) (fun v_7 hf H locs hw => ?_)
        · refine lv_if_eq (tgt := 26) hx hb dX11_manySent_19 (by decide) (fun c_6 => ?_) (fun c_6 => ?_)
          · rw [if_pos c_6] at J
            refine lv_iconst (v := 0) hx hb dX11_manySent_26 (by decide) ?_
            exact J _ _ hw
          · rw [if_neg c_6] at J
            refine lv_iconst (v := 1) hx hb dX11_manySent_22 (by decide) ?_
            refine lv_goto (tgt := 27) hx hb dX11_manySent_23 (by decide) ?_
            exact J _ _ hw
        · refine lv_iadd hx hb dX11_manySent_27 ?_
          refine r_topn hf (fun x2_8 hf => ?_)
          refine lv_istore_n (lv' := [(2, .int x2_8), (0, .ref (X.2.2 0)), (1, .int p1), (3, .int x3_2)]) hx hb dX11_manySent_28 rfl hl (by decide) rfl (fun ls hl => ?_)
          refine r_iinc (v := (x3_2 + 1)) hx hb dX11_manySent_29 hl (k := 3) rfl rfl (by decide) hf (fun x3_9 ls hl hf => ?_)
          have hl : lv_has ls 4 [(3, .int x3_9), (2, .int x2_8), (0, .ref (X.2.2 0)), (1, .int p1)] := hl
          refine lv_goto (tgt := 4) hx hb dX11_manySent_32 (by decide) ?_
          exact ih_4 x2_8 x3_9 _ _ _ hw (lv_sub hl [2, 3, 1, 0] rfl) hf
  exact hL_4 fu 0 0 _ _ _ hw (lv_sub hl [2, 3, 1, 0] rfl) hf
abbrev rm_X11_holdSent : Room := { frames := 3, cells := 0, slots := 0, locals := 64 }
set_option maxRecDepth 100000 in
set_option maxHeartbeats 4000000 in
theorem c_X11_holdSent (l : Launch) (X : XT) (fu : Nat) (p1 : Int32) (p2 : Int32) (M : Mem)  (rs : Int32) (hf : f_X11_holdSent fu p1 p2 M = some rs) (sz : Nat) : Met l yX11_holdSent (wbig yX11_holdSent cX11_holdSent 6 (some .boolean)) rm_X11_holdSent (va_Pc [.ref (X.2.2 0), .int p1, .int p2] (PW LM X M sz)) (QI LM X M rs sz) 0 0 (AX LM X sz) := by
  refine met_go (L := LM) (M := M) (by decide +kernel) (Nat.le_of_ble_eq_true rfl) ?_
  intro p e s m args below meth c hsz B hr hlk hw ls hl
  subst hsz
  have hx := B.hx
  have hb := B.hb
  have hl : lv_has ls 6 [(0, .ref (X.2.2 0)), (1, .int p1), (2, .int p2)] := hl
  generalize hQ : MQ below _ args s 0 0 (AX LM X s.heap.size) = Q
  unfold f_X11_holdSent at hf
  refine lv_iconst (v := 1) hx hb dX11_holdSent_0 (by decide) ?_
  refine lv_istore_n (lv' := [(3, .int 1), (0, .ref (X.2.2 0)), (1, .int p1), (2, .int p2)]) hx hb dX11_holdSent_1 rfl hl (by decide) rfl (fun ls hl => ?_)
  refine lv_iconst (v := 0) hx hb dX11_holdSent_2 (by decide) ?_
  refine lv_istore (lv' := [(4, .int 0), (3, .int 1), (0, .ref (X.2.2 0)), (1, .int p1), (2, .int p2)]) hx hb dX11_holdSent_3 hl (by decide) rfl (fun ls hl => ?_)
  have hL_5 : ∀ (n_5 : Nat) (x3_1 : Int32) (x4_2 : Int32) (H : Heap) (locs : List Loc) (ls : Array Slot), HW LM X M s H locs → lv_has ls 6 [(0, .ref (X.2.2 0)), (1, .int p1), (2, .int p2), (3, .int x3_1), (4, .int x4_2)] → f_X11_holdSent_L5 fu p1 p2 M n_5 x3_1 x4_2 = some rs → W p l e rm_X11_holdSent s m args below meth c H locs 0 0 Q (F0 m 5 ls []) := by
    intro n_5
    induction n_5 with
    | zero => intro x3_1 x4_2 H locs ls hw hl hf; exact no_none hf
    | succ n_5 ih_5 =>
      intro x3_1 x4_2 H locs ls hw hl hf
      rw [f_X11_holdSent_L5] at hf
      refine lv_iload hx hb dX11_holdSent_5 (lv_at hl 4 rfl) ?_
      refine lv_aload_n hx hb dX11_holdSent_7 rfl (lv_at hl 0 rfl) ?_
      refine gt_X11_311 B hw dX11_holdSent_8 ?_
      refine lv_icmp_ge (tgt := 90) hx hb dX11_holdSent_11 (by decide) (fun c_3 => ?_) (fun c_3 => ?_)
      · have hf := it_e hf c_3
        refine lv_iload_n hx hb dX11_holdSent_90 rfl (lv_at hl 3 rfl) ?_
        obtain ⟨g_4, hf⟩ := grd_e hf
        cases hf
        subst hQ
        exact q_zret B hr hlk g_4 hw rfl rfl dX11_holdSent_91
      · have hf := ie_e hf c_3
        refine lv_iconst (v := 4) hx hb dX11_holdSent_14 (by decide) ?_
        refine lv_bipush (v := 12) hx hb dX11_holdSent_15 (by decide) ?_
        refine lv_aload_n hx hb dX11_holdSent_17 rfl (lv_at hl 0 rfl) ?_
        refine gt_X11_65 B hw dX11_holdSent_18 ?_
        refine lv_iload_n hx hb dX11_holdSent_21 rfl (lv_at hl 1 rfl) ?_
        obtain ⟨g_5, hf⟩ := grd_e hf
        refine m_iald B hw (i := 19) rfl g_5 dX11_holdSent_22 ?_
        refine lv_imul hx hb dX11_holdSent_23 ?_
        refine lv_iload_n hx hb dX11_holdSent_24 rfl (lv_at hl 2 rfl) ?_
        refine lv_iadd hx hb dX11_holdSent_25 ?_
        refine lv_imul hx hb dX11_holdSent_26 ?_
        refine lv_aload_n hx hb dX11_holdSent_27 rfl (lv_at hl 0 rfl) ?_
        refine gt_X11_83 B hw dX11_holdSent_28 ?_
        refine lv_iload hx hb dX11_holdSent_31 (lv_at hl 4 rfl) ?_
        obtain ⟨g_6, hf⟩ := grd_e hf
        refine m_iald B hw (i := 25) rfl g_6 dX11_holdSent_33 ?_
        refine lv_iadd hx hb dX11_holdSent_34 ?_
        refine r_topn hf (fun x5_7 hf => ?_)
        refine lv_istore (lv' := [(5, .int x5_7), (0, .ref (X.2.2 0)), (1, .int p1), (2, .int p2), (3, .int x3_1), (4, .int x4_2)]) hx hb dX11_holdSent_35 hl (by decide) rfl (fun ls hl => ?_)
        refine lv_iload_n hx hb dX11_holdSent_37 rfl (lv_at hl 4 rfl) ?_
        refine jn_e hf (fun kk => ∀ (_ : Unit) (H : Heap) (locs : List Loc) (ls : Array Slot), HW LM X M s H locs → lv_has ls 6 [(0, .ref (X.2.2 0)), (1, .int p1), (2, .int p2), (4, .int x4_2)] → kk () = some rs → W p l e rm_X11_holdSent s m args below meth c H locs 0 0 Q (F0 m 82 ls [])) ?_ (fun k82_8 J82_8 hf => ?_)
        · intro _ H locs ls hw hl hf
          refine lv_iconst (v := 0) hx hb dX11_holdSent_82 (by decide) ?_
          refine lv_istore_n (lv' := [(3, .int 0), (0, .ref (X.2.2 0)), (1, .int p1), (2, .int p2), (4, .int x4_2)]) hx hb dX11_holdSent_83 rfl hl (by decide) rfl (fun ls hl => ?_)
          refine r_iinc (v := (x4_2 + 1)) hx hb dX11_holdSent_84 hl (k := 4) rfl rfl (by decide) hf (fun x4_9 ls hl hf => ?_)
          have hl : lv_has ls 6 [(4, .int x4_9), (3, .int 0), (0, .ref (X.2.2 0)), (1, .int p1), (2, .int p2)] := hl
          refine lv_goto (tgt := 5) hx hb dX11_holdSent_87 (by decide) ?_
          exact ih_5 0 x4_9 _ _ _ hw (lv_sub hl [2, 3, 4, 1, 0] rfl) hf
        refine lv_if_eq (tgt := 82) hx hb dX11_holdSent_38 (by decide) (fun c_10 => ?_) (fun c_10 => ?_)
        · have hf := it_e hf c_10
          exact J82_8 () _ _ _ hw (lv_sub hl [1, 2, 3, 5] rfl) hf
        · have hf := ie_e hf c_10
          refine lv_aload_n hx hb dX11_holdSent_41 rfl (lv_at hl 1 rfl) ?_
          refine lv_iload hx hb dX11_holdSent_42 (lv_at hl 5 rfl) ?_
          refine lv_iload_n hx hb dX11_holdSent_44 rfl (lv_at hl 2 rfl) ?_
          obtain ⟨r_12, h_11, hf⟩ := bd_e hf
          refine q_callVi (M' := M) (i := 0) (As := [.int x4_2, .int p1]) (rest := []) B hw (c_X11_isSent l X fu x4_2 p1 M r_12 h_11 _) cv_X11_324 (rc_11 B hw) rfl hl.1 rfl rfl ⟨Nat.le_of_ble_eq_true rfl, Nat.le_of_ble_eq_true rfl⟩ (Nat.le_of_ble_eq_true rfl) ⟨Nat.le_of_ble_eq_true rfl, Nat.le_of_ble_eq_true rfl⟩ dX11_holdSent_45 rfl (fun H locs hw => ?_)
          refine jn_e hf (fun kk => ∀ (_ : Unit) (H : Heap) (locs : List Loc) (ls : Array Slot), HW LM X M s H locs → lv_has ls 6 [(0, .ref (X.2.2 0)), (1, .int p1), (2, .int p2), (4, .int x4_2)] → kk () = some rs → W p l e rm_X11_holdSent s m args below meth c H locs 0 0 Q (F0 m 78 ls [])) ?_ (fun k78_13 J78_13 hf => ?_)
          · intro _ H locs ls hw hl hf
            refine lv_iconst (v := 1) hx hb dX11_holdSent_78 (by decide) ?_
            refine lv_goto (tgt := 83) hx hb dX11_holdSent_79 (by decide) ?_
            refine lv_istore_n (lv' := [(3, .int 1), (0, .ref (X.2.2 0)), (1, .int p1), (2, .int p2), (4, .int x4_2)]) hx hb dX11_holdSent_83 rfl hl (by decide) rfl (fun ls hl => ?_)
            refine r_iinc (v := (x4_2 + 1)) hx hb dX11_holdSent_84 hl (k := 4) rfl rfl (by decide) hf (fun x4_14 ls hl hf => ?_)
            have hl : lv_has ls 6 [(4, .int x4_14), (3, .int 1), (0, .ref (X.2.2 0)), (1, .int p1), (2, .int p2)] := hl
            refine lv_goto (tgt := 5) hx hb dX11_holdSent_87 (by decide) ?_
            exact ih_5 1 x4_14 _ _ _ hw (lv_sub hl [2, 3, 4, 1, 0] rfl) hf
          refine lv_if_eq (tgt := 78) hx hb dX11_holdSent_48 (by decide) (fun c_15 => ?_) (fun c_15 => ?_)
          · have hf := it_e hf c_15
            exact J78_13 () _ _ _ hw (lv_sub hl [1, 2, 3, 5] rfl) hf
          · have hf := ie_e hf c_15
            refine lv_aload_n hx hb dX11_holdSent_51 rfl (lv_at hl 1 rfl) ?_
            refine gt_X11_86 B hw dX11_holdSent_52 ?_
            refine lv_iload hx hb dX11_holdSent_55 (lv_at hl 5 rfl) ?_
            refine m_iald B hw (i := 26) rfl g_6 dX11_holdSent_57 ?_
            refine lv_aload_n hx hb dX11_holdSent_58 rfl (lv_at hl 1 rfl) ?_
            refine gt_X11_89 B hw dX11_holdSent_59 ?_
            refine lv_iload hx hb dX11_holdSent_62 (lv_at hl 5 rfl) ?_
            refine m_iald B hw (i := 27) rfl g_6 dX11_holdSent_64 ?_
            refine lv_aload_n hx hb dX11_holdSent_65 rfl (lv_at hl 1 rfl) ?_
            refine gt_X11_16 B hw dX11_holdSent_66 ?_
            refine lv_iload hx hb dX11_holdSent_69 (lv_at hl 0 rfl) ?_
            obtain ⟨g_16, hf⟩ := grd_e hf
            refine m_iald B hw (i := 3) rfl g_16 dX11_holdSent_71 ?_
            refine q_callSi (M' := M) (As := [.int (M 26 x4_2.toNatClampNeg), .int (M 27 x4_2.toNatClampNeg), .int (M 3 x5_7.toNatClampNeg)]) (rest := []) B hw (c_X11_holds l X (M 26 x4_2.toNatClampNeg) (M 27 x4_2.toNatClampNeg) (M 3 x5_7.toNatClampNeg) _ rfl M _) cs_X11_327 rfl hl.1 rfl rfl ⟨Nat.le_of_ble_eq_true rfl, Nat.le_of_ble_eq_true rfl⟩ (Nat.le_of_ble_eq_true rfl) ⟨Nat.le_of_ble_eq_true rfl, Nat.le_of_ble_eq_true rfl⟩ dX11_holdSent_72 rfl (fun H locs hw => ?_)
            refine lv_if_eq (tgt := 82) hx hb dX11_holdSent_75 (by decide) (fun c_17 => ?_) (fun c_17 => ?_)
            · have hf := it_e hf c_17
              exact J82_8 () _ _ _ hw (lv_sub hl [1, 2, 3, 5] rfl) hf
            · have hf := ie_e hf c_17
              exact J78_13 () _ _ _ hw (lv_sub hl [1, 2, 3, 5] rfl) hf
  exact hL_5 fu 1 0 _ _ _ hw (lv_sub hl [2, 3, 4, 1, 0] rfl) hf
abbrev rm_X11_holdHere : Room := { frames := 3, cells := 0, slots := 0, locals := 64 }
set_option maxRecDepth 100000 in
set_option maxHeartbeats 4000000 in
theorem c_X11_holdHere (l : Launch) (X : XT) (fu : Nat) (p1 : Int32) (p2 : Int32) (M : Mem)  (rs : Int32) (hf : f_X11_holdHere fu p1 p2 M = some rs) (sz : Nat) : Met l yX11_holdHere (wbig yX11_holdHere cX11_holdHere 6 (some .boolean)) rm_X11_holdHere (va_Pc [.ref (X.2.2 0), .int p1, .int p2] (PW LM X M sz)) (QI LM X M rs sz) 0 0 (AX LM X sz) := by
  refine met_go (L := LM) (M := M) (by decide +kernel) (Nat.le_of_ble_eq_true rfl) ?_
  intro p e s m args below meth c hsz B hr hlk hw ls hl
  subst hsz
  have hx := B.hx
  have hb := B.hb
  have hl : lv_has ls 6 [(0, .ref (X.2.2 0)), (1, .int p1), (2, .int p2)] := hl
  generalize hQ : MQ below _ args s 0 0 (AX LM X s.heap.size) = Q
  unfold f_X11_holdHere at hf
  refine lv_iconst (v := 1) hx hb dX11_holdHere_0 (by decide) ?_
  refine lv_istore_n (lv' := [(3, .int 1), (0, .ref (X.2.2 0)), (1, .int p1), (2, .int p2)]) hx hb dX11_holdHere_1 rfl hl (by decide) rfl (fun ls hl => ?_)
  refine lv_iconst (v := 0) hx hb dX11_holdHere_2 (by decide) ?_
  refine lv_istore (lv' := [(4, .int 0), (3, .int 1), (0, .ref (X.2.2 0)), (1, .int p1), (2, .int p2)]) hx hb dX11_holdHere_3 hl (by decide) rfl (fun ls hl => ?_)
  have hL_5 : ∀ (n_5 : Nat) (x3_1 : Int32) (x4_2 : Int32) (H : Heap) (locs : List Loc) (ls : Array Slot), HW LM X M s H locs → lv_has ls 6 [(0, .ref (X.2.2 0)), (1, .int p1), (2, .int p2), (3, .int x3_1), (4, .int x4_2)] → f_X11_holdHere_L5 fu p1 p2 M n_5 x3_1 x4_2 = some rs → W p l e rm_X11_holdHere s m args below meth c H locs 0 0 Q (F0 m 5 ls []) := by
    intro n_5
    induction n_5 with
    | zero => intro x3_1 x4_2 H locs ls hw hl hf; exact no_none hf
    | succ n_5 ih_5 =>
      intro x3_1 x4_2 H locs ls hw hl hf
      rw [f_X11_holdHere_L5] at hf
      refine lv_iload hx hb dX11_holdHere_5 (lv_at hl 4 rfl) ?_
      refine lv_aload_n hx hb dX11_holdHere_7 rfl (lv_at hl 0 rfl) ?_
      refine gt_X11_311 B hw dX11_holdHere_8 ?_
      refine lv_icmp_ge (tgt := 86) hx hb dX11_holdHere_11 (by decide) (fun c_3 => ?_) (fun c_3 => ?_)
      · have hf := it_e hf c_3
        refine lv_iload_n hx hb dX11_holdHere_86 rfl (lv_at hl 3 rfl) ?_
        obtain ⟨g_4, hf⟩ := grd_e hf
        cases hf
        subst hQ
        exact q_zret B hr hlk g_4 hw rfl rfl dX11_holdHere_87
      · have hf := ie_e hf c_3
        refine lv_iconst (v := 4) hx hb dX11_holdHere_14 (by decide) ?_
        refine lv_bipush (v := 12) hx hb dX11_holdHere_15 (by decide) ?_
        refine lv_iload_n hx hb dX11_holdHere_17 rfl (lv_at hl 1 rfl) ?_
        refine lv_imul hx hb dX11_holdHere_18 ?_
        refine lv_iload_n hx hb dX11_holdHere_19 rfl (lv_at hl 2 rfl) ?_
        refine lv_iadd hx hb dX11_holdHere_20 ?_
        refine lv_imul hx hb dX11_holdHere_21 ?_
        refine lv_aload_n hx hb dX11_holdHere_22 rfl (lv_at hl 0 rfl) ?_
        refine gt_X11_83 B hw dX11_holdHere_23 ?_
        refine lv_iload hx hb dX11_holdHere_26 (lv_at hl 4 rfl) ?_
        obtain ⟨g_5, hf⟩ := grd_e hf
        refine m_iald B hw (i := 25) rfl g_5 dX11_holdHere_28 ?_
        refine lv_iadd hx hb dX11_holdHere_29 ?_
        refine r_topn hf (fun x5_6 hf => ?_)
        refine lv_istore (lv' := [(5, .int x5_6), (0, .ref (X.2.2 0)), (1, .int p1), (2, .int p2), (3, .int x3_1), (4, .int x4_2)]) hx hb dX11_holdHere_30 hl (by decide) rfl (fun ls hl => ?_)
        refine lv_iload_n hx hb dX11_holdHere_32 rfl (lv_at hl 4 rfl) ?_
        refine jn_e hf (fun kk => ∀ (_ : Unit) (H : Heap) (locs : List Loc) (ls : Array Slot), HW LM X M s H locs → lv_has ls 6 [(0, .ref (X.2.2 0)), (1, .int p1), (2, .int p2), (4, .int x4_2)] → kk () = some rs → W p l e rm_X11_holdHere s m args below meth c H locs 0 0 Q (F0 m 78 ls [])) ?_ (fun k78_7 J78_7 hf => ?_)
        · intro _ H locs ls hw hl hf
          refine lv_iconst (v := 0) hx hb dX11_holdHere_78 (by decide) ?_
          refine lv_istore_n (lv' := [(3, .int 0), (0, .ref (X.2.2 0)), (1, .int p1), (2, .int p2), (4, .int x4_2)]) hx hb dX11_holdHere_79 rfl hl (by decide) rfl (fun ls hl => ?_)
          refine r_iinc (v := (x4_2 + 1)) hx hb dX11_holdHere_80 hl (k := 4) rfl rfl (by decide) hf (fun x4_8 ls hl hf => ?_)
          have hl : lv_has ls 6 [(4, .int x4_8), (3, .int 0), (0, .ref (X.2.2 0)), (1, .int p1), (2, .int p2)] := hl
          refine lv_goto (tgt := 5) hx hb dX11_holdHere_83 (by decide) ?_
          exact ih_5 0 x4_8 _ _ _ hw (lv_sub hl [2, 3, 4, 1, 0] rfl) hf
        refine lv_if_eq (tgt := 78) hx hb dX11_holdHere_33 (by decide) (fun c_9 => ?_) (fun c_9 => ?_)
        · have hf := it_e hf c_9
          exact J78_7 () _ _ _ hw (lv_sub hl [1, 2, 3, 5] rfl) hf
        · have hf := ie_e hf c_9
          refine lv_aload_n hx hb dX11_holdHere_36 rfl (lv_at hl 1 rfl) ?_
          refine gt_X11_80 B hw dX11_holdHere_37 ?_
          refine lv_iload hx hb dX11_holdHere_40 (lv_at hl 5 rfl) ?_
          refine m_iald B hw (i := 24) rfl g_5 dX11_holdHere_42 ?_
          refine lv_iload_n hx hb dX11_holdHere_43 rfl (lv_at hl 2 rfl) ?_
          refine jn_e hf (fun kk => ∀ (_ : Unit) (H : Heap) (locs : List Loc) (ls : Array Slot), HW LM X M s H locs → lv_has ls 6 [(0, .ref (X.2.2 0)), (1, .int p1), (2, .int p2), (4, .int x4_2)] → kk () = some rs → W p l e rm_X11_holdHere s m args below meth c H locs 0 0 Q (F0 m 74 ls [])) ?_ (fun k74_10 J74_10 hf => ?_)
          · intro _ H locs ls hw hl hf
            refine lv_iconst (v := 1) hx hb dX11_holdHere_74 (by decide) ?_
            refine lv_goto (tgt := 79) hx hb dX11_holdHere_75 (by decide) ?_
            refine lv_istore_n (lv' := [(3, .int 1), (0, .ref (X.2.2 0)), (1, .int p1), (2, .int p2), (4, .int x4_2)]) hx hb dX11_holdHere_79 rfl hl (by decide) rfl (fun ls hl => ?_)
            refine r_iinc (v := (x4_2 + 1)) hx hb dX11_holdHere_80 hl (k := 4) rfl rfl (by decide) hf (fun x4_11 ls hl hf => ?_)
            have hl : lv_has ls 6 [(4, .int x4_11), (3, .int 1), (0, .ref (X.2.2 0)), (1, .int p1), (2, .int p2)] := hl
            refine lv_goto (tgt := 5) hx hb dX11_holdHere_83 (by decide) ?_
            exact ih_5 1 x4_11 _ _ _ hw (lv_sub hl [2, 3, 4, 1, 0] rfl) hf
          refine lv_icmp_ne (tgt := 74) hx hb dX11_holdHere_44 (by decide) (fun c_12 => ?_) (fun c_12 => ?_)
          · have hf := ie_e hf c_12
            exact J74_10 () _ _ _ hw (lv_sub hl [1, 2, 3, 5] rfl) hf
          · have hf := it_e hf c_12
            refine lv_aload_n hx hb dX11_holdHere_47 rfl (lv_at hl 1 rfl) ?_
            refine gt_X11_86 B hw dX11_holdHere_48 ?_
            refine lv_iload hx hb dX11_holdHere_51 (lv_at hl 5 rfl) ?_
            refine m_iald B hw (i := 26) rfl g_5 dX11_holdHere_53 ?_
            refine lv_aload_n hx hb dX11_holdHere_54 rfl (lv_at hl 1 rfl) ?_
            refine gt_X11_89 B hw dX11_holdHere_55 ?_
            refine lv_iload hx hb dX11_holdHere_58 (lv_at hl 5 rfl) ?_
            refine m_iald B hw (i := 27) rfl g_5 dX11_holdHere_60 ?_
            refine lv_aload_n hx hb dX11_holdHere_61 rfl (lv_at hl 1 rfl) ?_
            refine gt_X11_147 B hw dX11_holdHere_62 ?_
            refine lv_iload hx hb dX11_holdHere_65 (lv_at hl 0 rfl) ?_
            obtain ⟨g_13, hf⟩ := grd_e hf
            refine m_iald B hw (i := 45) rfl g_13 dX11_holdHere_67 ?_
            refine q_callSi (M' := M) (As := [.int (M 26 x4_2.toNatClampNeg), .int (M 27 x4_2.toNatClampNeg), .int (M 45 x5_6.toNatClampNeg)]) (rest := []) B hw (c_X11_holds l X (M 26 x4_2.toNatClampNeg) (M 27 x4_2.toNatClampNeg) (M 45 x5_6.toNatClampNeg) _ rfl M _) cs_X11_327 rfl hl.1 rfl rfl ⟨Nat.le_of_ble_eq_true rfl, Nat.le_of_ble_eq_true rfl⟩ (Nat.le_of_ble_eq_true rfl) ⟨Nat.le_of_ble_eq_true rfl, Nat.le_of_ble_eq_true rfl⟩ dX11_holdHere_68 rfl (fun H locs hw => ?_)
            refine lv_if_eq (tgt := 78) hx hb dX11_holdHere_71 (by decide) (fun c_14 => ?_) (fun c_14 => ?_)
            · have hf := it_e hf c_14
              exact J78_7 () _ _ _ hw (lv_sub hl [1, 2, 3, 5] rfl) hf
            · have hf := ie_e hf c_14
              exact J74_10 () _ _ _ hw (lv_sub hl [1, 2, 3, 5] rfl) hf
  exact hL_5 fu 1 0 _ _ _ hw (lv_sub hl [2, 3, 4, 1, 0] rfl) hf
abbrev rm_X11_pays : Room := { frames := 0, cells := 0, slots := 0, locals := 0 }
set_option maxRecDepth 100000 in
set_option maxHeartbeats 4000000 in
theorem c_X11_pays (l : Launch) (X : XT) (fu : Nat) (p1 : Int32) (M : Mem)  (rs : Mem) (hf : f_X11_pays fu p1 M = some rs) (sz : Nat) : Met l yX11_pays (wbig yX11_pays cX11_pays 2 none) rm_X11_pays (va_Pc [.ref (X.2.2 0), .int p1] (PW LM X M sz)) (QV LM X rs sz) 0 0 (AX LM X sz) := by
  refine met_go (L := LM) (M := M) (by decide +kernel) (Nat.le_of_ble_eq_true rfl) ?_
  intro p e s m args below meth c hsz B hr hlk hw ls hl
  subst hsz
  have hx := B.hx
  have hb := B.hb
  have hl : lv_has ls 2 [(0, .ref (X.2.2 0)), (1, .int p1)] := hl
  generalize hQ : MQ below _ args s 0 0 (AX LM X s.heap.size) = Q
  unfold f_X11_pays at hf
  refine lv_aload_n hx hb dX11_pays_0 rfl (lv_at hl 0 rfl) ?_
  refine lv_dup hx hb dX11_pays_1 rfl ?_
  refine gt_X11_342 B hw dX11_pays_2 ?_
  refine lv_iload_n hx hb dX11_pays_5 rfl (lv_at hl 1 rfl) ?_
  refine lv_iadd hx hb dX11_pays_6 ?_
  refine pt_X11_342 B hw dX11_pays_7 hf (fun M_1 H locs hw hf => ?_)
  refine lv_aload_n hx hb dX11_pays_10 rfl (lv_at hl 0 rfl) ?_
  refine lv_dup hx hb dX11_pays_11 rfl ?_
  refine gt_X11_345 B hw dX11_pays_12 ?_
  refine lv_iload_n hx hb dX11_pays_15 rfl (lv_at hl 1 rfl) ?_
  refine lv_iadd hx hb dX11_pays_16 ?_
  refine pt_X11_345 B hw dX11_pays_17 hf (fun M_2 H locs hw hf => ?_)
  cases hf
  subst hQ
  exact q_vret B hr hlk hw rfl dX11_pays_20
