abbrev rm_X0_begin : Room := { frames := 0, cells := 0, slots := 0, locals := 0 }
set_option maxRecDepth 100000 in
set_option maxHeartbeats 4000000 in
theorem c_X0_begin (l : Launch) (X : XT) (fu : Nat) (a0 : Nat) (M : Mem) (ha0 : kC a0 = (0, 0)) (rs : Mem) (hf : f_X0_begin fu a0 M = some rs) (sz : Nat) : Met l yX0_begin (wbig yX0_begin cX0_begin 2 none) rm_X0_begin (va_Pc [.ref (X.2.2 a0)] (PW LC X M sz)) (QV LC X rs sz) 0 0 (AX LC X sz) := by
  refine met_go (L := LC) (M := M) (by decide +kernel) (Nat.le_of_ble_eq_true rfl) ?_
  intro p e s m args below meth c hsz B hr hlk hw ls hl
  subst hsz
  have hx := B.hx
  have hb := B.hb
  have hl : lv_has ls 2 [(0, .ref (X.2.2 a0))] := hl
  generalize hQ : MQ below _ args s 0 0 (AX LC X s.heap.size) = Q
  unfold f_X0_begin at hf
  refine lv_iconst (v := 0) hx hb dX0_begin_0 (by decide) ?_
  refine lv_istore_n (lv' := [(1, .int 0), (0, .ref (X.2.2 a0))]) hx hb dX0_begin_1 rfl hl (by decide) rfl (fun ls hl => ?_)
  refine jn_e hf (fun kk => ∀ (M_2 : Mem) (H : Heap) (locs : List Loc) (ls : Array Slot), HW LC X M_2 s H locs → lv_has ls 2 [(0, .ref (X.2.2 a0))] → kk M_2 = some rs → W p l e rm_X0_begin s m args below meth c H locs 0 0 Q (F0 m 23 ls [])) ?_ (fun k23_1 J23_1 hf => ?_)
  · intro M_2 H locs ls hw hl hf
    refine lv_aload_n hx hb dX0_begin_23 rfl (lv_at hl 0 rfl) ?_
    refine lv_iconst (v := 0) hx hb dX0_begin_24 (by decide) ?_
    refine pt_X0_38 B hw (i := a0) ha0 dX0_begin_25 hf (fun M_3 H locs hw hf => ?_)
    refine lv_aload_n hx hb dX0_begin_28 rfl (lv_at hl 0 rfl) ?_
    refine lv_iconst (v := 0) hx hb dX0_begin_29 (by decide) ?_
    refine pt_X0_41 B hw (i := a0) ha0 dX0_begin_30 hf (fun M_4 H locs hw hf => ?_)
    refine lv_aload_n hx hb dX0_begin_33 rfl (lv_at hl 0 rfl) ?_
    refine lv_iconst (v := 0) hx hb dX0_begin_34 (by decide) ?_
    refine pt_X0_44 B hw (i := a0) ha0 dX0_begin_35 hf (fun M_5 H locs hw hf => ?_)
    refine lv_aload_n hx hb dX0_begin_38 rfl (lv_at hl 0 rfl) ?_
    refine lv_iconst (v := 0) hx hb dX0_begin_39 (by decide) ?_
    refine pt_X0_47 B hw (i := a0) ha0 dX0_begin_40 hf (fun M_6 H locs hw hf => ?_)
    refine lv_aload_n hx hb dX0_begin_43 rfl (lv_at hl 0 rfl) ?_
    refine lv_iconst (v := 0) hx hb dX0_begin_44 (by decide) ?_
    refine pt_X0_50 B hw (i := a0) ha0 dX0_begin_45 hf (fun M_7 H locs hw hf => ?_)
    cases hf
    subst hQ
    exact q_vret B hr hlk hw rfl dX0_begin_48
  have hL_2 : ∀ (n_2 : Nat) (x1_8 : Int32) (M_9 : Mem) (H : Heap) (locs : List Loc) (ls : Array Slot), HW LC X M_9 s H locs → lv_has ls 2 [(0, .ref (X.2.2 a0)), (1, .int x1_8)] → f_X0_begin_L2 fu a0 k23_1 n_2 x1_8 M_9 = some rs → W p l e rm_X0_begin s m args below meth c H locs 0 0 Q (F0 m 2 ls []) := by
    intro n_2
    induction n_2 with
    | zero => intro x1_8 M_9 H locs ls hw hl hf; exact no_none hf
    | succ n_2 ih_2 =>
      intro x1_8 M_9 H locs ls hw hl hf
      rw [f_X0_begin_L2] at hf
      refine lv_iload_n hx hb dX0_begin_2 rfl (lv_at hl 1 rfl) ?_
      refine lv_iconst (v := 3) hx hb dX0_begin_3 (by decide) ?_
      refine lv_icmp_ge (tgt := 23) hx hb dX0_begin_4 (by decide) (fun c_10 => ?_) (fun c_10 => ?_)
      · have hf := it_e hf c_10
        exact J23_1 M_9 _ _ _ hw (lv_sub hl [0] rfl) hf
      · have hf := ie_e hf c_10
        refine lv_aload_n hx hb dX0_begin_7 rfl (lv_at hl 0 rfl) ?_
        refine gt_X0_11 B hw (i := a0) ha0 dX0_begin_8 ?_
        refine lv_iload_n hx hb dX0_begin_11 rfl (lv_at hl 1 rfl) ?_
        obtain ⟨g_11, hf⟩ := grd_e hf
        refine c_aldR B hw (i := (a0 + 5)) (kA5 ha0) g_11 dX0_begin_12 ?_
        refine r_topk (kV (kA5 ha0) g_11) hf (fun a_12 ha_12 hf => ?_)
        refine lv_iconst (v := 0) hx hb dX0_begin_13 (by decide) ?_
        refine pt_X0_35 B hw (i := a_12) ha_12 dX0_begin_14 hf (fun M_13 H locs hw hf => ?_)
        refine r_iinc (v := (x1_8 + 1)) hx hb dX0_begin_17 hl (k := 1) rfl rfl (by decide) hf (fun x1_14 ls hl hf => ?_)
        have hl : lv_has ls 2 [(1, .int x1_14), (0, .ref (X.2.2 a0))] := hl
        refine lv_goto (tgt := 2) hx hb dX0_begin_20 (by decide) ?_
        exact ih_2 x1_14 M_13 _ _ _ hw (lv_sub hl [1, 0] rfl) hf
  exact hL_2 fu 0 M _ _ _ hw (lv_sub hl [1, 0] rfl) hf
abbrev rm_X0_hasCell : Room := { frames := 0, cells := 0, slots := 0, locals := 0 }
set_option maxRecDepth 100000 in
set_option maxHeartbeats 4000000 in
theorem c_X0_hasCell (l : Launch) (X : XT) (fu : Nat) (a0 : Nat) (p1 : Int32) (p2 : Int32) (M : Mem) (ha0 : kC a0 = (0, 0)) (rs : Int32) (hf : f_X0_hasCell fu a0 p1 p2 M = some rs) (sz : Nat) : Met l yX0_hasCell (wbig yX0_hasCell cX0_hasCell 3 (some .boolean)) rm_X0_hasCell (va_Pc [.ref (X.2.2 a0), .int p1, .int p2] (PW LC X M sz)) (QI LC X M rs sz) 0 0 (AX LC X sz) := by
  refine met_go (L := LC) (M := M) (by decide +kernel) (Nat.le_of_ble_eq_true rfl) ?_
  intro p e s m args below meth c hsz B hr hlk hw ls hl
  subst hsz
  have hx := B.hx
  have hb := B.hb
  have hl : lv_has ls 3 [(0, .ref (X.2.2 a0)), (1, .int p1), (2, .int p2)] := hl
  generalize hQ : MQ below _ args s 0 0 (AX LC X s.heap.size) = Q
  unfold f_X0_hasCell at hf
  refine lv_iload_n hx hb dX0_hasCell_0 rfl (lv_at hl 1 rfl) ?_
  refine lv_if_lt (tgt := 28) hx hb dX0_hasCell_1 (by decide) (fun c_1 => ?_) (fun c_1 => ?_)
  · have hf := it_e hf c_1
    refine lv_iconst (v := 0) hx hb dX0_hasCell_28 (by decide) ?_
    cases hf
    subst hQ
    exact q_zret B hr hlk rfl hw rfl rfl dX0_hasCell_29
  · have hf := ie_e hf c_1
    refine lv_iload_n hx hb dX0_hasCell_4 rfl (lv_at hl 1 rfl) ?_
    refine lv_aload_n hx hb dX0_hasCell_5 rfl (lv_at hl 0 rfl) ?_
    refine gt_X0_53 B hw (i := a0) ha0 dX0_hasCell_6 ?_
    refine lv_icmp_ge (tgt := 28) hx hb dX0_hasCell_9 (by decide) (fun c_2 => ?_) (fun c_2 => ?_)
    · have hf := it_e hf c_2
      refine lv_iconst (v := 0) hx hb dX0_hasCell_28 (by decide) ?_
      cases hf
      subst hQ
      exact q_zret B hr hlk rfl hw rfl rfl dX0_hasCell_29
    · have hf := ie_e hf c_2
      refine lv_iload_n hx hb dX0_hasCell_12 rfl (lv_at hl 2 rfl) ?_
      refine lv_if_lt (tgt := 28) hx hb dX0_hasCell_13 (by decide) (fun c_3 => ?_) (fun c_3 => ?_)
      · have hf := it_e hf c_3
        refine lv_iconst (v := 0) hx hb dX0_hasCell_28 (by decide) ?_
        cases hf
        subst hQ
        exact q_zret B hr hlk rfl hw rfl rfl dX0_hasCell_29
      · have hf := ie_e hf c_3
        refine lv_iload_n hx hb dX0_hasCell_16 rfl (lv_at hl 2 rfl) ?_
        refine lv_aload_n hx hb dX0_hasCell_17 rfl (lv_at hl 0 rfl) ?_
        refine gt_X0_54 B hw (i := a0) ha0 dX0_hasCell_18 ?_
        refine lv_icmp_ge (tgt := 28) hx hb dX0_hasCell_21 (by decide) (fun c_4 => ?_) (fun c_4 => ?_)
        · have hf := it_e hf c_4
          refine lv_iconst (v := 0) hx hb dX0_hasCell_28 (by decide) ?_
          cases hf
          subst hQ
          exact q_zret B hr hlk rfl hw rfl rfl dX0_hasCell_29
        · have hf := ie_e hf c_4
          refine lv_iconst (v := 1) hx hb dX0_hasCell_24 (by decide) ?_
          refine lv_goto (tgt := 29) hx hb dX0_hasCell_25 (by decide) ?_
          cases hf
          subst hQ
          exact q_zret B hr hlk rfl hw rfl rfl dX0_hasCell_29
abbrev rm_X0_answerAt : Room := { frames := 0, cells := 0, slots := 0, locals := 0 }
set_option maxRecDepth 100000 in
set_option maxHeartbeats 4000000 in
theorem c_X0_answerAt (l : Launch) (X : XT) (fu : Nat) (a0 : Nat) (p1 : Int32) (p2 : Int32) (M : Mem) (ha0 : kC a0 = (0, 0)) (rs : Int32) (hf : f_X0_answerAt fu a0 p1 p2 M = some rs) (sz : Nat) : Met l yX0_answerAt (wbig yX0_answerAt cX0_answerAt 3 (some .int)) rm_X0_answerAt (va_Pc [.ref (X.2.2 a0), .int p1, .int p2] (PW LC X M sz)) (QI LC X M rs sz) 0 0 (AX LC X sz) := by
  refine met_go (L := LC) (M := M) (by decide +kernel) (Nat.le_of_ble_eq_true rfl) ?_
  intro p e s m args below meth c hsz B hr hlk hw ls hl
  subst hsz
  have hx := B.hx
  have hb := B.hb
  have hl : lv_has ls 3 [(0, .ref (X.2.2 a0)), (1, .int p1), (2, .int p2)] := hl
  generalize hQ : MQ below _ args s 0 0 (AX LC X s.heap.size) = Q
  unfold f_X0_answerAt at hf
  refine lv_aload_n hx hb dX0_answerAt_0 rfl (lv_at hl 0 rfl) ?_
  refine gt_X0_17 B hw (i := a0) ha0 dX0_answerAt_1 ?_
  refine lv_iload_n hx hb dX0_answerAt_4 rfl (lv_at hl 1 rfl) ?_
  refine lv_iconst (v := 3) hx hb dX0_answerAt_5 (by decide) ?_
  refine lv_imul hx hb dX0_answerAt_6 ?_
  refine lv_iload_n hx hb dX0_answerAt_7 rfl (lv_at hl 2 rfl) ?_
  refine lv_iadd hx hb dX0_answerAt_8 ?_
  obtain ⟨g_1, hf⟩ := grd_e hf
  refine c_iald B hw (i := (a0 + 1)) (kA1 ha0) g_1 dX0_answerAt_9 ?_
  cases hf
  subst hQ
  exact q_iret B hr hlk hw rfl rfl dX0_answerAt_10
abbrev rm_X6_isCell : Room := { frames := 0, cells := 0, slots := 0, locals := 0 }
set_option maxRecDepth 100000 in
set_option maxHeartbeats 4000000 in
theorem c_X6_isCell (l : Launch) (X : XT) (fu : Nat) (a0 : Nat) (p1 : Int32) (p2 : Int32) (M : Mem) (ha0 : kC a0 = (6, 0)) (rs : Int32) (hf : f_X6_isCell fu a0 p1 p2 M = some rs) (sz : Nat) : Met l yX6_isCell (wbig yX6_isCell cX6_isCell 3 (some .boolean)) rm_X6_isCell (va_Pc [.ref (X.2.2 a0), .int p1, .int p2] (PW LC X M sz)) (QI LC X M rs sz) 0 0 (AX LC X sz) := by
  refine met_go (L := LC) (M := M) (by decide +kernel) (Nat.le_of_ble_eq_true rfl) ?_
  intro p e s m args below meth c hsz B hr hlk hw ls hl
  subst hsz
  have hx := B.hx
  have hb := B.hb
  have hl : lv_has ls 3 [(0, .ref (X.2.2 a0)), (1, .int p1), (2, .int p2)] := hl
  generalize hQ : MQ below _ args s 0 0 (AX LC X s.heap.size) = Q
  unfold f_X6_isCell at hf
  refine lv_iload_n hx hb dX6_isCell_0 rfl (lv_at hl 1 rfl) ?_
  refine lv_if_lt (tgt := 25) hx hb dX6_isCell_1 (by decide) (fun c_1 => ?_) (fun c_1 => ?_)
  · have hf := it_e hf c_1
    refine lv_iconst (v := 0) hx hb dX6_isCell_25 (by decide) ?_
    cases hf
    subst hQ
    exact q_zret B hr hlk rfl hw rfl rfl dX6_isCell_26
  · have hf := ie_e hf c_1
    refine lv_iload_n hx hb dX6_isCell_4 rfl (lv_at hl 1 rfl) ?_
    refine lv_aload_n hx hb dX6_isCell_5 rfl (lv_at hl 0 rfl) ?_
    refine gt_X6_18 B hw (i := a0) ha0 dX6_isCell_6 ?_
    refine lv_icmp_ge (tgt := 25) hx hb dX6_isCell_9 (by decide) (fun c_2 => ?_) (fun c_2 => ?_)
    · have hf := it_e hf c_2
      refine lv_iconst (v := 0) hx hb dX6_isCell_25 (by decide) ?_
      cases hf
      subst hQ
      exact q_zret B hr hlk rfl hw rfl rfl dX6_isCell_26
    · have hf := ie_e hf c_2
      refine lv_iload_n hx hb dX6_isCell_12 rfl (lv_at hl 2 rfl) ?_
      refine lv_if_lt (tgt := 25) hx hb dX6_isCell_13 (by decide) (fun c_3 => ?_) (fun c_3 => ?_)
      · have hf := it_e hf c_3
        refine lv_iconst (v := 0) hx hb dX6_isCell_25 (by decide) ?_
        cases hf
        subst hQ
        exact q_zret B hr hlk rfl hw rfl rfl dX6_isCell_26
      · have hf := ie_e hf c_3
        refine lv_iload_n hx hb dX6_isCell_16 rfl (lv_at hl 2 rfl) ?_
        refine lv_iconst (v := 4) hx hb dX6_isCell_17 (by decide) ?_
        refine lv_icmp_ge (tgt := 25) hx hb dX6_isCell_18 (by decide) (fun c_4 => ?_) (fun c_4 => ?_)
        · have hf := it_e hf c_4
          refine lv_iconst (v := 0) hx hb dX6_isCell_25 (by decide) ?_
          cases hf
          subst hQ
          exact q_zret B hr hlk rfl hw rfl rfl dX6_isCell_26
        · have hf := ie_e hf c_4
          refine lv_iconst (v := 1) hx hb dX6_isCell_21 (by decide) ?_
          refine lv_goto (tgt := 26) hx hb dX6_isCell_22 (by decide) ?_
          cases hf
          subst hQ
          exact q_zret B hr hlk rfl hw rfl rfl dX6_isCell_26
abbrev rm_X6_cellAt : Room := { frames := 1, cells := 0, slots := 0, locals := 22 }
set_option maxRecDepth 100000 in
set_option maxHeartbeats 4000000 in
theorem c_X6_cellAt (l : Launch) (X : XT) (fu : Nat) (a0 : Nat) (p1 : Int32) (p2 : Int32) (M : Mem) (ha0 : kC a0 = (6, 0)) (rs : Int32) (hf : f_X6_cellAt fu a0 p1 p2 M = some rs) (sz : Nat) : Met l yX6_cellAt (wbig yX6_cellAt cX6_cellAt 3 (some .int)) rm_X6_cellAt (va_Pc [.ref (X.2.2 a0), .int p1, .int p2] (PW LC X M sz)) (QI LC X M rs sz) 0 0 (AX LC X sz) := by
  refine met_go (L := LC) (M := M) (by decide +kernel) (Nat.le_of_ble_eq_true rfl) ?_
  intro p e s m args below meth c hsz B hr hlk hw ls hl
  subst hsz
  have hx := B.hx
  have hb := B.hb
  have hl : lv_has ls 3 [(0, .ref (X.2.2 a0)), (1, .int p1), (2, .int p2)] := hl
  generalize hQ : MQ below _ args s 0 0 (AX LC X s.heap.size) = Q
  unfold f_X6_cellAt at hf
  refine lv_aload_n hx hb dX6_cellAt_0 rfl (lv_at hl 0 rfl) ?_
  refine lv_iload_n hx hb dX6_cellAt_1 rfl (lv_at hl 1 rfl) ?_
  refine lv_iload_n hx hb dX6_cellAt_2 rfl (lv_at hl 2 rfl) ?_
  obtain ⟨r_2, h_1, hf⟩ := bd_e hf
  refine q_callVi (M' := M) (i := a0) (As := [.int p1, .int p2]) (rest := []) B hw (c_X6_isCell l X fu a0 p1 p2 M ha0 r_2 h_1 _) cv_X6_26 (rc_6 B hw ha0) rfl hl.1 rfl rfl ⟨Nat.le_of_ble_eq_true rfl, Nat.le_of_ble_eq_true rfl⟩ (Nat.le_of_ble_eq_true rfl) ⟨Nat.le_of_ble_eq_true rfl, Nat.le_of_ble_eq_true rfl⟩ dX6_cellAt_3 rfl (fun H locs hw => ?_)
  refine lv_if_eq (tgt := 22) hx hb dX6_cellAt_6 (by decide) (fun c_3 => ?_) (fun c_3 => ?_)
  · have hf := it_e hf c_3
    refine lv_sipush (v := 5000) hx hb dX6_cellAt_22 (by decide) ?_
    cases hf
    subst hQ
    exact q_iret B hr hlk hw rfl rfl dX6_cellAt_25
  · have hf := ie_e hf c_3
    refine lv_aload_n hx hb dX6_cellAt_9 rfl (lv_at hl 0 rfl) ?_
    refine gt_X6_15 B hw (i := a0) ha0 dX6_cellAt_10 ?_
    refine lv_iload_n hx hb dX6_cellAt_13 rfl (lv_at hl 1 rfl) ?_
    refine lv_iconst (v := 4) hx hb dX6_cellAt_14 (by decide) ?_
    refine lv_imul hx hb dX6_cellAt_15 ?_
    refine lv_iload_n hx hb dX6_cellAt_16 rfl (lv_at hl 2 rfl) ?_
    refine lv_iadd hx hb dX6_cellAt_17 ?_
    obtain ⟨g_4, hf⟩ := grd_e hf
    refine c_iald B hw (i := (a0 + 2)) (kR2 ha0) g_4 dX6_cellAt_18 ?_
    refine lv_goto (tgt := 25) hx hb dX6_cellAt_19 (by decide) ?_
    cases hf
    subst hQ
    exact q_iret B hr hlk hw rfl rfl dX6_cellAt_25
abbrev rm_X4_allHold : Room := { frames := 2, cells := 0, slots := 0, locals := 44 }
set_option maxRecDepth 100000 in
set_option maxHeartbeats 4000000 in
theorem c_X4_allHold (l : Launch) (X : XT) (fu : Nat) (p1 : Int32) (a2 : Nat) (p3 : Int32) (M : Mem) (ha2 : kC a2 = (6, 0)) (rs : Int32) (hf : f_X4_allHold fu p1 a2 p3 M = some rs) (sz : Nat) : Met l yX4_allHold (wbig yX4_allHold cX4_allHold 5 (some .boolean)) rm_X4_allHold (va_Pc [.ref (X.2.2 80), .int p1, .ref (X.2.2 a2), .int p3] (PW LC X M sz)) (QI LC X M rs sz) 0 0 (AX LC X sz) := by
  refine met_go (L := LC) (M := M) (by decide +kernel) (Nat.le_of_ble_eq_true rfl) ?_
  intro p e s m args below meth c hsz B hr hlk hw ls hl
  subst hsz
  have hx := B.hx
  have hb := B.hb
  have hl : lv_has ls 5 [(0, .ref (X.2.2 80)), (1, .int p1), (2, .ref (X.2.2 a2)), (3, .int p3)] := hl
  generalize hQ : MQ below _ args s 0 0 (AX LC X s.heap.size) = Q
  unfold f_X4_allHold at hf
  refine lv_iconst (v := 0) hx hb dX4_allHold_0 (by decide) ?_
  refine lv_istore (lv' := [(4, .int 0), (0, .ref (X.2.2 80)), (1, .int p1), (2, .ref (X.2.2 a2)), (3, .int p3)]) hx hb dX4_allHold_1 hl (by decide) rfl (fun ls hl => ?_)
  have hL_3 : ∀ (n_3 : Nat) (x4_1 : Int32) (H : Heap) (locs : List Loc) (ls : Array Slot), HW LC X M s H locs → lv_has ls 5 [(0, .ref (X.2.2 80)), (1, .int p1), (2, .ref (X.2.2 a2)), (3, .int p3), (4, .int x4_1)] → f_X4_allHold_L3 fu p1 a2 p3 M n_3 x4_1 = some rs → W p l e rm_X4_allHold s m args below meth c H locs 0 0 Q (F0 m 3 ls []) := by
    intro n_3
    induction n_3 with
    | zero => intro x4_1 H locs ls hw hl hf; exact no_none hf
    | succ n_3 ih_3 =>
      intro x4_1 H locs ls hw hl hf
      rw [f_X4_allHold_L3] at hf
      refine lv_iload hx hb dX4_allHold_3 (lv_at hl 4 rfl) ?_
      refine lv_aload_n hx hb dX4_allHold_5 rfl (lv_at hl 0 rfl) ?_
      refine gt_X4_59 B hw (i := 80) rfl dX4_allHold_6 ?_
      refine lv_icmp_ge (tgt := 63) hx hb dX4_allHold_9 (by decide) (fun c_2 => ?_) (fun c_2 => ?_)
      · have hf := it_e hf c_2
        refine lv_iconst (v := 1) hx hb dX4_allHold_63 (by decide) ?_
        cases hf
        subst hQ
        exact q_zret B hr hlk rfl hw rfl rfl dX4_allHold_64
      · have hf := ie_e hf c_2
        refine lv_aload_n hx hb dX4_allHold_12 rfl (lv_at hl 0 rfl) ?_
        refine gt_X4_21 B hw (i := 80) rfl dX4_allHold_13 ?_
        refine lv_iload hx hb dX4_allHold_16 (lv_at hl 4 rfl) ?_
        obtain ⟨g_3, hf⟩ := grd_e hf
        refine c_iald B hw (i := 84) rfl g_3 dX4_allHold_18 ?_
        refine lv_iload_n hx hb dX4_allHold_19 rfl (lv_at hl 1 rfl) ?_
        refine lv_icmp_ne (tgt := 57) hx hb dX4_allHold_20 (by decide) (fun c_4 => ?_) (fun c_4 => ?_)
        · have hf := ie_e hf c_4
          refine r_iinc (v := (x4_1 + 1)) hx hb dX4_allHold_57 hl (k := 4) rfl rfl (by decide) hf (fun x4_5 ls hl hf => ?_)
          have hl : lv_has ls 5 [(4, .int x4_5), (0, .ref (X.2.2 80)), (1, .int p1), (2, .ref (X.2.2 a2)), (3, .int p3)] := hl
          refine lv_goto (tgt := 3) hx hb dX4_allHold_60 (by decide) ?_
          exact ih_3 x4_5 _ _ _ hw (lv_sub hl [1, 2, 3, 4, 0] rfl) hf
        · have hf := it_e hf c_4
          refine lv_aload_n hx hb dX4_allHold_23 rfl (lv_at hl 0 rfl) ?_
          refine gt_X4_27 B hw (i := 80) rfl dX4_allHold_24 ?_
          refine lv_iload hx hb dX4_allHold_27 (lv_at hl 4 rfl) ?_
          refine c_iald B hw (i := 86) rfl g_3 dX4_allHold_29 ?_
          refine lv_aload_n hx hb dX4_allHold_30 rfl (lv_at hl 0 rfl) ?_
          refine gt_X4_30 B hw (i := 80) rfl dX4_allHold_31 ?_
          refine lv_iload hx hb dX4_allHold_34 (lv_at hl 4 rfl) ?_
          refine c_iald B hw (i := 87) rfl g_3 dX4_allHold_36 ?_
          refine lv_aload_n hx hb dX4_allHold_37 rfl (lv_at hl 2 rfl) ?_
          refine lv_iload_n hx hb dX4_allHold_38 rfl (lv_at hl 3 rfl) ?_
          refine lv_aload_n hx hb dX4_allHold_39 rfl (lv_at hl 0 rfl) ?_
          refine gt_X4_24 B hw (i := 80) rfl dX4_allHold_40 ?_
          refine lv_iload hx hb dX4_allHold_43 (lv_at hl 4 rfl) ?_
          refine c_iald B hw (i := 85) rfl g_3 dX4_allHold_45 ?_
          obtain ⟨r_7, h_6, hf⟩ := bd_e hf
          refine q_callVi (M' := M) (i := a2) (As := [.int p3, .int (M 85 x4_1.toNatClampNeg)]) (rest := [.int (M 87 x4_1.toNatClampNeg), .int (M 86 x4_1.toNatClampNeg)]) B hw (c_X6_cellAt l X fu a2 p3 (M 85 x4_1.toNatClampNeg) M ha2 r_7 h_6 _) cv_X4_74 (rc_6 B hw ha2) rfl hl.1 rfl rfl ⟨Nat.le_of_ble_eq_true rfl, Nat.le_of_ble_eq_true rfl⟩ (Nat.le_of_ble_eq_true rfl) ⟨Nat.le_of_ble_eq_true rfl, Nat.le_of_ble_eq_true rfl⟩ dX4_allHold_46 rfl (fun H locs hw => ?_)
          refine q_callNi (M' := M) (As := [.int (M 86 x4_1.toNatClampNeg), .int (M 87 x4_1.toNatClampNeg), .int r_7]) (rest := []) B hw (c_X10_holdsFor l X (M 86 x4_1.toNatClampNeg) (M 87 x4_1.toNatClampNeg) r_7 _ rfl M _) cn_X4_80 rfl hl.1 rfl rfl ⟨Nat.le_of_ble_eq_true rfl, Nat.le_of_ble_eq_true rfl⟩ (Nat.le_of_ble_eq_true rfl) ⟨Nat.le_of_ble_eq_true rfl, Nat.le_of_ble_eq_true rfl⟩ dX4_allHold_49 rfl (fun H locs hw => ?_)
          refine lv_if_ne (tgt := 57) hx hb dX4_allHold_52 (by decide) (fun c_8 => ?_) (fun c_8 => ?_)
          · have hf := ie_e hf c_8
            refine r_iinc (v := (x4_1 + 1)) hx hb dX4_allHold_57 hl (k := 4) rfl rfl (by decide) hf (fun x4_9 ls hl hf => ?_)
            have hl : lv_has ls 5 [(4, .int x4_9), (0, .ref (X.2.2 80)), (1, .int p1), (2, .ref (X.2.2 a2)), (3, .int p3)] := hl
            refine lv_goto (tgt := 3) hx hb dX4_allHold_60 (by decide) ?_
            exact ih_3 x4_9 _ _ _ hw (lv_sub hl [1, 2, 3, 4, 0] rfl) hf
          · have hf := it_e hf c_8
            refine lv_iconst (v := 0) hx hb dX4_allHold_55 (by decide) ?_
            cases hf
            subst hQ
            exact q_zret B hr hlk rfl hw rfl rfl dX4_allHold_56
  exact hL_3 fu 0 _ _ _ hw (lv_sub hl [1, 2, 3, 4, 0] rfl) hf
abbrev rm_X6_moveRow : Room := { frames := 0, cells := 0, slots := 0, locals := 0 }
set_option maxRecDepth 100000 in
set_option maxHeartbeats 4000000 in
theorem c_X6_moveRow (l : Launch) (X : XT) (fu : Nat) (a0 : Nat) (p1 : Int32) (p2 : Int32) (M : Mem) (ha0 : kC a0 = (6, 0)) (rs : Mem) (hf : f_X6_moveRow fu a0 p1 p2 M = some rs) (sz : Nat) : Met l yX6_moveRow (wbig yX6_moveRow cX6_moveRow 4 none) rm_X6_moveRow (va_Pc [.ref (X.2.2 a0), .int p1, .int p2] (PW LC X M sz)) (QV LC X rs sz) 0 0 (AX LC X sz) := by
  refine met_go (L := LC) (M := M) (by decide +kernel) (Nat.le_of_ble_eq_true rfl) ?_
  intro p e s m args below meth c hsz B hr hlk hw ls hl
  subst hsz
  have hx := B.hx
  have hb := B.hb
  have hl : lv_has ls 4 [(0, .ref (X.2.2 a0)), (1, .int p1), (2, .int p2)] := hl
  generalize hQ : MQ below _ args s 0 0 (AX LC X s.heap.size) = Q
  unfold f_X6_moveRow at hf
  refine lv_aload_n hx hb dX6_moveRow_0 rfl (lv_at hl 0 rfl) ?_
  refine gt_X6_9 B hw (i := a0) ha0 dX6_moveRow_1 ?_
  refine lv_iload_n hx hb dX6_moveRow_4 rfl (lv_at hl 2 rfl) ?_
  refine lv_aload_n hx hb dX6_moveRow_5 rfl (lv_at hl 0 rfl) ?_
  refine gt_X6_9 B hw (i := a0) ha0 dX6_moveRow_6 ?_
  refine lv_iload_n hx hb dX6_moveRow_9 rfl (lv_at hl 1 rfl) ?_
  obtain ⟨g_1, hf⟩ := grd_e hf
  refine c_iald B hw (i := (a0 + 1)) (kR1 ha0) g_1 dX6_moveRow_10 ?_
  obtain ⟨g_2, hf⟩ := grd_e hf
  refine c_iast B hw (i := (a0 + 1)) (kR1 ha0) g_2 dX6_moveRow_11 hf (fun M_3 H locs hw hf => ?_)
  refine lv_iconst (v := 0) hx hb dX6_moveRow_12 (by decide) ?_
  refine lv_istore_n (lv' := [(3, .int 0), (0, .ref (X.2.2 a0)), (1, .int p1), (2, .int p2)]) hx hb dX6_moveRow_13 rfl hl (by decide) rfl (fun ls hl => ?_)
  have hL_14 : ∀ (n_14 : Nat) (x3_4 : Int32) (M_5 : Mem) (H : Heap) (locs : List Loc) (ls : Array Slot), HW LC X M_5 s H locs → lv_has ls 4 [(0, .ref (X.2.2 a0)), (1, .int p1), (2, .int p2), (3, .int x3_4)] → f_X6_moveRow_L14 fu a0 p1 p2 n_14 x3_4 M_5 = some rs → W p l e rm_X6_moveRow s m args below meth c H locs 0 0 Q (F0 m 14 ls []) := by
    intro n_14
    induction n_14 with
    | zero => intro x3_4 M_5 H locs ls hw hl hf; exact no_none hf
    | succ n_14 ih_14 =>
      intro x3_4 M_5 H locs ls hw hl hf
      rw [f_X6_moveRow_L14] at hf
      refine lv_iload_n hx hb dX6_moveRow_14 rfl (lv_at hl 3 rfl) ?_
      refine lv_iconst (v := 4) hx hb dX6_moveRow_15 (by decide) ?_
      refine lv_icmp_ge (tgt := 45) hx hb dX6_moveRow_16 (by decide) (fun c_6 => ?_) (fun c_6 => ?_)
      · have hf := it_e hf c_6
        cases hf
        subst hQ
        exact q_vret B hr hlk hw rfl dX6_moveRow_45
      · have hf := ie_e hf c_6
        refine lv_aload_n hx hb dX6_moveRow_19 rfl (lv_at hl 0 rfl) ?_
        refine gt_X6_15 B hw (i := a0) ha0 dX6_moveRow_20 ?_
        refine lv_iload_n hx hb dX6_moveRow_23 rfl (lv_at hl 2 rfl) ?_
        refine lv_iconst (v := 4) hx hb dX6_moveRow_24 (by decide) ?_
        refine lv_imul hx hb dX6_moveRow_25 ?_
        refine lv_iload_n hx hb dX6_moveRow_26 rfl (lv_at hl 3 rfl) ?_
        refine lv_iadd hx hb dX6_moveRow_27 ?_
        refine lv_aload_n hx hb dX6_moveRow_28 rfl (lv_at hl 0 rfl) ?_
        refine gt_X6_15 B hw (i := a0) ha0 dX6_moveRow_29 ?_
        refine lv_iload_n hx hb dX6_moveRow_32 rfl (lv_at hl 1 rfl) ?_
        refine lv_iconst (v := 4) hx hb dX6_moveRow_33 (by decide) ?_
        refine lv_imul hx hb dX6_moveRow_34 ?_
        refine lv_iload_n hx hb dX6_moveRow_35 rfl (lv_at hl 3 rfl) ?_
        refine lv_iadd hx hb dX6_moveRow_36 ?_
        obtain ⟨g_7, hf⟩ := grd_e hf
        refine c_iald B hw (i := (a0 + 2)) (kR2 ha0) g_7 dX6_moveRow_37 ?_
        obtain ⟨g_8, hf⟩ := grd_e hf
        refine c_iast B hw (i := (a0 + 2)) (kR2 ha0) g_8 dX6_moveRow_38 hf (fun M_9 H locs hw hf => ?_)
        refine r_iinc (v := (x3_4 + 1)) hx hb dX6_moveRow_39 hl (k := 3) rfl rfl (by decide) hf (fun x3_10 ls hl hf => ?_)
        have hl : lv_has ls 4 [(3, .int x3_10), (0, .ref (X.2.2 a0)), (1, .int p1), (2, .int p2)] := hl
        refine lv_goto (tgt := 14) hx hb dX6_moveRow_42 (by decide) ?_
        exact ih_14 x3_10 M_9 _ _ _ hw (lv_sub hl [1, 2, 3, 0] rfl) hf
  exact hL_14 fu 0 M_3 _ _ _ hw (lv_sub hl [1, 2, 3, 0] rfl) hf
abbrev rm_X6_dropPlace : Room := { frames := 1, cells := 0, slots := 0, locals := 23 }
set_option maxRecDepth 100000 in
set_option maxHeartbeats 4000000 in
theorem c_X6_dropPlace (l : Launch) (X : XT) (fu : Nat) (a0 : Nat) (p1 : Int32) (M : Mem) (ha0 : kC a0 = (6, 0)) (rs : Mem) (hf : f_X6_dropPlace fu a0 p1 M = some rs) (sz : Nat) : Met l yX6_dropPlace (wbig yX6_dropPlace cX6_dropPlace 3 none) rm_X6_dropPlace (va_Pc [.ref (X.2.2 a0), .int p1] (PW LC X M sz)) (QV LC X rs sz) 0 0 (AX LC X sz) := by
  refine met_go (L := LC) (M := M) (by decide +kernel) (Nat.le_of_ble_eq_true rfl) ?_
  intro p e s m args below meth c hsz B hr hlk hw ls hl
  subst hsz
  have hx := B.hx
  have hb := B.hb
  have hl : lv_has ls 3 [(0, .ref (X.2.2 a0)), (1, .int p1)] := hl
  generalize hQ : MQ below _ args s 0 0 (AX LC X s.heap.size) = Q
  unfold f_X6_dropPlace at hf
  refine lv_iload_n hx hb dX6_dropPlace_0 rfl (lv_at hl 1 rfl) ?_
  refine lv_if_lt (tgt := 12) hx hb dX6_dropPlace_1 (by decide) (fun c_1 => ?_) (fun c_1 => ?_)
  · have hf := it_e hf c_1
    cases hf
    subst hQ
    exact q_vret B hr hlk hw rfl dX6_dropPlace_12
  · have hf := ie_e hf c_1
    refine lv_iload_n hx hb dX6_dropPlace_4 rfl (lv_at hl 1 rfl) ?_
    refine lv_aload_n hx hb dX6_dropPlace_5 rfl (lv_at hl 0 rfl) ?_
    refine gt_X6_18 B hw (i := a0) ha0 dX6_dropPlace_6 ?_
    refine lv_icmp_lt (tgt := 13) hx hb dX6_dropPlace_9 (by decide) (fun c_2 => ?_) (fun c_2 => ?_)
    · have hf := it_e hf c_2
      refine lv_iload_n hx hb dX6_dropPlace_13 rfl (lv_at hl 1 rfl) ?_
      refine lv_iconst (v := 1) hx hb dX6_dropPlace_14 (by decide) ?_
      refine lv_iadd hx hb dX6_dropPlace_15 ?_
      refine r_topn hf (fun x2_3 hf => ?_)
      refine lv_istore_n (lv' := [(2, .int x2_3), (0, .ref (X.2.2 a0)), (1, .int p1)]) hx hb dX6_dropPlace_16 rfl hl (by decide) rfl (fun ls hl => ?_)
      refine jn_e hf (fun kk => ∀ (M_5 : Mem) (H : Heap) (locs : List Loc) (ls : Array Slot), HW LC X M_5 s H locs → lv_has ls 3 [(0, .ref (X.2.2 a0))] → kk M_5 = some rs → W p l e rm_X6_dropPlace s m args below meth c H locs 0 0 Q (F0 m 39 ls [])) ?_ (fun k39_4 J39_4 hf => ?_)
      · intro M_5 H locs ls hw hl hf
        refine lv_aload_n hx hb dX6_dropPlace_39 rfl (lv_at hl 0 rfl) ?_
        refine lv_dup hx hb dX6_dropPlace_40 rfl ?_
        refine gt_X6_18 B hw (i := a0) ha0 dX6_dropPlace_41 ?_
        refine lv_iconst (v := 1) hx hb dX6_dropPlace_44 (by decide) ?_
        refine lv_isub hx hb dX6_dropPlace_45 ?_
        refine pt_X6_18 B hw (i := a0) ha0 dX6_dropPlace_46 hf (fun M_6 H locs hw hf => ?_)
        cases hf
        subst hQ
        exact q_vret B hr hlk hw rfl dX6_dropPlace_49
      have hL_17 : ∀ (n_17 : Nat) (x2_7 : Int32) (M_8 : Mem) (H : Heap) (locs : List Loc) (ls : Array Slot), HW LC X M_8 s H locs → lv_has ls 3 [(0, .ref (X.2.2 a0)), (2, .int x2_7)] → f_X6_dropPlace_L17 fu a0 k39_4 n_17 x2_7 M_8 = some rs → W p l e rm_X6_dropPlace s m args below meth c H locs 0 0 Q (F0 m 17 ls []) := by
        intro n_17
        induction n_17 with
        | zero => intro x2_7 M_8 H locs ls hw hl hf; exact no_none hf
        | succ n_17 ih_17 =>
          intro x2_7 M_8 H locs ls hw hl hf
          rw [f_X6_dropPlace_L17] at hf
          refine lv_iload_n hx hb dX6_dropPlace_17 rfl (lv_at hl 1 rfl) ?_
          refine lv_aload_n hx hb dX6_dropPlace_18 rfl (lv_at hl 0 rfl) ?_
          refine gt_X6_18 B hw (i := a0) ha0 dX6_dropPlace_19 ?_
          refine lv_icmp_ge (tgt := 39) hx hb dX6_dropPlace_22 (by decide) (fun c_9 => ?_) (fun c_9 => ?_)
          · have hf := it_e hf c_9
            exact J39_4 M_8 _ _ _ hw (lv_sub hl [0] rfl) hf
          · have hf := ie_e hf c_9
            refine lv_aload_n hx hb dX6_dropPlace_25 rfl (lv_at hl 0 rfl) ?_
            refine lv_iload_n hx hb dX6_dropPlace_26 rfl (lv_at hl 1 rfl) ?_
            refine lv_iload_n hx hb dX6_dropPlace_27 rfl (lv_at hl 1 rfl) ?_
            refine lv_iconst (v := 1) hx hb dX6_dropPlace_28 (by decide) ?_
            refine lv_isub hx hb dX6_dropPlace_29 ?_
            obtain ⟨M_11, h_10, hf⟩ := bd_e hf
            refine q_callVv (M' := M_11) (i := a0) (As := [.int x2_7, .int (x2_7 - 1)]) (rest := []) B hw (c_X6_moveRow l X fu a0 x2_7 (x2_7 - 1) M_8 ha0 M_11 h_10 _) cv_X6_30 (rc_6 B hw ha0) rfl hl.1 rfl rfl ⟨Nat.le_of_ble_eq_true rfl, Nat.le_of_ble_eq_true rfl⟩ (Nat.le_of_ble_eq_true rfl) ⟨Nat.le_of_ble_eq_true rfl, Nat.le_of_ble_eq_true rfl⟩ dX6_dropPlace_30 rfl (fun H locs hw => ?_)
            refine r_iinc (v := (x2_7 + 1)) hx hb dX6_dropPlace_33 hl (k := 1) rfl rfl (by decide) hf (fun x2_12 ls hl hf => ?_)
            have hl : lv_has ls 3 [(2, .int x2_12), (0, .ref (X.2.2 a0))] := hl
            refine lv_goto (tgt := 17) hx hb dX6_dropPlace_36 (by decide) ?_
            exact ih_17 x2_12 M_11 _ _ _ hw (lv_sub hl [1, 0] rfl) hf
      exact hL_17 fu x2_3 M _ _ _ hw (lv_sub hl [1, 0] rfl) hf
    · have hf := ie_e hf c_2
      cases hf
      subst hQ
      exact q_vret B hr hlk hw rfl dX6_dropPlace_12
abbrev rm_X0_keepWhatHolds : Room := { frames := 3, cells := 0, slots := 0, locals := 68 }
set_option maxRecDepth 100000 in
set_option maxHeartbeats 4000000 in
theorem c_X0_keepWhatHolds (l : Launch) (X : XT) (fu : Nat) (a0 : Nat) (p2 : Int32) (M : Mem) (ha0 : kC a0 = (0, 0)) (rs : Mem) (hf : f_X0_keepWhatHolds fu a0 p2 M = some rs) (sz : Nat) : Met l yX0_keepWhatHolds (wbig yX0_keepWhatHolds cX0_keepWhatHolds 4 none) rm_X0_keepWhatHolds (va_Pc [.ref (X.2.2 a0), .ref (X.2.2 80), .int p2] (PW LC X M sz)) (QV LC X rs sz) 0 0 (AX LC X sz) := by
  refine met_go (L := LC) (M := M) (by decide +kernel) (Nat.le_of_ble_eq_true rfl) ?_
  intro p e s m args below meth c hsz B hr hlk hw ls hl
  subst hsz
  have hx := B.hx
  have hb := B.hb
  have hl : lv_has ls 4 [(0, .ref (X.2.2 a0)), (1, .ref (X.2.2 80)), (2, .int p2)] := hl
  generalize hQ : MQ below _ args s 0 0 (AX LC X s.heap.size) = Q
  unfold f_X0_keepWhatHolds at hf
  refine lv_aload_n hx hb dX0_keepWhatHolds_0 rfl (lv_at hl 0 rfl) ?_
  refine gt_X0_11 B hw (i := a0) ha0 dX0_keepWhatHolds_1 ?_
  refine lv_iload_n hx hb dX0_keepWhatHolds_4 rfl (lv_at hl 2 rfl) ?_
  obtain ⟨g_1, hf⟩ := grd_e hf
  refine c_aldR B hw (i := (a0 + 5)) (kA5 ha0) g_1 dX0_keepWhatHolds_5 ?_
  refine r_topk (kV (kA5 ha0) g_1) hf (fun a_2 ha_2 hf => ?_)
  refine gt_X0_35 B hw (i := a_2) ha_2 dX0_keepWhatHolds_6 ?_
  refine lv_iconst (v := 1) hx hb dX0_keepWhatHolds_9 (by decide) ?_
  refine lv_isub hx hb dX0_keepWhatHolds_10 ?_
  refine r_topn hf (fun x3_3 hf => ?_)
  refine lv_istore_n (lv' := [(3, .int x3_3), (0, .ref (X.2.2 a0)), (1, .ref (X.2.2 80)), (2, .int p2)]) hx hb dX0_keepWhatHolds_11 rfl hl (by decide) rfl (fun ls hl => ?_)
  have hL_12 : ∀ (n_12 : Nat) (x3_4 : Int32) (M_5 : Mem) (H : Heap) (locs : List Loc) (ls : Array Slot), HW LC X M_5 s H locs → lv_has ls 4 [(0, .ref (X.2.2 a0)), (1, .ref (X.2.2 80)), (2, .int p2), (3, .int x3_4)] → f_X0_keepWhatHolds_L12 fu a0 p2 n_12 x3_4 M_5 = some rs → W p l e rm_X0_keepWhatHolds s m args below meth c H locs 0 0 Q (F0 m 12 ls []) := by
    intro n_12
    induction n_12 with
    | zero => intro x3_4 M_5 H locs ls hw hl hf; exact no_none hf
    | succ n_12 ih_12 =>
      intro x3_4 M_5 H locs ls hw hl hf
      rw [f_X0_keepWhatHolds_L12] at hf
      refine lv_iload_n hx hb dX0_keepWhatHolds_12 rfl (lv_at hl 3 rfl) ?_
      refine lv_if_lt (tgt := 47) hx hb dX0_keepWhatHolds_13 (by decide) (fun c_6 => ?_) (fun c_6 => ?_)
      · have hf := it_e hf c_6
        cases hf
        subst hQ
        exact q_vret B hr hlk hw rfl dX0_keepWhatHolds_47
      · have hf := ie_e hf c_6
        refine lv_aload_n hx hb dX0_keepWhatHolds_16 rfl (lv_at hl 1 rfl) ?_
        refine lv_iload_n hx hb dX0_keepWhatHolds_17 rfl (lv_at hl 2 rfl) ?_
        refine lv_aload_n hx hb dX0_keepWhatHolds_18 rfl (lv_at hl 0 rfl) ?_
        refine gt_X0_11 B hw (i := a0) ha0 dX0_keepWhatHolds_19 ?_
        refine lv_iload_n hx hb dX0_keepWhatHolds_22 rfl (lv_at hl 2 rfl) ?_
        obtain ⟨g_7, hf⟩ := grd_e hf
        refine c_aldR B hw (i := (a0 + 5)) (kA5 ha0) g_7 dX0_keepWhatHolds_23 ?_
        refine r_topk (kV (kA5 ha0) g_7) hf (fun a_8 ha_8 hf => ?_)
        refine lv_iload_n hx hb dX0_keepWhatHolds_24 rfl (lv_at hl 3 rfl) ?_
        obtain ⟨r_10, h_9, hf⟩ := bd_e hf
        refine q_callVi (M' := M_5) (i := 80) (As := [.int p2, .ref (X.2.2 a_8), .int x3_4]) (rest := []) B hw (c_X4_allHold l X fu p2 a_8 x3_4 M_5 ha_8 r_10 h_9 _) cv_X0_57 (rc_4 B hw rfl) rfl hl.1 rfl rfl ⟨Nat.le_of_ble_eq_true rfl, Nat.le_of_ble_eq_true rfl⟩ (Nat.le_of_ble_eq_true rfl) ⟨Nat.le_of_ble_eq_true rfl, Nat.le_of_ble_eq_true rfl⟩ dX0_keepWhatHolds_25 rfl (fun H locs hw => ?_)
        refine lv_if_ne (tgt := 41) hx hb dX0_keepWhatHolds_28 (by decide) (fun c_11 => ?_) (fun c_11 => ?_)
        · have hf := ie_e hf c_11
          refine r_iinc (v := (x3_4 + (-1))) hx hb dX0_keepWhatHolds_41 hl (k := 3) rfl rfl (by decide) hf (fun x3_12 ls hl hf => ?_)
          have hl : lv_has ls 4 [(3, .int x3_12), (0, .ref (X.2.2 a0)), (1, .ref (X.2.2 80)), (2, .int p2)] := hl
          refine lv_goto (tgt := 12) hx hb dX0_keepWhatHolds_44 (by decide) ?_
          exact ih_12 x3_12 M_5 _ _ _ hw (lv_sub hl [1, 2, 3, 0] rfl) hf
        · have hf := it_e hf c_11
          refine lv_aload_n hx hb dX0_keepWhatHolds_31 rfl (lv_at hl 0 rfl) ?_
          refine gt_X0_11 B hw (i := a0) ha0 dX0_keepWhatHolds_32 ?_
          refine lv_iload_n hx hb dX0_keepWhatHolds_35 rfl (lv_at hl 2 rfl) ?_
          refine c_aldR B hw (i := (a0 + 5)) (kA5 ha0) g_7 dX0_keepWhatHolds_36 ?_
          refine r_topk (kV (kA5 ha0) g_7) hf (fun a_13 ha_13 hf => ?_)
          refine lv_iload_n hx hb dX0_keepWhatHolds_37 rfl (lv_at hl 3 rfl) ?_
          obtain ⟨M_15, h_14, hf⟩ := bd_e hf
          refine q_callVv (M' := M_15) (i := a_13) (As := [.int x3_4]) (rest := []) B hw (c_X6_dropPlace l X fu a_13 x3_4 M_5 ha_13 M_15 h_14 _) cv_X0_63 (rc_6 B hw ha_13) rfl hl.1 rfl rfl ⟨Nat.le_of_ble_eq_true rfl, Nat.le_of_ble_eq_true rfl⟩ (Nat.le_of_ble_eq_true rfl) ⟨Nat.le_of_ble_eq_true rfl, Nat.le_of_ble_eq_true rfl⟩ dX0_keepWhatHolds_38 rfl (fun H locs hw => ?_)
          refine r_iinc (v := (x3_4 + (-1))) hx hb dX0_keepWhatHolds_41 hl (k := 3) rfl rfl (by decide) hf (fun x3_16 ls hl hf => ?_)
          have hl : lv_has ls 4 [(3, .int x3_16), (0, .ref (X.2.2 a0)), (1, .ref (X.2.2 80)), (2, .int p2)] := hl
          refine lv_goto (tgt := 12) hx hb dX0_keepWhatHolds_44 (by decide) ?_
          exact ih_12 x3_16 M_15 _ _ _ hw (lv_sub hl [1, 2, 3, 0] rfl) hf
  exact hL_12 fu x3_3 M _ _ _ hw (lv_sub hl [1, 2, 3, 0] rfl) hf
abbrev rm_X0_choices : Room := { frames := 0, cells := 0, slots := 0, locals := 0 }
set_option maxRecDepth 100000 in
set_option maxHeartbeats 4000000 in
theorem c_X0_choices (l : Launch) (X : XT) (fu : Nat) (a0 : Nat) (p2 : Int32) (M : Mem) (ha0 : kC a0 = (0, 0)) (rs : Int32) (hf : f_X0_choices fu a0 p2 M = some rs) (sz : Nat) : Met l yX0_choices (wbig yX0_choices cX0_choices 3 (some .int)) rm_X0_choices (va_Pc [.ref (X.2.2 a0), .ref (X.2.2 80), .int p2] (PW LC X M sz)) (QI LC X M rs sz) 0 0 (AX LC X sz) := by
  refine met_go (L := LC) (M := M) (by decide +kernel) (Nat.le_of_ble_eq_true rfl) ?_
  intro p e s m args below meth c hsz B hr hlk hw ls hl
  subst hsz
  have hx := B.hx
  have hb := B.hb
  have hl : lv_has ls 3 [(0, .ref (X.2.2 a0)), (1, .ref (X.2.2 80)), (2, .int p2)] := hl
  generalize hQ : MQ below _ args s 0 0 (AX LC X s.heap.size) = Q
  unfold f_X0_choices at hf
  refine lv_iload_n hx hb dX0_choices_0 rfl (lv_at hl 2 rfl) ?_
  refine lv_aload_n hx hb dX0_choices_1 rfl (lv_at hl 1 rfl) ?_
  refine gt_X0_95 B hw (i := 80) rfl dX0_choices_2 ?_
  refine lv_icmp_ge (tgt := 20) hx hb dX0_choices_5 (by decide) (fun c_1 => ?_) (fun c_1 => ?_)
  · have hf := it_e hf c_1
    refine lv_iconst (v := 1) hx hb dX0_choices_20 (by decide) ?_
    cases hf
    subst hQ
    exact q_iret B hr hlk hw rfl rfl dX0_choices_21
  · have hf := ie_e hf c_1
    refine lv_aload_n hx hb dX0_choices_8 rfl (lv_at hl 0 rfl) ?_
    refine gt_X0_11 B hw (i := a0) ha0 dX0_choices_9 ?_
    refine lv_iload_n hx hb dX0_choices_12 rfl (lv_at hl 2 rfl) ?_
    obtain ⟨g_2, hf⟩ := grd_e hf
    refine c_aldR B hw (i := (a0 + 5)) (kA5 ha0) g_2 dX0_choices_13 ?_
    refine r_topk (kV (kA5 ha0) g_2) hf (fun a_3 ha_3 hf => ?_)
    refine gt_X0_35 B hw (i := a_3) ha_3 dX0_choices_14 ?_
    refine lv_goto (tgt := 21) hx hb dX0_choices_17 (by decide) ?_
    cases hf
    subst hQ
    exact q_iret B hr hlk hw rfl rfl dX0_choices_21
abbrev rm_X0_pickedCell : Room := { frames := 2, cells := 0, slots := 0, locals := 44 }
set_option maxRecDepth 100000 in
set_option maxHeartbeats 4000000 in
theorem c_X0_pickedCell (l : Launch) (X : XT) (fu : Nat) (a0 : Nat) (p1 : Int32) (p2 : Int32) (M : Mem) (ha0 : kC a0 = (0, 0)) (rs : Int32) (hf : f_X0_pickedCell fu a0 p1 p2 M = some rs) (sz : Nat) : Met l yX0_pickedCell (wbig yX0_pickedCell cX0_pickedCell 3 (some .int)) rm_X0_pickedCell (va_Pc [.ref (X.2.2 a0), .int p1, .int p2] (PW LC X M sz)) (QI LC X M rs sz) 0 0 (AX LC X sz) := by
  refine met_go (L := LC) (M := M) (by decide +kernel) (Nat.le_of_ble_eq_true rfl) ?_
  intro p e s m args below meth c hsz B hr hlk hw ls hl
  subst hsz
  have hx := B.hx
  have hb := B.hb
  have hl : lv_has ls 3 [(0, .ref (X.2.2 a0)), (1, .int p1), (2, .int p2)] := hl
  generalize hQ : MQ below _ args s 0 0 (AX LC X s.heap.size) = Q
  unfold f_X0_pickedCell at hf
  refine lv_aload_n hx hb dX0_pickedCell_0 rfl (lv_at hl 0 rfl) ?_
  refine gt_X0_11 B hw (i := a0) ha0 dX0_pickedCell_1 ?_
  refine lv_iload_n hx hb dX0_pickedCell_4 rfl (lv_at hl 1 rfl) ?_
  obtain ⟨g_1, hf⟩ := grd_e hf
  refine c_aldR B hw (i := (a0 + 5)) (kA5 ha0) g_1 dX0_pickedCell_5 ?_
  refine r_topk (kV (kA5 ha0) g_1) hf (fun a_2 ha_2 hf => ?_)
  refine lv_aload_n hx hb dX0_pickedCell_6 rfl (lv_at hl 0 rfl) ?_
  refine gt_X0_21 B hw (i := a0) ha0 dX0_pickedCell_7 ?_
  refine lv_iload_n hx hb dX0_pickedCell_10 rfl (lv_at hl 1 rfl) ?_
  refine c_iald B hw (i := (a0 + 2)) (kA2 ha0) g_1 dX0_pickedCell_11 ?_
  refine lv_iload_n hx hb dX0_pickedCell_12 rfl (lv_at hl 2 rfl) ?_
  obtain ⟨r_4, h_3, hf⟩ := bd_e hf
  refine q_callVi (M' := M) (i := a_2) (As := [.int (M (a0 + 2) p1.toNatClampNeg), .int p2]) (rest := []) B hw (c_X6_cellAt l X fu a_2 (M (a0 + 2) p1.toNatClampNeg) p2 M ha_2 r_4 h_3 _) cv_X0_114 (rc_6 B hw ha_2) rfl hl.1 rfl rfl ⟨Nat.le_of_ble_eq_true rfl, Nat.le_of_ble_eq_true rfl⟩ (Nat.le_of_ble_eq_true rfl) ⟨Nat.le_of_ble_eq_true rfl, Nat.le_of_ble_eq_true rfl⟩ dX0_pickedCell_13 rfl (fun H locs hw => ?_)
  cases hf
  subst hQ
  exact q_iret B hr hlk hw rfl rfl dX0_pickedCell_16
abbrev rm_X0_linksHold : Room := { frames := 3, cells := 0, slots := 0, locals := 66 }
set_option maxRecDepth 100000 in
set_option maxHeartbeats 4000000 in
theorem c_X0_linksHold (l : Launch) (X : XT) (fu : Nat) (a0 : Nat) (p2 : Int32) (M : Mem) (ha0 : kC a0 = (0, 0)) (rs : Int32) (hf : f_X0_linksHold fu a0 p2 M = some rs) (sz : Nat) : Met l yX0_linksHold (wbig yX0_linksHold cX0_linksHold 5 (some .boolean)) rm_X0_linksHold (va_Pc [.ref (X.2.2 a0), .ref (X.2.2 80), .int p2] (PW LC X M sz)) (QI LC X M rs sz) 0 0 (AX LC X sz) := by
  refine met_go (L := LC) (M := M) (by decide +kernel) (Nat.le_of_ble_eq_true rfl) ?_
  intro p e s m args below meth c hsz B hr hlk hw ls hl
  subst hsz
  have hx := B.hx
  have hb := B.hb
  have hl : lv_has ls 5 [(0, .ref (X.2.2 a0)), (1, .ref (X.2.2 80)), (2, .int p2)] := hl
  generalize hQ : MQ below _ args s 0 0 (AX LC X s.heap.size) = Q
  unfold f_X0_linksHold at hf
  refine lv_iconst (v := 1) hx hb dX0_linksHold_0 (by decide) ?_
  refine lv_istore_n (lv' := [(3, .int 1), (0, .ref (X.2.2 a0)), (1, .ref (X.2.2 80)), (2, .int p2)]) hx hb dX0_linksHold_1 rfl hl (by decide) rfl (fun ls hl => ?_)
  have hL_2 : ∀ (n_2 : Nat) (x3_1 : Int32) (H : Heap) (locs : List Loc) (ls : Array Slot), HW LC X M s H locs → lv_has ls 5 [(0, .ref (X.2.2 a0)), (1, .ref (X.2.2 80)), (2, .int p2), (3, .int x3_1)] → f_X0_linksHold_L2 fu a0 p2 M n_2 x3_1 = some rs → W p l e rm_X0_linksHold s m args below meth c H locs 0 0 Q (F0 m 2 ls []) := by
    intro n_2
    induction n_2 with
    | zero => intro x3_1 H locs ls hw hl hf; exact no_none hf
    | succ n_2 ih_2 =>
      intro x3_1 H locs ls hw hl hf
      rw [f_X0_linksHold_L2] at hf
      refine lv_iload_n hx hb dX0_linksHold_2 rfl (lv_at hl 3 rfl) ?_
      refine lv_iconst (v := 2) hx hb dX0_linksHold_3 (by decide) ?_
      refine lv_aload_n hx hb dX0_linksHold_4 rfl (lv_at hl 1 rfl) ?_
      refine gt_X0_98 B hw (i := 80) rfl dX0_linksHold_5 ?_
      refine lv_imul hx hb dX0_linksHold_8 ?_
      refine lv_icmp_ge (tgt := 79) hx hb dX0_linksHold_9 (by decide) (fun c_2 => ?_) (fun c_2 => ?_)
      · have hf := it_e hf c_2
        refine lv_iconst (v := 1) hx hb dX0_linksHold_79 (by decide) ?_
        cases hf
        subst hQ
        exact q_zret B hr hlk rfl hw rfl rfl dX0_linksHold_80
      · have hf := ie_e hf c_2
        refine lv_aload_n hx hb dX0_linksHold_12 rfl (lv_at hl 1 rfl) ?_
        refine gt_X0_101 B hw (i := 80) rfl dX0_linksHold_13 ?_
        refine lv_iload_n hx hb dX0_linksHold_16 rfl (lv_at hl 3 rfl) ?_
        obtain ⟨g_3, hf⟩ := grd_e hf
        refine c_iald B hw (i := 82) rfl g_3 dX0_linksHold_17 ?_
        refine lv_iload_n hx hb dX0_linksHold_18 rfl (lv_at hl 2 rfl) ?_
        refine lv_icmp_eq (tgt := 25) hx hb dX0_linksHold_19 (by decide) (fun c_4 => ?_) (fun c_4 => ?_)
        · have hf := it_e hf c_4
          refine lv_aload_n hx hb dX0_linksHold_25 rfl (lv_at hl 0 rfl) ?_
          refine lv_iload_n hx hb dX0_linksHold_26 rfl (lv_at hl 2 rfl) ?_
          refine lv_aload_n hx hb dX0_linksHold_27 rfl (lv_at hl 1 rfl) ?_
          refine gt_X0_104 B hw (i := 80) rfl dX0_linksHold_28 ?_
          refine lv_iload_n hx hb dX0_linksHold_31 rfl (lv_at hl 3 rfl) ?_
          refine c_iald B hw (i := 83) rfl g_3 dX0_linksHold_32 ?_
          obtain ⟨r_6, h_5, hf⟩ := bd_e hf
          refine q_callVi (M' := M) (i := a0) (As := [.int p2, .int (M 83 x3_1.toNatClampNeg)]) (rest := []) B hw (c_X0_pickedCell l X fu a0 p2 (M 83 x3_1.toNatClampNeg) M ha0 r_6 h_5 _) cv_X0_107 (rc_0 B hw ha0) rfl hl.1 rfl rfl ⟨Nat.le_of_ble_eq_true rfl, Nat.le_of_ble_eq_true rfl⟩ (Nat.le_of_ble_eq_true rfl) ⟨Nat.le_of_ble_eq_true rfl, Nat.le_of_ble_eq_true rfl⟩ dX0_linksHold_33 rfl (fun H locs hw => ?_)
          refine lv_istore (lv' := [(4, .int r_6), (0, .ref (X.2.2 a0)), (1, .ref (X.2.2 80)), (2, .int p2), (3, .int x3_1)]) hx hb dX0_linksHold_36 hl (by decide) rfl (fun ls hl => ?_)
          refine lv_iload hx hb dX0_linksHold_38 (lv_at hl 0 rfl) ?_
          refine q_callNi (M' := M) (As := [.int r_6]) (rest := []) B hw (c_X10_isNumber l X r_6 _ rfl M _) cn_X0_110 rfl hl.1 rfl rfl ⟨Nat.le_of_ble_eq_true rfl, Nat.le_of_ble_eq_true rfl⟩ (Nat.le_of_ble_eq_true rfl) ⟨Nat.le_of_ble_eq_true rfl, Nat.le_of_ble_eq_true rfl⟩ dX0_linksHold_40 rfl (fun H locs hw => ?_)
          refine lv_if_eq (tgt := 71) hx hb dX0_linksHold_43 (by decide) (fun c_7 => ?_) (fun c_7 => ?_)
          · have hf := it_e hf c_7
            refine lv_iconst (v := 0) hx hb dX0_linksHold_71 (by decide) ?_
            cases hf
            subst hQ
            exact q_zret B hr hlk rfl hw rfl rfl dX0_linksHold_72
          · have hf := ie_e hf c_7
            refine lv_iload hx hb dX0_linksHold_46 (lv_at hl 0 rfl) ?_
            refine lv_aload_n hx hb dX0_linksHold_48 rfl (lv_at hl 1 rfl) ?_
            refine lv_aload_n hx hb dX0_linksHold_49 rfl (lv_at hl 2 rfl) ?_
            refine gt_X0_101 B hw (i := 80) rfl dX0_linksHold_50 ?_
            refine lv_iload_n hx hb dX0_linksHold_53 rfl (lv_at hl 4 rfl) ?_
            refine lv_iconst (v := 1) hx hb dX0_linksHold_54 (by decide) ?_
            refine lv_isub hx hb dX0_linksHold_55 ?_
            obtain ⟨g_8, hf⟩ := grd_e hf
            refine c_iald B hw (i := 82) rfl g_8 dX0_linksHold_56 ?_
            refine lv_aload_n hx hb dX0_linksHold_57 rfl (lv_at hl 2 rfl) ?_
            refine gt_X0_104 B hw (i := 80) rfl dX0_linksHold_58 ?_
            refine lv_iload_n hx hb dX0_linksHold_61 rfl (lv_at hl 4 rfl) ?_
            refine lv_iconst (v := 1) hx hb dX0_linksHold_62 (by decide) ?_
            refine lv_isub hx hb dX0_linksHold_63 ?_
            refine c_iald B hw (i := 83) rfl g_8 dX0_linksHold_64 ?_
            obtain ⟨r_10, h_9, hf⟩ := bd_e hf
            refine q_callVi (M' := M) (i := a0) (As := [.int (M 82 (x3_1 - 1).toNatClampNeg), .int (M 83 (x3_1 - 1).toNatClampNeg)]) (rest := [.int r_6]) B hw (c_X0_pickedCell l X fu a0 (M 82 (x3_1 - 1).toNatClampNeg) (M 83 (x3_1 - 1).toNatClampNeg) M ha0 r_10 h_9 _) cv_X0_107 (rc_0 B hw ha0) rfl hl.1 rfl rfl ⟨Nat.le_of_ble_eq_true rfl, Nat.le_of_ble_eq_true rfl⟩ (Nat.le_of_ble_eq_true rfl) ⟨Nat.le_of_ble_eq_true rfl, Nat.le_of_ble_eq_true rfl⟩ dX0_linksHold_65 rfl (fun H locs hw => ?_)
            refine lv_icmp_eq (tgt := 73) hx hb dX0_linksHold_68 (by decide) (fun c_11 => ?_) (fun c_11 => ?_)
            · have hf := it_e hf c_11
              refine r_iinc (v := (x3_1 + 2)) hx hb dX0_linksHold_73 hl (k := 4) rfl rfl (by decide) hf (fun x3_12 ls hl hf => ?_)
              have hl : lv_has ls 5 [(3, .int x3_12), (4, .int r_6), (0, .ref (X.2.2 a0)), (1, .ref (X.2.2 80)), (2, .int p2)] := hl
              refine lv_goto (tgt := 2) hx hb dX0_linksHold_76 (by decide) ?_
              exact ih_2 x3_12 _ _ _ hw (lv_sub hl [2, 3, 4, 0] rfl) hf
            · have hf := ie_e hf c_11
              refine lv_iconst (v := 0) hx hb dX0_linksHold_71 (by decide) ?_
              cases hf
              subst hQ
              exact q_zret B hr hlk rfl hw rfl rfl dX0_linksHold_72
        · have hf := ie_e hf c_4
          refine lv_goto (tgt := 73) hx hb dX0_linksHold_22 (by decide) ?_
          refine r_iinc (v := (x3_1 + 2)) hx hb dX0_linksHold_73 hl (k := 3) rfl rfl (by decide) hf (fun x3_13 ls hl hf => ?_)
          have hl : lv_has ls 5 [(3, .int x3_13), (0, .ref (X.2.2 a0)), (1, .ref (X.2.2 80)), (2, .int p2)] := hl
          refine lv_goto (tgt := 2) hx hb dX0_linksHold_76 (by decide) ?_
          exact ih_2 x3_13 _ _ _ hw (lv_sub hl [1, 2, 3, 0] rfl) hf
  exact hL_2 fu 1 _ _ _ hw (lv_sub hl [1, 2, 3, 0] rfl) hf
abbrev rm_X0_groupOf : Room := { frames := 1, cells := 0, slots := 0, locals := 20 }
set_option maxRecDepth 100000 in
set_option maxHeartbeats 4000000 in
theorem c_X0_groupOf (l : Launch) (X : XT) (fu : Nat) (a0 : Nat) (p1 : Int32) (M : Mem) (ha0 : kC a0 = (0, 0)) (rs : (Int32 × Mem)) (hf : f_X0_groupOf fu a0 p1 M = some rs) (sz : Nat) : Met l yX0_groupOf (wbig yX0_groupOf cX0_groupOf 5 (some .int)) rm_X0_groupOf (va_Pc [.ref (X.2.2 a0), .int p1] (PW LC X M sz)) (QI LC X rs.2 rs.1 sz) 0 0 (AX LC X sz) := by
  refine met_go (L := LC) (M := M) (by decide +kernel) (Nat.le_of_ble_eq_true rfl) ?_
  intro p e s m args below meth c hsz B hr hlk hw ls hl
  subst hsz
  have hx := B.hx
  have hb := B.hb
  have hl : lv_has ls 5 [(0, .ref (X.2.2 a0)), (1, .int p1)] := hl
  generalize hQ : MQ below _ args s 0 0 (AX LC X s.heap.size) = Q
  unfold f_X0_groupOf at hf
  refine lv_iconst (v := 0) hx hb dX0_groupOf_0 (by decide) ?_
  refine lv_istore_n (lv' := [(2, .int 0), (0, .ref (X.2.2 a0)), (1, .int p1)]) hx hb dX0_groupOf_1 rfl hl (by decide) rfl (fun ls hl => ?_)
  refine jn_e hf (fun kk => ∀ (x2_2 : Int32) (H : Heap) (locs : List Loc) (ls : Array Slot), HW LC X M s H locs → lv_has ls 5 [(0, .ref (X.2.2 a0)), (1, .int p1), (2, .int x2_2)] → kk x2_2 = some rs → W p l e rm_X0_groupOf s m args below meth c H locs 0 0 Q (F0 m 34 ls [])) ?_ (fun k34_1 J34_1 hf => ?_)
  · intro x2_2 H locs ls hw hl hf
    refine lv_iload_n hx hb dX0_groupOf_34 rfl (lv_at hl 2 rfl) ?_
    refine lv_iconst (v := 3) hx hb dX0_groupOf_35 (by decide) ?_
    refine lv_imul hx hb dX0_groupOf_36 ?_
    refine r_topn hf (fun x3_3 hf => ?_)
    refine lv_istore_n (lv' := [(3, .int x3_3), (0, .ref (X.2.2 a0)), (1, .int p1), (2, .int x2_2)]) hx hb dX0_groupOf_37 rfl hl (by decide) rfl (fun ls hl => ?_)
    refine lv_iload_n hx hb dX0_groupOf_38 rfl (lv_at hl 3 rfl) ?_
    refine lv_aload_n hx hb dX0_groupOf_39 rfl (lv_at hl 1 rfl) ?_
    refine gt_X0_53 B hw (i := a0) ha0 dX0_groupOf_40 ?_
    refine jn_e hf (fun kk => ∀ (_ : Unit) (H : Heap) (locs : List Loc) (ls : Array Slot), HW LC X M s H locs → lv_has ls 5 [(0, .ref (X.2.2 a0)), (1, .int p1), (2, .int x2_2), (3, .int x3_3)] → kk () = some rs → W p l e rm_X0_groupOf s m args below meth c H locs 0 0 Q (F0 m 58 ls [])) ?_ (fun k58_4 J58_4 hf => ?_)
    · intro _ H locs ls hw hl hf
      refine lv_aload_n hx hb dX0_groupOf_58 rfl (lv_at hl 0 rfl) ?_
      refine gt_X0_53 B hw (i := a0) ha0 dX0_groupOf_59 ?_
      refine lv_iconst (v := 3) hx hb dX0_groupOf_62 (by decide) ?_
      refine lv_imul hx hb dX0_groupOf_63 ?_
      refine lv_iconst (v := 1) hx hb dX0_groupOf_64 (by decide) ?_
      refine lv_isub hx hb dX0_groupOf_65 ?_
      refine r_topn hf (fun x4_5 hf => ?_)
      refine lv_istore (lv' := [(4, .int x4_5), (0, .ref (X.2.2 a0)), (1, .int p1), (2, .int x2_2), (3, .int x3_3)]) hx hb dX0_groupOf_66 hl (by decide) rfl (fun ls hl => ?_)
      refine jn_e hf (fun kk => ∀ (M_7 : Mem) (H : Heap) (locs : List Loc) (ls : Array Slot), HW LC X M_7 s H locs → lv_has ls 5 [(0, .ref (X.2.2 a0)), (1, .int p1), (2, .int x2_2), (3, .int x3_3)] → kk M_7 = some rs → W p l e rm_X0_groupOf s m args below meth c H locs 0 0 Q (F0 m 96 ls [])) ?_ (fun k96_6 J96_6 hf => ?_)
      · intro M_7 H locs ls hw hl hf
        refine lv_aload_n hx hb dX0_groupOf_96 rfl (lv_at hl 0 rfl) ?_
        refine gt_X0_17 B hw (i := a0) ha0 dX0_groupOf_97 ?_
        refine lv_iload_n hx hb dX0_groupOf_100 rfl (lv_at hl 3 rfl) ?_
        refine lv_iload_n hx hb dX0_groupOf_101 rfl (lv_at hl 1 rfl) ?_
        obtain ⟨g_8, hf⟩ := grd_e hf
        refine c_iast B hw (i := (a0 + 1)) (kA1 ha0) g_8 dX0_groupOf_102 hf (fun M_9 H locs hw hf => ?_)
        refine lv_aload_n hx hb dX0_groupOf_103 rfl (lv_at hl 0 rfl) ?_
        refine gt_X0_17 B hw (i := a0) ha0 dX0_groupOf_104 ?_
        refine lv_iload_n hx hb dX0_groupOf_107 rfl (lv_at hl 3 rfl) ?_
        refine lv_iconst (v := 1) hx hb dX0_groupOf_108 (by decide) ?_
        refine lv_iadd hx hb dX0_groupOf_109 ?_
        refine lv_iconst (v := 0) hx hb dX0_groupOf_110 (by decide) ?_
        obtain ⟨g_10, hf⟩ := grd_e hf
        refine c_iast B hw (i := (a0 + 1)) (kA1 ha0) g_10 dX0_groupOf_111 hf (fun M_11 H locs hw hf => ?_)
        refine lv_aload_n hx hb dX0_groupOf_112 rfl (lv_at hl 0 rfl) ?_
        refine gt_X0_17 B hw (i := a0) ha0 dX0_groupOf_113 ?_
        refine lv_iload_n hx hb dX0_groupOf_116 rfl (lv_at hl 3 rfl) ?_
        refine lv_iconst (v := 2) hx hb dX0_groupOf_117 (by decide) ?_
        refine lv_iadd hx hb dX0_groupOf_118 ?_
        refine lv_iconst (v := 0) hx hb dX0_groupOf_119 (by decide) ?_
        obtain ⟨g_12, hf⟩ := grd_e hf
        refine c_iast B hw (i := (a0 + 1)) (kA1 ha0) g_12 dX0_groupOf_120 hf (fun M_13 H locs hw hf => ?_)
        refine lv_aload_n hx hb dX0_groupOf_121 rfl (lv_at hl 0 rfl) ?_
        refine lv_dup hx hb dX0_groupOf_122 rfl ?_
        refine gt_X0_53 B hw (i := a0) ha0 dX0_groupOf_123 ?_
        refine lv_iconst (v := 1) hx hb dX0_groupOf_126 (by decide) ?_
        refine lv_iadd hx hb dX0_groupOf_127 ?_
        refine pt_X0_53 B hw (i := a0) ha0 dX0_groupOf_128 hf (fun M_14 H locs hw hf => ?_)
        refine lv_iload_n hx hb dX0_groupOf_131 rfl (lv_at hl 2 rfl) ?_
        cases hf
        subst hQ
        exact q_iret B hr hlk hw rfl rfl dX0_groupOf_132
      have hL_68 : ∀ (n_68 : Nat) (x4_15 : Int32) (M_16 : Mem) (H : Heap) (locs : List Loc) (ls : Array Slot), HW LC X M_16 s H locs → lv_has ls 5 [(0, .ref (X.2.2 a0)), (1, .int p1), (2, .int x2_2), (3, .int x3_3), (4, .int x4_15)] → f_X0_groupOf_L68 fu a0 x3_3 k96_6 n_68 x4_15 M_16 = some rs → W p l e rm_X0_groupOf s m args below meth c H locs 0 0 Q (F0 m 68 ls []) := by
        intro n_68
        induction n_68 with
        | zero => intro x4_15 M_16 H locs ls hw hl hf; exact no_none hf
        | succ n_68 ih_68 =>
          intro x4_15 M_16 H locs ls hw hl hf
          rw [f_X0_groupOf_L68] at hf
          refine lv_iload hx hb dX0_groupOf_68 (lv_at hl 4 rfl) ?_
          refine lv_iload_n hx hb dX0_groupOf_70 rfl (lv_at hl 3 rfl) ?_
          refine lv_icmp_lt (tgt := 96) hx hb dX0_groupOf_71 (by decide) (fun c_17 => ?_) (fun c_17 => ?_)
          · have hf := it_e hf c_17
            exact J96_6 M_16 _ _ _ hw (lv_sub hl [0, 1, 2, 3] rfl) hf
          · have hf := ie_e hf c_17
            refine lv_aload_n hx hb dX0_groupOf_74 rfl (lv_at hl 0 rfl) ?_
            refine gt_X0_17 B hw (i := a0) ha0 dX0_groupOf_75 ?_
            refine lv_iload hx hb dX0_groupOf_78 (lv_at hl 4 rfl) ?_
            refine lv_iconst (v := 3) hx hb dX0_groupOf_80 (by decide) ?_
            refine lv_iadd hx hb dX0_groupOf_81 ?_
            refine lv_aload_n hx hb dX0_groupOf_82 rfl (lv_at hl 0 rfl) ?_
            refine gt_X0_17 B hw (i := a0) ha0 dX0_groupOf_83 ?_
            refine lv_iload hx hb dX0_groupOf_86 (lv_at hl 4 rfl) ?_
            obtain ⟨g_18, hf⟩ := grd_e hf
            refine c_iald B hw (i := (a0 + 1)) (kA1 ha0) g_18 dX0_groupOf_88 ?_
            obtain ⟨g_19, hf⟩ := grd_e hf
            refine c_iast B hw (i := (a0 + 1)) (kA1 ha0) g_19 dX0_groupOf_89 hf (fun M_20 H locs hw hf => ?_)
            refine r_iinc (v := (x4_15 + (-1))) hx hb dX0_groupOf_90 hl (k := 4) rfl rfl (by decide) hf (fun x4_21 ls hl hf => ?_)
            have hl : lv_has ls 5 [(4, .int x4_21), (0, .ref (X.2.2 a0)), (1, .int p1), (2, .int x2_2), (3, .int x3_3)] := hl
            refine lv_goto (tgt := 68) hx hb dX0_groupOf_93 (by decide) ?_
            exact ih_68 x4_21 M_20 _ _ _ hw (lv_sub hl [1, 2, 3, 4, 0] rfl) hf
      exact hL_68 fu x4_5 M _ _ _ hw (lv_sub hl [1, 2, 3, 4, 0] rfl) hf
    refine lv_icmp_ge (tgt := 58) hx hb dX0_groupOf_43 (by decide) (fun c_22 => ?_) (fun c_22 => ?_)
    · have hf := it_e hf c_22
      exact J58_4 () _ _ _ hw (lv_sub hl [1, 2, 3, 0] rfl) hf
    · have hf := ie_e hf c_22
      refine lv_aload_n hx hb dX0_groupOf_46 rfl (lv_at hl 1 rfl) ?_
      refine gt_X0_17 B hw (i := a0) ha0 dX0_groupOf_47 ?_
      refine lv_iload_n hx hb dX0_groupOf_50 rfl (lv_at hl 0 rfl) ?_
      obtain ⟨g_23, hf⟩ := grd_e hf
      refine c_iald B hw (i := (a0 + 1)) (kA1 ha0) g_23 dX0_groupOf_51 ?_
      refine lv_iload_n hx hb dX0_groupOf_52 rfl (lv_at hl 2 rfl) ?_
      refine lv_icmp_ne (tgt := 58) hx hb dX0_groupOf_53 (by decide) (fun c_24 => ?_) (fun c_24 => ?_)
      · have hf := ie_e hf c_24
        exact J58_4 () _ _ _ hw (lv_sub hl [1, 2, 3, 0] rfl) hf
      · have hf := it_e hf c_24
        refine lv_iload_n hx hb dX0_groupOf_56 rfl (lv_at hl 3 rfl) ?_
        cases hf
        subst hQ
        exact q_iret B hr hlk hw rfl rfl dX0_groupOf_57
  have hL_2 : ∀ (n_2 : Nat) (x2_25 : Int32) (H : Heap) (locs : List Loc) (ls : Array Slot), HW LC X M s H locs → lv_has ls 5 [(0, .ref (X.2.2 a0)), (1, .int p1), (2, .int x2_25)] → f_X0_groupOf_L2 fu a0 p1 M k34_1 n_2 x2_25 = some rs → W p l e rm_X0_groupOf s m args below meth c H locs 0 0 Q (F0 m 2 ls []) := by
    intro n_2
    induction n_2 with
    | zero => intro x2_25 H locs ls hw hl hf; exact no_none hf
    | succ n_2 ih_2 =>
      intro x2_25 H locs ls hw hl hf
      rw [f_X0_groupOf_L2] at hf
      refine lv_iload_n hx hb dX0_groupOf_2 rfl (lv_at hl 2 rfl) ?_
      refine lv_aload_n hx hb dX0_groupOf_3 rfl (lv_at hl 0 rfl) ?_
      refine gt_X0_53 B hw (i := a0) ha0 dX0_groupOf_4 ?_
      refine lv_icmp_ge (tgt := 34) hx hb dX0_groupOf_7 (by decide) (fun c_26 => ?_) (fun c_26 => ?_)
      · have hf := it_e hf c_26
        exact J34_1 x2_25 _ _ _ hw (lv_sub hl [0, 1, 2] rfl) hf
      · have hf := ie_e hf c_26
        refine lv_aload_n hx hb dX0_groupOf_10 rfl (lv_at hl 0 rfl) ?_
        refine gt_X0_17 B hw (i := a0) ha0 dX0_groupOf_11 ?_
        refine lv_iload_n hx hb dX0_groupOf_14 rfl (lv_at hl 2 rfl) ?_
        refine lv_iconst (v := 3) hx hb dX0_groupOf_15 (by decide) ?_
        refine lv_imul hx hb dX0_groupOf_16 ?_
        obtain ⟨g_27, hf⟩ := grd_e hf
        refine c_iald B hw (i := (a0 + 1)) (kA1 ha0) g_27 dX0_groupOf_17 ?_
        refine q_callSi (M' := M) (As := [.int (M (a0 + 1) (x2_25 * 3).toNatClampNeg)]) (rest := []) B hw (c_X0_rank l X (M (a0 + 1) (x2_25 * 3).toNatClampNeg) _ rfl M _) cs_X0_131 rfl hl.1 rfl rfl ⟨Nat.le_of_ble_eq_true rfl, Nat.le_of_ble_eq_true rfl⟩ (Nat.le_of_ble_eq_true rfl) ⟨Nat.le_of_ble_eq_true rfl, Nat.le_of_ble_eq_true rfl⟩ dX0_groupOf_18 rfl (fun H locs hw => ?_)
        refine lv_iload_n hx hb dX0_groupOf_21 rfl (lv_at hl 1 rfl) ?_
        refine q_callSi (M' := M) (As := [.int p1]) (rest := [.int (f_X0_rank (M (a0 + 1) (x2_25 * 3).toNatClampNeg))]) B hw (c_X0_rank l X p1 _ rfl M _) cs_X0_131 rfl hl.1 rfl rfl ⟨Nat.le_of_ble_eq_true rfl, Nat.le_of_ble_eq_true rfl⟩ (Nat.le_of_ble_eq_true rfl) ⟨Nat.le_of_ble_eq_true rfl, Nat.le_of_ble_eq_true rfl⟩ dX0_groupOf_22 rfl (fun H locs hw => ?_)
        refine lv_icmp_ge (tgt := 34) hx hb dX0_groupOf_25 (by decide) (fun c_28 => ?_) (fun c_28 => ?_)
        · have hf := it_e hf c_28
          exact J34_1 x2_25 _ _ _ hw (lv_sub hl [0, 1, 2] rfl) hf
        · have hf := ie_e hf c_28
          refine r_iinc (v := (x2_25 + 1)) hx hb dX0_groupOf_28 hl (k := 2) rfl rfl (by decide) hf (fun x2_29 ls hl hf => ?_)
          have hl : lv_has ls 5 [(2, .int x2_29), (0, .ref (X.2.2 a0)), (1, .int p1)] := hl
          refine lv_goto (tgt := 2) hx hb dX0_groupOf_31 (by decide) ?_
          exact ih_2 x2_29 _ _ _ hw (lv_sub hl [1, 2, 0] rfl) hf
  exact hL_2 fu 0 _ _ _ hw (lv_sub hl [1, 2, 0] rfl) hf
abbrev rm_X0_takeIntoGroup : Room := { frames := 2, cells := 0, slots := 0, locals := 44 }
set_option maxRecDepth 100000 in
set_option maxHeartbeats 4000000 in
theorem c_X0_takeIntoGroup (l : Launch) (X : XT) (fu : Nat) (a0 : Nat) (p1 : Int32) (p2 : Int32) (M : Mem) (ha0 : kC a0 = (0, 0)) (rs : Mem) (hf : f_X0_takeIntoGroup fu a0 p1 p2 M = some rs) (sz : Nat) : Met l yX0_takeIntoGroup (wbig yX0_takeIntoGroup cX0_takeIntoGroup 4 none) rm_X0_takeIntoGroup (va_Pc [.ref (X.2.2 a0), .int p1, .int p2] (PW LC X M sz)) (QV LC X rs sz) 0 0 (AX LC X sz) := by
  refine met_go (L := LC) (M := M) (by decide +kernel) (Nat.le_of_ble_eq_true rfl) ?_
  intro p e s m args below meth c hsz B hr hlk hw ls hl
  subst hsz
  have hx := B.hx
  have hb := B.hb
  have hl : lv_has ls 4 [(0, .ref (X.2.2 a0)), (1, .int p1), (2, .int p2)] := hl
  generalize hQ : MQ below _ args s 0 0 (AX LC X s.heap.size) = Q
  unfold f_X0_takeIntoGroup at hf
  refine lv_aload_n hx hb dX0_takeIntoGroup_0 rfl (lv_at hl 0 rfl) ?_
  refine lv_iload_n hx hb dX0_takeIntoGroup_1 rfl (lv_at hl 1 rfl) ?_
  obtain ⟨r_2, M_3, h_1, hf⟩ := bm_e hf
  refine q_callVi (M' := M_3) (i := a0) (As := [.int p1]) (rest := []) B hw (c_X0_groupOf l X fu a0 p1 M ha0 (r_2, M_3) h_1 _) cv_X0_127 (rc_0 B hw ha0) rfl hl.1 rfl rfl ⟨Nat.le_of_ble_eq_true rfl, Nat.le_of_ble_eq_true rfl⟩ (Nat.le_of_ble_eq_true rfl) ⟨Nat.le_of_ble_eq_true rfl, Nat.le_of_ble_eq_true rfl⟩ dX0_takeIntoGroup_2 rfl (fun H locs hw => ?_)
  refine lv_iconst (v := 3) hx hb dX0_takeIntoGroup_5 (by decide) ?_
  refine lv_imul hx hb dX0_takeIntoGroup_6 ?_
  refine r_topn hf (fun x3_4 hf => ?_)
  refine lv_istore_n (lv' := [(3, .int x3_4), (0, .ref (X.2.2 a0)), (1, .int p1), (2, .int p2)]) hx hb dX0_takeIntoGroup_7 rfl hl (by decide) rfl (fun ls hl => ?_)
  refine lv_aload_n hx hb dX0_takeIntoGroup_8 rfl (lv_at hl 1 rfl) ?_
  refine gt_X0_17 B hw (i := a0) ha0 dX0_takeIntoGroup_9 ?_
  refine lv_iload_n hx hb dX0_takeIntoGroup_12 rfl (lv_at hl 0 rfl) ?_
  refine lv_iconst (v := 1) hx hb dX0_takeIntoGroup_13 (by decide) ?_
  refine lv_iadd hx hb dX0_takeIntoGroup_14 ?_
  refine lv_dup2_11 hx hb dX0_takeIntoGroup_15 rfl rfl ?_
  obtain ⟨g_5, hf⟩ := grd_e hf
  refine c_iald B hw (i := (a0 + 1)) (kA1 ha0) g_5 dX0_takeIntoGroup_16 ?_
  refine lv_iconst (v := 1) hx hb dX0_takeIntoGroup_17 (by decide) ?_
  refine lv_iadd hx hb dX0_takeIntoGroup_18 ?_
  refine c_iast B hw (i := (a0 + 1)) (kA1 ha0) g_5 dX0_takeIntoGroup_19 hf (fun M_6 H locs hw hf => ?_)
  refine lv_iload_n hx hb dX0_takeIntoGroup_20 rfl (lv_at hl 3 rfl) ?_
  refine q_callNi (M' := M_6) (As := [.int p2]) (rest := []) B hw (c_X10_isNumber l X p2 _ rfl M_6 _) cn_X0_110 rfl hl.1 rfl rfl ⟨Nat.le_of_ble_eq_true rfl, Nat.le_of_ble_eq_true rfl⟩ (Nat.le_of_ble_eq_true rfl) ⟨Nat.le_of_ble_eq_true rfl, Nat.le_of_ble_eq_true rfl⟩ dX0_takeIntoGroup_21 rfl (fun H locs hw => ?_)
  refine lv_if_eq (tgt := 39) hx hb dX0_takeIntoGroup_24 (by decide) (fun c_7 => ?_) (fun c_7 => ?_)
  · have hf := it_e hf c_7
    cases hf
    subst hQ
    exact q_vret B hr hlk hw rfl dX0_takeIntoGroup_39
  · have hf := ie_e hf c_7
    refine lv_aload_n hx hb dX0_takeIntoGroup_27 rfl (lv_at hl 1 rfl) ?_
    refine gt_X0_17 B hw (i := a0) ha0 dX0_takeIntoGroup_28 ?_
    refine lv_iload_n hx hb dX0_takeIntoGroup_31 rfl (lv_at hl 0 rfl) ?_
    refine lv_iconst (v := 2) hx hb dX0_takeIntoGroup_32 (by decide) ?_
    refine lv_iadd hx hb dX0_takeIntoGroup_33 ?_
    refine lv_dup2_11 hx hb dX0_takeIntoGroup_34 rfl rfl ?_
    obtain ⟨g_8, hf⟩ := grd_e hf
    refine c_iald B hw (i := (a0 + 1)) (kA1 ha0) g_8 dX0_takeIntoGroup_35 ?_
    refine lv_iload_n hx hb dX0_takeIntoGroup_36 rfl (lv_at hl 3 rfl) ?_
    refine lv_iadd hx hb dX0_takeIntoGroup_37 ?_
    refine c_iast B hw (i := (a0 + 1)) (kA1 ha0) g_8 dX0_takeIntoGroup_38 hf (fun M_9 H locs hw hf => ?_)
    cases hf
    subst hQ
    exact q_vret B hr hlk hw rfl dX0_takeIntoGroup_39
abbrev rm_X0_takeMatch : Room := { frames := 3, cells := 0, slots := 0, locals := 67 }
set_option maxRecDepth 100000 in
set_option maxHeartbeats 4000000 in
theorem c_X0_takeMatch (l : Launch) (X : XT) (fu : Nat) (a0 : Nat) (M : Mem) (ha0 : kC a0 = (0, 0)) (rs : Mem) (hf : f_X0_takeMatch fu a0 M = some rs) (sz : Nat) : Met l yX0_takeMatch (wbig yX0_takeMatch cX0_takeMatch 3 none) rm_X0_takeMatch (va_Pc [.ref (X.2.2 a0), .ref (X.2.2 80)] (PW LC X M sz)) (QV LC X rs sz) 0 0 (AX LC X sz) := by
  refine met_go (L := LC) (M := M) (by decide +kernel) (Nat.le_of_ble_eq_true rfl) ?_
  intro p e s m args below meth c hsz B hr hlk hw ls hl
  subst hsz
  have hx := B.hx
  have hb := B.hb
  have hl : lv_has ls 3 [(0, .ref (X.2.2 a0)), (1, .ref (X.2.2 80))] := hl
  generalize hQ : MQ below _ args s 0 0 (AX LC X s.heap.size) = Q
  unfold f_X0_takeMatch at hf
  refine lv_aload_n hx hb dX0_takeMatch_0 rfl (lv_at hl 1 rfl) ?_
  refine gt_X0_67 B hw (i := 80) rfl dX0_takeMatch_1 ?_
  refine lv_if_eq (tgt := 53) hx hb dX0_takeMatch_4 (by decide) (fun c_1 => ?_) (fun c_1 => ?_)
  · have hf := it_e hf c_1
    refine lv_aload_n hx hb dX0_takeMatch_53 rfl (lv_at hl 0 rfl) ?_
    refine gt_X0_53 B hw (i := a0) ha0 dX0_takeMatch_54 ?_
    refine lv_aload_n hx hb dX0_takeMatch_57 rfl (lv_at hl 1 rfl) ?_
    refine gt_X0_86 B hw (i := 80) rfl dX0_takeMatch_58 ?_
    refine lv_icmp_ge (tgt := 119) hx hb dX0_takeMatch_61 (by decide) (fun c_2 => ?_) (fun c_2 => ?_)
    · have hf := it_e hf c_2
      cases hf
      subst hQ
      exact q_vret B hr hlk hw rfl dX0_takeMatch_119
    · have hf := ie_e hf c_2
      refine lv_iconst (v := 0) hx hb dX0_takeMatch_64 (by decide) ?_
      refine lv_istore_n (lv' := [(2, .int 0), (0, .ref (X.2.2 a0)), (1, .ref (X.2.2 80))]) hx hb dX0_takeMatch_65 rfl hl (by decide) rfl (fun ls hl => ?_)
      refine jn_e hf (fun kk => ∀ (M_4 : Mem) (H : Heap) (locs : List Loc) (ls : Array Slot), HW LC X M_4 s H locs → lv_has ls 3 [(0, .ref (X.2.2 a0))] → kk M_4 = some rs → W p l e rm_X0_takeMatch s m args below meth c H locs 0 0 Q (F0 m 109 ls [])) ?_ (fun k109_3 J109_3 hf => ?_)
      · intro M_4 H locs ls hw hl hf
        refine lv_aload_n hx hb dX0_takeMatch_109 rfl (lv_at hl 0 rfl) ?_
        refine lv_dup hx hb dX0_takeMatch_110 rfl ?_
        refine gt_X0_53 B hw (i := a0) ha0 dX0_takeMatch_111 ?_
        refine lv_iconst (v := 1) hx hb dX0_takeMatch_114 (by decide) ?_
        refine lv_iadd hx hb dX0_takeMatch_115 ?_
        refine pt_X0_53 B hw (i := a0) ha0 dX0_takeMatch_116 hf (fun M_5 H locs hw hf => ?_)
        cases hf
        subst hQ
        exact q_vret B hr hlk hw rfl dX0_takeMatch_119
      have hL_66 : ∀ (n_66 : Nat) (x2_6 : Int32) (M_7 : Mem) (H : Heap) (locs : List Loc) (ls : Array Slot), HW LC X M_7 s H locs → lv_has ls 3 [(0, .ref (X.2.2 a0)), (1, .ref (X.2.2 80)), (2, .int x2_6)] → f_X0_takeMatch_L66 fu a0 k109_3 n_66 x2_6 M_7 = some rs → W p l e rm_X0_takeMatch s m args below meth c H locs 0 0 Q (F0 m 66 ls []) := by
        intro n_66
        induction n_66 with
        | zero => intro x2_6 M_7 H locs ls hw hl hf; exact no_none hf
        | succ n_66 ih_66 =>
          intro x2_6 M_7 H locs ls hw hl hf
          rw [f_X0_takeMatch_L66] at hf
          refine lv_iload_n hx hb dX0_takeMatch_66 rfl (lv_at hl 2 rfl) ?_
          refine lv_aload_n hx hb dX0_takeMatch_67 rfl (lv_at hl 1 rfl) ?_
          refine gt_X0_71 B hw (i := 80) rfl dX0_takeMatch_68 ?_
          refine lv_icmp_ge (tgt := 109) hx hb dX0_takeMatch_71 (by decide) (fun c_8 => ?_) (fun c_8 => ?_)
          · have hf := it_e hf c_8
            exact J109_3 M_7 _ _ _ hw (lv_sub hl [0] rfl) hf
          · have hf := ie_e hf c_8
            refine lv_aload_n hx hb dX0_takeMatch_74 rfl (lv_at hl 0 rfl) ?_
            refine gt_X0_17 B hw (i := a0) ha0 dX0_takeMatch_75 ?_
            refine lv_aload_n hx hb dX0_takeMatch_78 rfl (lv_at hl 0 rfl) ?_
            refine gt_X0_53 B hw (i := a0) ha0 dX0_takeMatch_79 ?_
            refine lv_iconst (v := 3) hx hb dX0_takeMatch_82 (by decide) ?_
            refine lv_imul hx hb dX0_takeMatch_83 ?_
            refine lv_iload_n hx hb dX0_takeMatch_84 rfl (lv_at hl 2 rfl) ?_
            refine lv_iadd hx hb dX0_takeMatch_85 ?_
            refine lv_aload_n hx hb dX0_takeMatch_86 rfl (lv_at hl 0 rfl) ?_
            refine lv_aload_n hx hb dX0_takeMatch_87 rfl (lv_at hl 1 rfl) ?_
            refine gt_X0_117 B hw (i := 80) rfl dX0_takeMatch_88 ?_
            refine lv_iload_n hx hb dX0_takeMatch_91 rfl (lv_at hl 2 rfl) ?_
            obtain ⟨g_9, hf⟩ := grd_e hf
            refine c_iald B hw (i := 88) rfl g_9 dX0_takeMatch_92 ?_
            refine lv_aload_n hx hb dX0_takeMatch_93 rfl (lv_at hl 1 rfl) ?_
            refine gt_X0_120 B hw (i := 80) rfl dX0_takeMatch_94 ?_
            refine lv_iload_n hx hb dX0_takeMatch_97 rfl (lv_at hl 2 rfl) ?_
            refine c_iald B hw (i := 89) rfl g_9 dX0_takeMatch_98 ?_
            obtain ⟨r_11, h_10, hf⟩ := bd_e hf
            refine q_callVi (M' := M_7) (i := a0) (As := [.int (M_7 88 x2_6.toNatClampNeg), .int (M_7 89 x2_6.toNatClampNeg)]) (rest := [.int (((M_7 a0 5) * 3) + x2_6), .ref (X.2.2 (a0 + 1))]) B hw (c_X0_pickedCell l X fu a0 (M_7 88 x2_6.toNatClampNeg) (M_7 89 x2_6.toNatClampNeg) M_7 ha0 r_11 h_10 _) cv_X0_107 (rc_0 B hw ha0) rfl hl.1 rfl rfl ⟨Nat.le_of_ble_eq_true rfl, Nat.le_of_ble_eq_true rfl⟩ (Nat.le_of_ble_eq_true rfl) ⟨Nat.le_of_ble_eq_true rfl, Nat.le_of_ble_eq_true rfl⟩ dX0_takeMatch_99 rfl (fun H locs hw => ?_)
            obtain ⟨g_12, hf⟩ := grd_e hf
            refine c_iast B hw (i := (a0 + 1)) (kA1 ha0) g_12 dX0_takeMatch_102 hf (fun M_13 H locs hw hf => ?_)
            refine r_iinc (v := (x2_6 + 1)) hx hb dX0_takeMatch_103 hl (k := 2) rfl rfl (by decide) hf (fun x2_14 ls hl hf => ?_)
            have hl : lv_has ls 3 [(2, .int x2_14), (0, .ref (X.2.2 a0)), (1, .ref (X.2.2 80))] := hl
            refine lv_goto (tgt := 66) hx hb dX0_takeMatch_106 (by decide) ?_
            exact ih_66 x2_14 M_13 _ _ _ hw (lv_sub hl [1, 2, 0] rfl) hf
      exact hL_66 fu 0 M _ _ _ hw (lv_sub hl [1, 2, 0] rfl) hf
  · have hf := ie_e hf c_1
    refine lv_aload_n hx hb dX0_takeMatch_7 rfl (lv_at hl 1 rfl) ?_
    refine gt_X0_71 B hw (i := 80) rfl dX0_takeMatch_8 ?_
    refine lv_iconst (v := 1) hx hb dX0_takeMatch_11 (by decide) ?_
    refine lv_isub hx hb dX0_takeMatch_12 ?_
    refine r_topn hf (fun x2_15 hf => ?_)
    refine lv_istore_n (lv' := [(2, .int x2_15), (0, .ref (X.2.2 a0)), (1, .ref (X.2.2 80))]) hx hb dX0_takeMatch_13 rfl hl (by decide) rfl (fun ls hl => ?_)
    refine lv_aload_n hx hb dX0_takeMatch_14 rfl (lv_at hl 1 rfl) ?_
    refine lv_aload_n hx hb dX0_takeMatch_15 rfl (lv_at hl 1 rfl) ?_
    refine lv_aload_n hx hb dX0_takeMatch_16 rfl (lv_at hl 2 rfl) ?_
    refine gt_X0_117 B hw (i := 80) rfl dX0_takeMatch_17 ?_
    refine lv_iconst (v := 0) hx hb dX0_takeMatch_20 (by decide) ?_
    refine c_iald B hw (i := 88) rfl (by decide) dX0_takeMatch_21 ?_
    refine lv_aload_n hx hb dX0_takeMatch_22 rfl (lv_at hl 2 rfl) ?_
    refine gt_X0_120 B hw (i := 80) rfl dX0_takeMatch_23 ?_
    refine lv_iconst (v := 0) hx hb dX0_takeMatch_26 (by decide) ?_
    refine c_iald B hw (i := 89) rfl (by decide) dX0_takeMatch_27 ?_
    obtain ⟨r_17, h_16, hf⟩ := bd_e hf
    refine q_callVi (M' := M) (i := a0) (As := [.int (M 88 0), .int (M 89 0)]) (rest := [.ref (X.2.2 a0)]) B hw (c_X0_pickedCell l X fu a0 (M 88 0) (M 89 0) M ha0 r_17 h_16 _) cv_X0_107 (rc_0 B hw ha0) rfl hl.1 rfl rfl ⟨Nat.le_of_ble_eq_true rfl, Nat.le_of_ble_eq_true rfl⟩ (Nat.le_of_ble_eq_true rfl) ⟨Nat.le_of_ble_eq_true rfl, Nat.le_of_ble_eq_true rfl⟩ dX0_takeMatch_28 rfl (fun H locs hw => ?_)
    refine lv_aload_n hx hb dX0_takeMatch_31 rfl (lv_at hl 1 rfl) ?_
    refine lv_aload_n hx hb dX0_takeMatch_32 rfl (lv_at hl 2 rfl) ?_
    refine gt_X0_117 B hw (i := 80) rfl dX0_takeMatch_33 ?_
    refine lv_iload_n hx hb dX0_takeMatch_36 rfl (lv_at hl 0 rfl) ?_
    obtain ⟨g_18, hf⟩ := grd_e hf
    refine c_iald B hw (i := 88) rfl g_18 dX0_takeMatch_37 ?_
    refine lv_aload_n hx hb dX0_takeMatch_38 rfl (lv_at hl 2 rfl) ?_
    refine gt_X0_120 B hw (i := 80) rfl dX0_takeMatch_39 ?_
    refine lv_iload_n hx hb dX0_takeMatch_42 rfl (lv_at hl 0 rfl) ?_
    refine c_iald B hw (i := 89) rfl g_18 dX0_takeMatch_43 ?_
    obtain ⟨r_20, h_19, hf⟩ := bd_e hf
    refine q_callVi (M' := M) (i := a0) (As := [.int (M 88 x2_15.toNatClampNeg), .int (M 89 x2_15.toNatClampNeg)]) (rest := [.int r_17, .ref (X.2.2 a0)]) B hw (c_X0_pickedCell l X fu a0 (M 88 x2_15.toNatClampNeg) (M 89 x2_15.toNatClampNeg) M ha0 r_20 h_19 _) cv_X0_107 (rc_0 B hw ha0) rfl hl.1 rfl rfl ⟨Nat.le_of_ble_eq_true rfl, Nat.le_of_ble_eq_true rfl⟩ (Nat.le_of_ble_eq_true rfl) ⟨Nat.le_of_ble_eq_true rfl, Nat.le_of_ble_eq_true rfl⟩ dX0_takeMatch_44 rfl (fun H locs hw => ?_)
    obtain ⟨M_22, h_21, hf⟩ := bd_e hf
    refine q_callVv (M' := M_22) (i := a0) (As := [.int r_17, .int r_20]) (rest := []) B hw (c_X0_takeIntoGroup l X fu a0 r_17 r_20 M ha0 M_22 h_21 _) cv_X0_123 (rc_0 B hw ha0) rfl hl.1 rfl rfl ⟨Nat.le_of_ble_eq_true rfl, Nat.le_of_ble_eq_true rfl⟩ (Nat.le_of_ble_eq_true rfl) ⟨Nat.le_of_ble_eq_true rfl, Nat.le_of_ble_eq_true rfl⟩ dX0_takeMatch_47 rfl (fun H locs hw => ?_)
    refine lv_goto (tgt := 119) hx hb dX0_takeMatch_50 (by decide) ?_
    cases hf
    subst hQ
    exact q_vret B hr hlk hw rfl dX0_takeMatch_119
abbrev rm_X0_make : Room := { frames := 4, cells := 0, slots := 0, locals := 90 }
set_option maxRecDepth 100000 in
set_option maxHeartbeats 4000000 in
theorem c_X0_make (l : Launch) (X : XT) (fu : Nat) (a0 : Nat) (M : Mem) (ha0 : kC a0 = (0, 0)) (rs : Mem) (hf : f_X0_make fu a0 M = some rs) (sz : Nat) : Met l yX0_make (wbig yX0_make cX0_make 5 none) rm_X0_make (va_Pc [.ref (X.2.2 a0), .ref (X.2.2 80)] (PW LC X M sz)) (QV LC X rs sz) 0 0 (AX LC X sz) := by
  refine met_go (L := LC) (M := M) (by decide +kernel) (Nat.le_of_ble_eq_true rfl) ?_
  intro p e s m args below meth c hsz B hr hlk hw ls hl
  subst hsz
  have hx := B.hx
  have hb := B.hb
  have hl : lv_has ls 5 [(0, .ref (X.2.2 a0)), (1, .ref (X.2.2 80))] := hl
  generalize hQ : MQ below _ args s 0 0 (AX LC X s.heap.size) = Q
  unfold f_X0_make at hf
  refine lv_aload_n hx hb dX0_make_0 rfl (lv_at hl 0 rfl) ?_
  refine lv_iconst (v := 0) hx hb dX0_make_1 (by decide) ?_
  refine pt_X0_53 B hw (i := a0) ha0 dX0_make_2 hf (fun M_1 H locs hw hf => ?_)
  refine lv_aload_n hx hb dX0_make_5 rfl (lv_at hl 0 rfl) ?_
  refine lv_aload_n hx hb dX0_make_6 rfl (lv_at hl 1 rfl) ?_
  refine gt_X0_67 B hw (i := 80) rfl dX0_make_7 ?_
  refine nmv_e hf (fun kk => ∀ (H : Heap) (locs : List Loc), HW LC X M_1 s H locs → W p l e rm_X0_make s m args below meth c H locs 0 0 Q (F0 m 21 ls [.int kk, .ref (X.2.2 a0)])) (fun J => ?_) (fun v_3 hf H locs hw => ?_)
  · refine lv_if_eq (tgt := 17) hx hb dX0_make_10 (by decide) (fun c_2 => ?_) (fun c_2 => ?_)
    · rw [if_pos c_2] at J
      refine lv_aload_n hx hb dX0_make_17 rfl (lv_at hl 1 rfl) ?_
      refine gt_X0_71 B hw (i := 80) rfl dX0_make_18 ?_
      exact J _ _ hw
    · rw [if_neg c_2] at J
      refine lv_iconst (v := 3) hx hb dX0_make_13 (by decide) ?_
      refine lv_goto (tgt := 21) hx hb dX0_make_14 (by decide) ?_
      exact J _ _ hw
  · refine pt_X0_54 B hw (i := a0) ha0 dX0_make_21 hf (fun M_4 H locs hw hf => ?_)
    refine lv_iconst (v := 0) hx hb dX0_make_24 (by decide) ?_
    refine lv_istore_n (lv' := [(2, .int 0), (0, .ref (X.2.2 a0)), (1, .ref (X.2.2 80))]) hx hb dX0_make_25 rfl hl (by decide) rfl (fun ls hl => ?_)
    refine jn_e hf (fun kk => ∀ (M_6 : Mem) (H : Heap) (locs : List Loc) (ls : Array Slot), HW LC X M_6 s H locs → lv_has ls 5 [(0, .ref (X.2.2 a0)), (1, .ref (X.2.2 80))] → kk M_6 = some rs → W p l e rm_X0_make s m args below meth c H locs 0 0 Q (F0 m 128 ls [])) ?_ (fun k128_5 J128_5 hf => ?_)
    · intro M_6 H locs ls hw hl hf
      refine lv_aload_n hx hb dX0_make_128 rfl (lv_at hl 0 rfl) ?_
      refine lv_aload_n hx hb dX0_make_129 rfl (lv_at hl 0 rfl) ?_
      refine gt_X0_53 B hw (i := a0) ha0 dX0_make_130 ?_
      refine lv_aload_n hx hb dX0_make_133 rfl (lv_at hl 1 rfl) ?_
      refine gt_X0_86 B hw (i := 80) rfl dX0_make_134 ?_
      refine q_min B hl.1 (big_at 1125 (by decide +kernel) (by decide +kernel)) (big_at 678 (by decide +kernel) (by decide +kernel)) (big_at 18 (by decide +kernel) (by decide +kernel)) (big_at 679 (by decide +kernel) (by decide +kernel)) (Nat.le_of_ble_eq_true rfl) (Nat.le_of_ble_eq_true rfl) (Nat.zero_le _) (Nat.zero_le _) dX0_make_137 ?_
      refine pt_X0_53 B hw (i := a0) ha0 dX0_make_140 hf (fun M_7 H locs hw hf => ?_)
      cases hf
      subst hQ
      exact q_vret B hr hlk hw rfl dX0_make_143
    have hL_26 : ∀ (n_26 : Nat) (x2_8 : Int32) (M_9 : Mem) (H : Heap) (locs : List Loc) (ls : Array Slot), HW LC X M_9 s H locs → lv_has ls 5 [(0, .ref (X.2.2 a0)), (1, .ref (X.2.2 80)), (2, .int x2_8)] → f_X0_make_L26 fu a0 k128_5 n_26 x2_8 M_9 = some rs → W p l e rm_X0_make s m args below meth c H locs 0 0 Q (F0 m 26 ls []) := by
      intro n_26
      induction n_26 with
      | zero => intro x2_8 M_9 H locs ls hw hl hf; exact no_none hf
      | succ n_26 ih_26 =>
        intro x2_8 M_9 H locs ls hw hl hf
        rw [f_X0_make_L26] at hf
        refine lv_iload_n hx hb dX0_make_26 rfl (lv_at hl 2 rfl) ?_
        refine lv_aload_n hx hb dX0_make_27 rfl (lv_at hl 0 rfl) ?_
        refine lv_aload_n hx hb dX0_make_28 rfl (lv_at hl 1 rfl) ?_
        refine lv_iconst (v := 0) hx hb dX0_make_29 (by decide) ?_
        obtain ⟨r_11, h_10, hf⟩ := bd_e hf
        refine q_callVi (M' := M_9) (i := a0) (As := [.ref (X.2.2 80), .int 0]) (rest := [.int x2_8]) B hw (c_X0_choices l X fu a0 0 M_9 ha0 r_11 h_10 _) cv_X0_74 (rc_0 B hw ha0) rfl hl.1 rfl rfl ⟨Nat.le_of_ble_eq_true rfl, Nat.le_of_ble_eq_true rfl⟩ (Nat.le_of_ble_eq_true rfl) ⟨Nat.le_of_ble_eq_true rfl, Nat.le_of_ble_eq_true rfl⟩ dX0_make_30 rfl (fun H locs hw => ?_)
        refine lv_icmp_ge (tgt := 128) hx hb dX0_make_33 (by decide) (fun c_12 => ?_) (fun c_12 => ?_)
        · have hf := it_e hf c_12
          exact J128_5 M_9 _ _ _ hw (lv_sub hl [0, 1] rfl) hf
        · have hf := ie_e hf c_12
          refine lv_aload_n hx hb dX0_make_36 rfl (lv_at hl 0 rfl) ?_
          refine gt_X0_21 B hw (i := a0) ha0 dX0_make_37 ?_
          refine lv_iconst (v := 0) hx hb dX0_make_40 (by decide) ?_
          refine lv_iload_n hx hb dX0_make_41 rfl (lv_at hl 2 rfl) ?_
          refine c_iast B hw (i := (a0 + 2)) (kA2 ha0) (by decide) dX0_make_42 hf (fun M_13 H locs hw hf => ?_)
          refine lv_iconst (v := 0) hx hb dX0_make_43 (by decide) ?_
          refine lv_istore_n (lv' := [(3, .int 0), (0, .ref (X.2.2 a0)), (1, .ref (X.2.2 80)), (2, .int x2_8)]) hx hb dX0_make_44 rfl hl (by decide) rfl (fun ls hl => ?_)
          refine jn_e hf (fun kk => ∀ (M_15 : Mem) (H : Heap) (locs : List Loc) (ls : Array Slot), HW LC X M_15 s H locs → lv_has ls 5 [(0, .ref (X.2.2 a0)), (1, .ref (X.2.2 80)), (2, .int x2_8)] → kk M_15 = some rs → W p l e rm_X0_make s m args below meth c H locs 0 0 Q (F0 m 122 ls [])) ?_ (fun k122_14 J122_14 hf => ?_)
          · intro M_15 H locs ls hw hl hf
            refine r_iinc (v := (x2_8 + 1)) hx hb dX0_make_122 hl (k := 2) rfl rfl (by decide) hf (fun x2_16 ls hl hf => ?_)
            have hl : lv_has ls 5 [(2, .int x2_16), (0, .ref (X.2.2 a0)), (1, .ref (X.2.2 80))] := hl
            refine lv_goto (tgt := 26) hx hb dX0_make_125 (by decide) ?_
            exact ih_26 x2_16 M_15 _ _ _ hw (lv_sub hl [1, 2, 0] rfl) hf
          have hL_45 : ∀ (n_45 : Nat) (x3_17 : Int32) (M_18 : Mem) (H : Heap) (locs : List Loc) (ls : Array Slot), HW LC X M_18 s H locs → lv_has ls 5 [(0, .ref (X.2.2 a0)), (1, .ref (X.2.2 80)), (2, .int x2_8), (3, .int x3_17)] → f_X0_make_L45 fu a0 k122_14 n_45 x3_17 M_18 = some rs → W p l e rm_X0_make s m args below meth c H locs 0 0 Q (F0 m 45 ls []) := by
            intro n_45
            induction n_45 with
            | zero => intro x3_17 M_18 H locs ls hw hl hf; exact no_none hf
            | succ n_45 ih_45 =>
              intro x3_17 M_18 H locs ls hw hl hf
              rw [f_X0_make_L45] at hf
              refine lv_iload_n hx hb dX0_make_45 rfl (lv_at hl 3 rfl) ?_
              refine lv_aload_n hx hb dX0_make_46 rfl (lv_at hl 0 rfl) ?_
              refine lv_aload_n hx hb dX0_make_47 rfl (lv_at hl 1 rfl) ?_
              refine lv_iconst (v := 1) hx hb dX0_make_48 (by decide) ?_
              obtain ⟨r_20, h_19, hf⟩ := bd_e hf
              refine q_callVi (M' := M_18) (i := a0) (As := [.ref (X.2.2 80), .int 1]) (rest := [.int x3_17]) B hw (c_X0_choices l X fu a0 1 M_18 ha0 r_20 h_19 _) cv_X0_74 (rc_0 B hw ha0) rfl hl.1 rfl rfl ⟨Nat.le_of_ble_eq_true rfl, Nat.le_of_ble_eq_true rfl⟩ (Nat.le_of_ble_eq_true rfl) ⟨Nat.le_of_ble_eq_true rfl, Nat.le_of_ble_eq_true rfl⟩ dX0_make_49 rfl (fun H locs hw => ?_)
              refine lv_icmp_ge (tgt := 122) hx hb dX0_make_52 (by decide) (fun c_21 => ?_) (fun c_21 => ?_)
              · have hf := it_e hf c_21
                exact J122_14 M_18 _ _ _ hw (lv_sub hl [0, 1, 2] rfl) hf
              · have hf := ie_e hf c_21
                refine lv_aload_n hx hb dX0_make_55 rfl (lv_at hl 0 rfl) ?_
                refine gt_X0_21 B hw (i := a0) ha0 dX0_make_56 ?_
                refine lv_iconst (v := 1) hx hb dX0_make_59 (by decide) ?_
                refine lv_iload_n hx hb dX0_make_60 rfl (lv_at hl 3 rfl) ?_
                refine c_iast B hw (i := (a0 + 2)) (kA2 ha0) (by decide) dX0_make_61 hf (fun M_22 H locs hw hf => ?_)
                refine lv_aload_n hx hb dX0_make_62 rfl (lv_at hl 0 rfl) ?_
                refine lv_aload_n hx hb dX0_make_63 rfl (lv_at hl 1 rfl) ?_
                refine lv_iconst (v := 1) hx hb dX0_make_64 (by decide) ?_
                obtain ⟨r_24, h_23, hf⟩ := bd_e hf
                refine q_callVi (M' := M_22) (i := a0) (As := [.ref (X.2.2 80), .int 1]) (rest := []) B hw (c_X0_linksHold l X fu a0 1 M_22 ha0 r_24 h_23 _) cv_X0_78 (rc_0 B hw ha0) rfl hl.1 rfl rfl ⟨Nat.le_of_ble_eq_true rfl, Nat.le_of_ble_eq_true rfl⟩ (Nat.le_of_ble_eq_true rfl) ⟨Nat.le_of_ble_eq_true rfl, Nat.le_of_ble_eq_true rfl⟩ dX0_make_65 rfl (fun H locs hw => ?_)
                refine lv_if_ne (tgt := 74) hx hb dX0_make_68 (by decide) (fun c_25 => ?_) (fun c_25 => ?_)
                · have hf := ie_e hf c_25
                  refine lv_iconst (v := 0) hx hb dX0_make_74 (by decide) ?_
                  refine lv_istore (lv' := [(4, .int 0), (0, .ref (X.2.2 a0)), (1, .ref (X.2.2 80)), (2, .int x2_8), (3, .int x3_17)]) hx hb dX0_make_75 hl (by decide) rfl (fun ls hl => ?_)
                  refine jn_e hf (fun kk => ∀ (M_27 : Mem) (H : Heap) (locs : List Loc) (ls : Array Slot), HW LC X M_27 s H locs → lv_has ls 5 [(0, .ref (X.2.2 a0)), (1, .ref (X.2.2 80)), (2, .int x2_8), (3, .int x3_17)] → kk M_27 = some rs → W p l e rm_X0_make s m args below meth c H locs 0 0 Q (F0 m 116 ls [])) ?_ (fun k116_26 J116_26 hf => ?_)
                  · intro M_27 H locs ls hw hl hf
                    refine r_iinc (v := (x3_17 + 1)) hx hb dX0_make_116 hl (k := 3) rfl rfl (by decide) hf (fun x3_28 ls hl hf => ?_)
                    have hl : lv_has ls 5 [(3, .int x3_28), (0, .ref (X.2.2 a0)), (1, .ref (X.2.2 80)), (2, .int x2_8)] := hl
                    refine lv_goto (tgt := 45) hx hb dX0_make_119 (by decide) ?_
                    exact ih_45 x3_28 M_27 _ _ _ hw (lv_sub hl [1, 2, 3, 0] rfl) hf
                  have hL_77 : ∀ (n_77 : Nat) (x4_29 : Int32) (M_30 : Mem) (H : Heap) (locs : List Loc) (ls : Array Slot), HW LC X M_30 s H locs → lv_has ls 5 [(0, .ref (X.2.2 a0)), (1, .ref (X.2.2 80)), (2, .int x2_8), (3, .int x3_17), (4, .int x4_29)] → f_X0_make_L77 fu a0 k116_26 n_77 x4_29 M_30 = some rs → W p l e rm_X0_make s m args below meth c H locs 0 0 Q (F0 m 77 ls []) := by
                    intro n_77
                    induction n_77 with
                    | zero => intro x4_29 M_30 H locs ls hw hl hf; exact no_none hf
                    | succ n_77 ih_77 =>
                      intro x4_29 M_30 H locs ls hw hl hf
                      rw [f_X0_make_L77] at hf
                      refine lv_iload hx hb dX0_make_77 (lv_at hl 4 rfl) ?_
                      refine lv_aload_n hx hb dX0_make_79 rfl (lv_at hl 0 rfl) ?_
                      refine lv_aload_n hx hb dX0_make_80 rfl (lv_at hl 1 rfl) ?_
                      refine lv_iconst (v := 2) hx hb dX0_make_81 (by decide) ?_
                      obtain ⟨r_32, h_31, hf⟩ := bd_e hf
                      refine q_callVi (M' := M_30) (i := a0) (As := [.ref (X.2.2 80), .int 2]) (rest := [.int x4_29]) B hw (c_X0_choices l X fu a0 2 M_30 ha0 r_32 h_31 _) cv_X0_74 (rc_0 B hw ha0) rfl hl.1 rfl rfl ⟨Nat.le_of_ble_eq_true rfl, Nat.le_of_ble_eq_true rfl⟩ (Nat.le_of_ble_eq_true rfl) ⟨Nat.le_of_ble_eq_true rfl, Nat.le_of_ble_eq_true rfl⟩ dX0_make_82 rfl (fun H locs hw => ?_)
                      refine lv_icmp_ge (tgt := 116) hx hb dX0_make_85 (by decide) (fun c_33 => ?_) (fun c_33 => ?_)
                      · have hf := it_e hf c_33
                        exact J116_26 M_30 _ _ _ hw (lv_sub hl [0, 1, 2, 3] rfl) hf
                      · have hf := ie_e hf c_33
                        refine lv_aload_n hx hb dX0_make_88 rfl (lv_at hl 0 rfl) ?_
                        refine gt_X0_21 B hw (i := a0) ha0 dX0_make_89 ?_
                        refine lv_iconst (v := 2) hx hb dX0_make_92 (by decide) ?_
                        refine lv_iload hx hb dX0_make_93 (lv_at hl 4 rfl) ?_
                        refine c_iast B hw (i := (a0 + 2)) (kA2 ha0) (by decide) dX0_make_95 hf (fun M_34 H locs hw hf => ?_)
                        refine lv_aload_n hx hb dX0_make_96 rfl (lv_at hl 0 rfl) ?_
                        refine lv_aload_n hx hb dX0_make_97 rfl (lv_at hl 1 rfl) ?_
                        refine lv_iconst (v := 2) hx hb dX0_make_98 (by decide) ?_
                        obtain ⟨r_36, h_35, hf⟩ := bd_e hf
                        refine q_callVi (M' := M_34) (i := a0) (As := [.ref (X.2.2 80), .int 2]) (rest := []) B hw (c_X0_linksHold l X fu a0 2 M_34 ha0 r_36 h_35 _) cv_X0_78 (rc_0 B hw ha0) rfl hl.1 rfl rfl ⟨Nat.le_of_ble_eq_true rfl, Nat.le_of_ble_eq_true rfl⟩ (Nat.le_of_ble_eq_true rfl) ⟨Nat.le_of_ble_eq_true rfl, Nat.le_of_ble_eq_true rfl⟩ dX0_make_99 rfl (fun H locs hw => ?_)
                        refine lv_if_eq (tgt := 110) hx hb dX0_make_102 (by decide) (fun c_37 => ?_) (fun c_37 => ?_)
                        · have hf := it_e hf c_37
                          refine r_iinc (v := (x4_29 + 1)) hx hb dX0_make_110 hl (k := 4) rfl rfl (by decide) hf (fun x4_38 ls hl hf => ?_)
                          have hl : lv_has ls 5 [(4, .int x4_38), (0, .ref (X.2.2 a0)), (1, .ref (X.2.2 80)), (2, .int x2_8), (3, .int x3_17)] := hl
                          refine lv_goto (tgt := 77) hx hb dX0_make_113 (by decide) ?_
                          exact ih_77 x4_38 M_34 _ _ _ hw (lv_sub hl [1, 2, 3, 4, 0] rfl) hf
                        · have hf := ie_e hf c_37
                          refine lv_aload_n hx hb dX0_make_105 rfl (lv_at hl 0 rfl) ?_
                          refine lv_aload_n hx hb dX0_make_106 rfl (lv_at hl 1 rfl) ?_
                          obtain ⟨M_40, h_39, hf⟩ := bd_e hf
                          refine q_callVv (M' := M_40) (i := a0) (As := [.ref (X.2.2 80)]) (rest := []) B hw (c_X0_takeMatch l X fu a0 M_34 ha0 M_40 h_39 _) cv_X0_82 (rc_0 B hw ha0) rfl hl.1 rfl rfl ⟨Nat.le_of_ble_eq_true rfl, Nat.le_of_ble_eq_true rfl⟩ (Nat.le_of_ble_eq_true rfl) ⟨Nat.le_of_ble_eq_true rfl, Nat.le_of_ble_eq_true rfl⟩ dX0_make_107 rfl (fun H locs hw => ?_)
                          refine r_iinc (v := (x4_29 + 1)) hx hb dX0_make_110 hl (k := 4) rfl rfl (by decide) hf (fun x4_41 ls hl hf => ?_)
                          have hl : lv_has ls 5 [(4, .int x4_41), (0, .ref (X.2.2 a0)), (1, .ref (X.2.2 80)), (2, .int x2_8), (3, .int x3_17)] := hl
                          refine lv_goto (tgt := 77) hx hb dX0_make_113 (by decide) ?_
                          exact ih_77 x4_41 M_40 _ _ _ hw (lv_sub hl [1, 2, 3, 4, 0] rfl) hf
                  exact hL_77 fu 0 M_22 _ _ _ hw (lv_sub hl [1, 2, 3, 4, 0] rfl) hf
                · have hf := it_e hf c_25
                  refine lv_goto (tgt := 116) hx hb dX0_make_71 (by decide) ?_
                  refine r_iinc (v := (x3_17 + 1)) hx hb dX0_make_116 hl (k := 3) rfl rfl (by decide) hf (fun x3_42 ls hl hf => ?_)
                  have hl : lv_has ls 5 [(3, .int x3_42), (0, .ref (X.2.2 a0)), (1, .ref (X.2.2 80)), (2, .int x2_8)] := hl
                  refine lv_goto (tgt := 45) hx hb dX0_make_119 (by decide) ?_
                  exact ih_45 x3_42 M_22 _ _ _ hw (lv_sub hl [1, 2, 3, 0] rfl) hf
          exact hL_45 fu 0 M_13 _ _ _ hw (lv_sub hl [1, 2, 3, 0] rfl) hf
    exact hL_26 fu 0 M_4 _ _ _ hw (lv_sub hl [1, 2, 0] rfl) hf
abbrev rm_X1_begin : Room := { frames := 1, cells := 0, slots := 0, locals := 21 }
set_option maxRecDepth 100000 in
set_option maxHeartbeats 4000000 in
theorem c_X1_begin (l : Launch) (X : XT) (fu : Nat) (p1 : Int32) (p2 : Int32) (p3 : Int32) (M : Mem)  (rs : Mem) (hf : f_X1_begin fu p1 p2 p3 M = some rs) (sz : Nat) : Met l yX1_begin (wbig yX1_begin cX1_begin 4 none) rm_X1_begin (va_Pc [.ref (X.2.2 120), .int p1, .int p2, .int p3] (PW LC X M sz)) (QV LC X rs sz) 0 0 (AX LC X sz) := by
  refine met_go (L := LC) (M := M) (by decide +kernel) (Nat.le_of_ble_eq_true rfl) ?_
  intro p e s m args below meth c hsz B hr hlk hw ls hl
  subst hsz
  have hx := B.hx
  have hb := B.hb
  have hl : lv_has ls 4 [(0, .ref (X.2.2 120)), (1, .int p1), (2, .int p2), (3, .int p3)] := hl
  generalize hQ : MQ below _ args s 0 0 (AX LC X s.heap.size) = Q
  unfold f_X1_begin at hf
  refine lv_aload_n hx hb dX1_begin_0 rfl (lv_at hl 0 rfl) ?_
  refine lv_iload_n hx hb dX1_begin_1 rfl (lv_at hl 1 rfl) ?_
  refine pt_X1_35 B hw (i := 120) rfl dX1_begin_2 hf (fun M_1 H locs hw hf => ?_)
  refine lv_aload_n hx hb dX1_begin_5 rfl (lv_at hl 0 rfl) ?_
  refine lv_iload_n hx hb dX1_begin_6 rfl (lv_at hl 2 rfl) ?_
  refine pt_X1_39 B hw (i := 120) rfl dX1_begin_7 hf (fun M_2 H locs hw hf => ?_)
  refine lv_aload_n hx hb dX1_begin_10 rfl (lv_at hl 0 rfl) ?_
  refine lv_iconst (v := 0) hx hb dX1_begin_11 (by decide) ?_
  refine pt_X1_42 B hw (i := 120) rfl dX1_begin_12 hf (fun M_3 H locs hw hf => ?_)
  refine lv_aload_n hx hb dX1_begin_15 rfl (lv_at hl 0 rfl) ?_
  refine lv_iload_n hx hb dX1_begin_16 rfl (lv_at hl 3 rfl) ?_
  refine pt_X1_45 B hw (i := 120) rfl dX1_begin_17 hf (fun M_4 H locs hw hf => ?_)
  refine lv_aload_n hx hb dX1_begin_20 rfl (lv_at hl 0 rfl) ?_
  refine gt_X1_31 B hw (i := 120) rfl dX1_begin_21 ?_
  obtain ⟨M_6, h_5, hf⟩ := bd_e hf
  refine q_callVv (M' := M_6) (i := 90) (As := []) (rest := []) B hw (c_X0_begin l X fu 90 M_4 rfl M_6 h_5 _) cv_X1_48 (rc_0 B hw rfl) rfl hl.1 rfl rfl ⟨Nat.le_of_ble_eq_true rfl, Nat.le_of_ble_eq_true rfl⟩ (Nat.le_of_ble_eq_true rfl) ⟨Nat.le_of_ble_eq_true rfl, Nat.le_of_ble_eq_true rfl⟩ dX1_begin_24 rfl (fun H locs hw => ?_)
  cases hf
  subst hQ
  exact q_vret B hr hlk hw rfl dX1_begin_27
abbrev rm_X1_end : Room := { frames := 5, cells := 0, slots := 0, locals := 114 }
set_option maxRecDepth 100000 in
set_option maxHeartbeats 4000000 in
theorem c_X1_end (l : Launch) (X : XT) (fu : Nat) (M : Mem)  (rs : Mem) (hf : f_X1_end fu M = some rs) (sz : Nat) : Met l yX1_end (wbig yX1_end cX1_end 1 none) rm_X1_end (va_Pc [.ref (X.2.2 120)] (PW LC X M sz)) (QV LC X rs sz) 0 0 (AX LC X sz) := by
  refine met_go (L := LC) (M := M) (by decide +kernel) (Nat.le_of_ble_eq_true rfl) ?_
  intro p e s m args below meth c hsz B hr hlk hw ls hl
  subst hsz
  have hx := B.hx
  have hb := B.hb
  have hl : lv_has ls 1 [(0, .ref (X.2.2 120))] := hl
  generalize hQ : MQ below _ args s 0 0 (AX LC X s.heap.size) = Q
  unfold f_X1_end at hf
  refine lv_aload_n hx hb dX1_end_0 rfl (lv_at hl 0 rfl) ?_
  refine gt_X1_31 B hw (i := 120) rfl dX1_end_1 ?_
  refine lv_aload_n hx hb dX1_end_4 rfl (lv_at hl 0 rfl) ?_
  refine gt_X1_27 B hw (i := 120) rfl dX1_end_5 ?_
  obtain ⟨M_2, h_1, hf⟩ := bd_e hf
  refine q_callVv (M' := M_2) (i := 90) (As := [.ref (X.2.2 80)]) (rest := []) B hw (c_X0_make l X fu 90 M rfl M_2 h_1 _) cv_X1_53 (rc_0 B hw rfl) rfl hl.1 rfl rfl ⟨Nat.le_of_ble_eq_true rfl, Nat.le_of_ble_eq_true rfl⟩ (Nat.le_of_ble_eq_true rfl) ⟨Nat.le_of_ble_eq_true rfl, Nat.le_of_ble_eq_true rfl⟩ dX1_end_8 rfl (fun H locs hw => ?_)
  refine lv_aload_n hx hb dX1_end_11 rfl (lv_at hl 0 rfl) ?_
  refine gt_X1_31 B hw (i := 120) rfl dX1_end_12 ?_
  refine lv_aload_n hx hb dX1_end_15 rfl (lv_at hl 0 rfl) ?_
  refine gt_X1_31 B hw (i := 120) rfl dX1_end_16 ?_
  refine gt_X1_57 B hw (i := 90) rfl dX1_end_19 ?_
  refine nmv_e hf (fun kk => ∀ (H : Heap) (locs : List Loc), HW LC X M_2 s H locs → W p l e rm_X1_end s m args below meth c H locs 0 0 Q (F0 m 44 ls [.int kk, .ref (X.2.2 90)])) (fun J => ?_) (fun v_5 hf H locs hw => ?_)
  · refine lv_if_ne (tgt := 43) hx hb dX1_end_22 (by decide) (fun c_3 => ?_) (fun c_3 => ?_)
    · rw [if_neg c_3] at J
      refine lv_iconst (v := (-1)) hx hb dX1_end_43 (by decide) ?_
      exact J _ _ hw
    · rw [if_pos c_3] at J
      refine lv_aload_n hx hb dX1_end_25 rfl (lv_at hl 0 rfl) ?_
      refine gt_X1_42 B hw (i := 120) rfl dX1_end_26 ?_
      refine lv_aload_n hx hb dX1_end_29 rfl (lv_at hl 0 rfl) ?_
      refine gt_X1_45 B hw (i := 120) rfl dX1_end_30 ?_
      refine lv_icmp_gt (tgt := 43) hx hb dX1_end_33 (by decide) (fun c_4 => ?_) (fun c_4 => ?_)
      · rw [if_pos c_4] at J
        refine lv_iconst (v := (-1)) hx hb dX1_end_43 (by decide) ?_
        exact J _ _ hw
      · rw [if_neg c_4] at J
        refine lv_aload_n hx hb dX1_end_36 rfl (lv_at hl 0 rfl) ?_
        refine gt_X1_45 B hw (i := 120) rfl dX1_end_37 ?_
        refine lv_goto (tgt := 44) hx hb dX1_end_40 (by decide) ?_
        exact J _ _ hw
  · refine pt_X1_60 B hw (i := 90) rfl dX1_end_44 hf (fun M_6 H locs hw hf => ?_)
    cases hf
    subst hQ
    exact q_vret B hr hlk hw rfl dX1_end_47
