abbrev rm_X1_isTaken : Room := { frames := 0, cells := 0, slots := 0, locals := 0 }
set_option maxRecDepth 100000 in
set_option maxHeartbeats 4000000 in
theorem c_X1_isTaken (l : Launch) (X : XT) (fu : Nat) (p1 : Int32) (M : Mem)  (rs : Int32) (hf : f_X1_isTaken fu p1 M = some rs) (sz : Nat) : Met l yX1_isTaken (wbig yX1_isTaken cX1_isTaken 3 (some .boolean)) rm_X1_isTaken (va_Pc [.ref (X.2.2 120), .int p1] (PW LC X M sz)) (QI LC X M rs sz) 0 0 (AX LC X sz) := by
  refine met_go (L := LC) (M := M) (by decide +kernel) (Nat.le_of_ble_eq_true rfl) ?_
  intro p e s m args below meth c hsz B hr hlk hw ls hl
  subst hsz
  have hx := B.hx
  have hb := B.hb
  have hl : lv_has ls 3 [(0, .ref (X.2.2 120)), (1, .int p1)] := hl
  generalize hQ : MQ below _ args s 0 0 (AX LC X s.heap.size) = Q
  unfold f_X1_isTaken at hf
  refine lv_iconst (v := 0) hx hb dX1_isTaken_0 (by decide) ?_
  refine lv_istore_n (lv' := [(2, .int 0), (0, .ref (X.2.2 120)), (1, .int p1)]) hx hb dX1_isTaken_1 rfl hl (by decide) rfl (fun ls hl => ?_)
  have hL_2 : ∀ (n_2 : Nat) (x2_1 : Int32) (H : Heap) (locs : List Loc) (ls : Array Slot), HW LC X M s H locs → lv_has ls 3 [(0, .ref (X.2.2 120)), (1, .int p1), (2, .int x2_1)] → f_X1_isTaken_L2 fu p1 M n_2 x2_1 = some rs → W p l e rm_X1_isTaken s m args below meth c H locs 0 0 Q (F0 m 2 ls []) := by
    intro n_2
    induction n_2 with
    | zero => intro x2_1 H locs ls hw hl hf; exact no_none hf
    | succ n_2 ih_2 =>
      intro x2_1 H locs ls hw hl hf
      rw [f_X1_isTaken_L2] at hf
      refine lv_iload_n hx hb dX1_isTaken_2 rfl (lv_at hl 2 rfl) ?_
      refine lv_aload_n hx hb dX1_isTaken_3 rfl (lv_at hl 0 rfl) ?_
      refine gt_X1_31 B hw (i := 120) rfl dX1_isTaken_4 ?_
      refine gt_X1_154 B hw (i := 90) rfl dX1_isTaken_7 ?_
      refine lv_icmp_ge (tgt := 34) hx hb dX1_isTaken_10 (by decide) (fun c_2 => ?_) (fun c_2 => ?_)
      · have hf := it_e hf c_2
        refine lv_iconst (v := 0) hx hb dX1_isTaken_34 (by decide) ?_
        cases hf
        subst hQ
        exact q_zret B hr hlk rfl hw rfl rfl dX1_isTaken_35
      · have hf := ie_e hf c_2
        refine lv_aload_n hx hb dX1_isTaken_13 rfl (lv_at hl 0 rfl) ?_
        refine gt_X1_31 B hw (i := 120) rfl dX1_isTaken_14 ?_
        refine gt_X1_151 B hw (i := 90) rfl dX1_isTaken_17 ?_
        refine lv_iload_n hx hb dX1_isTaken_20 rfl (lv_at hl 2 rfl) ?_
        obtain ⟨g_3, hf⟩ := grd_e hf
        refine c_iald B hw (i := 93) rfl g_3 dX1_isTaken_21 ?_
        refine lv_iload_n hx hb dX1_isTaken_22 rfl (lv_at hl 1 rfl) ?_
        refine lv_icmp_ne (tgt := 28) hx hb dX1_isTaken_23 (by decide) (fun c_4 => ?_) (fun c_4 => ?_)
        · have hf := ie_e hf c_4
          refine r_iinc (v := (x2_1 + 1)) hx hb dX1_isTaken_28 hl (k := 2) rfl rfl (by decide) hf (fun x2_5 ls hl hf => ?_)
          have hl : lv_has ls 3 [(2, .int x2_5), (0, .ref (X.2.2 120)), (1, .int p1)] := hl
          refine lv_goto (tgt := 2) hx hb dX1_isTaken_31 (by decide) ?_
          exact ih_2 x2_5 _ _ _ hw (lv_sub hl [1, 2, 0] rfl) hf
        · have hf := it_e hf c_4
          refine lv_iconst (v := 1) hx hb dX1_isTaken_26 (by decide) ?_
          cases hf
          subst hQ
          exact q_zret B hr hlk rfl hw rfl rfl dX1_isTaken_27
  exact hL_2 fu 0 _ _ _ hw (lv_sub hl [1, 2, 0] rfl) hf
abbrev rm_X1_endOf : Room := { frames := 1, cells := 0, slots := 0, locals := 22 }
set_option maxRecDepth 100000 in
set_option maxHeartbeats 4000000 in
theorem c_X1_endOf (l : Launch) (X : XT) (fu : Nat) (p1 : Int32) (M : Mem)  (rs : Int32) (hf : f_X1_endOf fu p1 M = some rs) (sz : Nat) : Met l yX1_endOf (wbig yX1_endOf cX1_endOf 3 (some .int)) rm_X1_endOf (va_Pc [.ref (X.2.2 120), .int p1] (PW LC X M sz)) (QI LC X M rs sz) 0 0 (AX LC X sz) := by
  refine met_go (L := LC) (M := M) (by decide +kernel) (Nat.le_of_ble_eq_true rfl) ?_
  intro p e s m args below meth c hsz B hr hlk hw ls hl
  subst hsz
  have hx := B.hx
  have hb := B.hb
  have hl : lv_has ls 3 [(0, .ref (X.2.2 120)), (1, .int p1)] := hl
  generalize hQ : MQ below _ args s 0 0 (AX LC X s.heap.size) = Q
  unfold f_X1_endOf at hf
  refine lv_iconst (v := 0) hx hb dX1_endOf_0 (by decide) ?_
  refine lv_istore_n (lv' := [(2, .int 0), (0, .ref (X.2.2 120)), (1, .int p1)]) hx hb dX1_endOf_1 rfl hl (by decide) rfl (fun ls hl => ?_)
  have hL_2 : ∀ (n_2 : Nat) (x2_1 : Int32) (H : Heap) (locs : List Loc) (ls : Array Slot), HW LC X M s H locs → lv_has ls 3 [(0, .ref (X.2.2 120)), (1, .int p1), (2, .int x2_1)] → f_X1_endOf_L2 fu p1 M n_2 x2_1 = some rs → W p l e rm_X1_endOf s m args below meth c H locs 0 0 Q (F0 m 2 ls []) := by
    intro n_2
    induction n_2 with
    | zero => intro x2_1 H locs ls hw hl hf; exact no_none hf
    | succ n_2 ih_2 =>
      intro x2_1 H locs ls hw hl hf
      rw [f_X1_endOf_L2] at hf
      refine lv_iload_n hx hb dX1_endOf_2 rfl (lv_at hl 2 rfl) ?_
      refine lv_iconst (v := 2) hx hb dX1_endOf_3 (by decide) ?_
      refine lv_aload_n hx hb dX1_endOf_4 rfl (lv_at hl 0 rfl) ?_
      refine gt_X1_27 B hw (i := 120) rfl dX1_endOf_5 ?_
      refine gt_X1_169 B hw (i := 80) rfl dX1_endOf_8 ?_
      refine lv_imul hx hb dX1_endOf_11 ?_
      refine lv_icmp_ge (tgt := 54) hx hb dX1_endOf_12 (by decide) (fun c_2 => ?_) (fun c_2 => ?_)
      · have hf := it_e hf c_2
        refine lv_iconst (v := (-1)) hx hb dX1_endOf_54 (by decide) ?_
        cases hf
        subst hQ
        exact q_iret B hr hlk hw rfl rfl dX1_endOf_55
      · have hf := ie_e hf c_2
        refine lv_aload_n hx hb dX1_endOf_15 rfl (lv_at hl 0 rfl) ?_
        refine gt_X1_27 B hw (i := 120) rfl dX1_endOf_16 ?_
        refine gt_X1_172 B hw (i := 80) rfl dX1_endOf_19 ?_
        refine lv_iload_n hx hb dX1_endOf_22 rfl (lv_at hl 2 rfl) ?_
        obtain ⟨g_3, hf⟩ := grd_e hf
        refine c_iald B hw (i := 82) rfl g_3 dX1_endOf_23 ?_
        refine lv_iload_n hx hb dX1_endOf_24 rfl (lv_at hl 1 rfl) ?_
        refine lv_icmp_ne (tgt := 48) hx hb dX1_endOf_25 (by decide) (fun c_4 => ?_) (fun c_4 => ?_)
        · have hf := ie_e hf c_4
          refine r_iinc (v := (x2_1 + 1)) hx hb dX1_endOf_48 hl (k := 2) rfl rfl (by decide) hf (fun x2_5 ls hl hf => ?_)
          have hl : lv_has ls 3 [(2, .int x2_5), (0, .ref (X.2.2 120)), (1, .int p1)] := hl
          refine lv_goto (tgt := 2) hx hb dX1_endOf_51 (by decide) ?_
          exact ih_2 x2_5 _ _ _ hw (lv_sub hl [1, 2, 0] rfl) hf
        · have hf := it_e hf c_4
          refine lv_aload_n hx hb dX1_endOf_28 rfl (lv_at hl 0 rfl) ?_
          refine lv_aload_n hx hb dX1_endOf_29 rfl (lv_at hl 0 rfl) ?_
          refine gt_X1_27 B hw (i := 120) rfl dX1_endOf_30 ?_
          refine gt_X1_172 B hw (i := 80) rfl dX1_endOf_33 ?_
          refine lv_iload_n hx hb dX1_endOf_36 rfl (lv_at hl 2 rfl) ?_
          refine lv_iconst (v := 1) hx hb dX1_endOf_37 (by decide) ?_
          refine lv_ixor hx hb dX1_endOf_38 ?_
          obtain ⟨g_6, hf⟩ := grd_e hf
          refine c_iald B hw (i := 82) rfl g_6 dX1_endOf_39 ?_
          obtain ⟨r_8, h_7, hf⟩ := bd_e hf
          refine q_callVi (M' := M) (i := 120) (As := [.int (M 82 (x2_1 ^^^ 1).toNatClampNeg)]) (rest := []) B hw (c_X1_isTaken l X fu (M 82 (x2_1 ^^^ 1).toNatClampNeg) M r_8 h_7 _) cv_X1_69 (rc_1 B hw rfl) rfl hl.1 rfl rfl ⟨Nat.le_of_ble_eq_true rfl, Nat.le_of_ble_eq_true rfl⟩ (Nat.le_of_ble_eq_true rfl) ⟨Nat.le_of_ble_eq_true rfl, Nat.le_of_ble_eq_true rfl⟩ dX1_endOf_40 rfl (fun H locs hw => ?_)
          refine lv_if_eq (tgt := 48) hx hb dX1_endOf_43 (by decide) (fun c_9 => ?_) (fun c_9 => ?_)
          · have hf := it_e hf c_9
            refine r_iinc (v := (x2_1 + 1)) hx hb dX1_endOf_48 hl (k := 2) rfl rfl (by decide) hf (fun x2_10 ls hl hf => ?_)
            have hl : lv_has ls 3 [(2, .int x2_10), (0, .ref (X.2.2 120)), (1, .int p1)] := hl
            refine lv_goto (tgt := 2) hx hb dX1_endOf_51 (by decide) ?_
            exact ih_2 x2_10 _ _ _ hw (lv_sub hl [1, 2, 0] rfl) hf
          · have hf := ie_e hf c_9
            refine lv_iload_n hx hb dX1_endOf_46 rfl (lv_at hl 2 rfl) ?_
            cases hf
            subst hQ
            exact q_iret B hr hlk hw rfl rfl dX1_endOf_47
  exact hL_2 fu 0 _ _ _ hw (lv_sub hl [1, 2, 0] rfl) hf
abbrev rm_X4_isSent : Room := { frames := 1, cells := 0, slots := 0, locals := 22 }
set_option maxRecDepth 100000 in
set_option maxHeartbeats 4000000 in
theorem c_X4_isSent (l : Launch) (X : XT) (fu : Nat) (p1 : Int32) (p2 : Int32) (M : Mem)  (rs : Int32) (hf : f_X4_isSent fu p1 p2 M = some rs) (sz : Nat) : Met l yX4_isSent (wbig yX4_isSent cX4_isSent 3 (some .boolean)) rm_X4_isSent (va_Pc [.ref (X.2.2 80), .int p1, .int p2] (PW LC X M sz)) (QI LC X M rs sz) 0 0 (AX LC X sz) := by
  refine met_go (L := LC) (M := M) (by decide +kernel) (Nat.le_of_ble_eq_true rfl) ?_
  intro p e s m args below meth c hsz B hr hlk hw ls hl
  subst hsz
  have hx := B.hx
  have hb := B.hb
  have hl : lv_has ls 3 [(0, .ref (X.2.2 80)), (1, .int p1), (2, .int p2)] := hl
  generalize hQ : MQ below _ args s 0 0 (AX LC X s.heap.size) = Q
  unfold f_X4_isSent at hf
  refine lv_aload_n hx hb dX4_isSent_0 rfl (lv_at hl 0 rfl) ?_
  refine gt_X4_21 B hw (i := 80) rfl dX4_isSent_1 ?_
  refine lv_iload_n hx hb dX4_isSent_4 rfl (lv_at hl 1 rfl) ?_
  obtain ⟨g_1, hf⟩ := grd_e hf
  refine c_iald B hw (i := 84) rfl g_1 dX4_isSent_5 ?_
  refine lv_iload_n hx hb dX4_isSent_6 rfl (lv_at hl 2 rfl) ?_
  refine lv_icmp_ne (tgt := 41) hx hb dX4_isSent_7 (by decide) (fun c_2 => ?_) (fun c_2 => ?_)
  · have hf := ie_e hf c_2
    refine lv_iconst (v := 0) hx hb dX4_isSent_41 (by decide) ?_
    cases hf
    subst hQ
    exact q_zret B hr hlk rfl hw rfl rfl dX4_isSent_42
  · have hf := it_e hf c_2
    refine lv_aload_n hx hb dX4_isSent_10 rfl (lv_at hl 0 rfl) ?_
    refine gt_X4_9 B hw (i := 80) rfl dX4_isSent_11 ?_
    refine lv_iload_n hx hb dX4_isSent_14 rfl (lv_at hl 2 rfl) ?_
    obtain ⟨g_3, hf⟩ := grd_e hf
    refine c_iald B hw (i := 81) rfl g_3 dX4_isSent_15 ?_
    refine q_callNi (M' := M) (As := [.int (M 81 p2.toNatClampNeg)]) (rest := []) B hw (c_X10_storeOf l X (M 81 p2.toNatClampNeg) _ rfl M _) cn_X4_46 rfl hl.1 rfl rfl ⟨Nat.le_of_ble_eq_true rfl, Nat.le_of_ble_eq_true rfl⟩ (Nat.le_of_ble_eq_true rfl) ⟨Nat.le_of_ble_eq_true rfl, Nat.le_of_ble_eq_true rfl⟩ dX4_isSent_16 rfl (fun H locs hw => ?_)
    refine lv_aload_n hx hb dX4_isSent_19 rfl (lv_at hl 0 rfl) ?_
    refine gt_X4_24 B hw (i := 80) rfl dX4_isSent_20 ?_
    refine lv_iload_n hx hb dX4_isSent_23 rfl (lv_at hl 1 rfl) ?_
    refine c_iald B hw (i := 85) rfl g_1 dX4_isSent_24 ?_
    refine lv_aload_n hx hb dX4_isSent_25 rfl (lv_at hl 0 rfl) ?_
    refine gt_X4_27 B hw (i := 80) rfl dX4_isSent_26 ?_
    refine lv_iload_n hx hb dX4_isSent_29 rfl (lv_at hl 1 rfl) ?_
    refine c_iald B hw (i := 86) rfl g_1 dX4_isSent_30 ?_
    refine q_callNi (M' := M) (As := [.int (f_X10_storeOf (M 81 p2.toNatClampNeg)), .int (M 85 p1.toNatClampNeg), .int (M 86 p1.toNatClampNeg)]) (rest := []) B hw (c_X10_canDo l X (f_X10_storeOf (M 81 p2.toNatClampNeg)) (M 85 p1.toNatClampNeg) (M 86 p1.toNatClampNeg) _ rfl M _) cn_X4_66 rfl hl.1 rfl rfl ⟨Nat.le_of_ble_eq_true rfl, Nat.le_of_ble_eq_true rfl⟩ (Nat.le_of_ble_eq_true rfl) ⟨Nat.le_of_ble_eq_true rfl, Nat.le_of_ble_eq_true rfl⟩ dX4_isSent_31 rfl (fun H locs hw => ?_)
    refine lv_if_eq (tgt := 41) hx hb dX4_isSent_34 (by decide) (fun c_4 => ?_) (fun c_4 => ?_)
    · have hf := it_e hf c_4
      refine lv_iconst (v := 0) hx hb dX4_isSent_41 (by decide) ?_
      cases hf
      subst hQ
      exact q_zret B hr hlk rfl hw rfl rfl dX4_isSent_42
    · have hf := ie_e hf c_4
      refine lv_iconst (v := 1) hx hb dX4_isSent_37 (by decide) ?_
      refine lv_goto (tgt := 42) hx hb dX4_isSent_38 (by decide) ?_
      cases hf
      subst hQ
      exact q_zret B hr hlk rfl hw rfl rfl dX4_isSent_42
abbrev rm_X4_sentOf : Room := { frames := 2, cells := 0, slots := 0, locals := 44 }
set_option maxRecDepth 100000 in
set_option maxHeartbeats 4000000 in
theorem c_X4_sentOf (l : Launch) (X : XT) (fu : Nat) (p1 : Int32) (M : Mem)  (rs : Int32) (hf : f_X4_sentOf fu p1 M = some rs) (sz : Nat) : Met l yX4_sentOf (wbig yX4_sentOf cX4_sentOf 4 (some .int)) rm_X4_sentOf (va_Pc [.ref (X.2.2 80), .int p1] (PW LC X M sz)) (QI LC X M rs sz) 0 0 (AX LC X sz) := by
  refine met_go (L := LC) (M := M) (by decide +kernel) (Nat.le_of_ble_eq_true rfl) ?_
  intro p e s m args below meth c hsz B hr hlk hw ls hl
  subst hsz
  have hx := B.hx
  have hb := B.hb
  have hl : lv_has ls 4 [(0, .ref (X.2.2 80)), (1, .int p1)] := hl
  generalize hQ : MQ below _ args s 0 0 (AX LC X s.heap.size) = Q
  unfold f_X4_sentOf at hf
  refine lv_iconst (v := 0) hx hb dX4_sentOf_0 (by decide) ?_
  refine lv_istore_n (lv' := [(2, .int 0), (0, .ref (X.2.2 80)), (1, .int p1)]) hx hb dX4_sentOf_1 rfl hl (by decide) rfl (fun ls hl => ?_)
  refine lv_iconst (v := 0) hx hb dX4_sentOf_2 (by decide) ?_
  refine lv_istore_n (lv' := [(3, .int 0), (2, .int 0), (0, .ref (X.2.2 80)), (1, .int p1)]) hx hb dX4_sentOf_3 rfl hl (by decide) rfl (fun ls hl => ?_)
  have hL_4 : ∀ (n_4 : Nat) (x2_1 : Int32) (x3_2 : Int32) (H : Heap) (locs : List Loc) (ls : Array Slot), HW LC X M s H locs → lv_has ls 4 [(0, .ref (X.2.2 80)), (1, .int p1), (2, .int x2_1), (3, .int x3_2)] → f_X4_sentOf_L4 fu p1 M n_4 x2_1 x3_2 = some rs → W p l e rm_X4_sentOf s m args below meth c H locs 0 0 Q (F0 m 4 ls []) := by
    intro n_4
    induction n_4 with
    | zero => intro x2_1 x3_2 H locs ls hw hl hf; exact no_none hf
    | succ n_4 ih_4 =>
      intro x2_1 x3_2 H locs ls hw hl hf
      rw [f_X4_sentOf_L4] at hf
      refine lv_iload_n hx hb dX4_sentOf_4 rfl (lv_at hl 3 rfl) ?_
      refine lv_aload_n hx hb dX4_sentOf_5 rfl (lv_at hl 0 rfl) ?_
      refine gt_X4_59 B hw (i := 80) rfl dX4_sentOf_6 ?_
      refine lv_icmp_ge (tgt := 30) hx hb dX4_sentOf_9 (by decide) (fun c_3 => ?_) (fun c_3 => ?_)
      · have hf := it_e hf c_3
        refine lv_iload_n hx hb dX4_sentOf_30 rfl (lv_at hl 2 rfl) ?_
        cases hf
        subst hQ
        exact q_iret B hr hlk hw rfl rfl dX4_sentOf_31
      · have hf := ie_e hf c_3
        refine lv_aload_n hx hb dX4_sentOf_12 rfl (lv_at hl 0 rfl) ?_
        refine lv_iload_n hx hb dX4_sentOf_13 rfl (lv_at hl 3 rfl) ?_
        refine lv_iload_n hx hb dX4_sentOf_14 rfl (lv_at hl 1 rfl) ?_
        obtain ⟨r_5, h_4, hf⟩ := bd_e hf
        refine q_callVi (M' := M) (i := 80) (As := [.int x3_2, .int p1]) (rest := []) B hw (c_X4_isSent l X fu x3_2 p1 M r_5 h_4 _) cv_X4_70 (rc_4 B hw rfl) rfl hl.1 rfl rfl ⟨Nat.le_of_ble_eq_true rfl, Nat.le_of_ble_eq_true rfl⟩ (Nat.le_of_ble_eq_true rfl) ⟨Nat.le_of_ble_eq_true rfl, Nat.le_of_ble_eq_true rfl⟩ dX4_sentOf_15 rfl (fun H locs hw => ?_)
        refine lv_if_eq (tgt := 24) hx hb dX4_sentOf_18 (by decide) (fun c_6 => ?_) (fun c_6 => ?_)
        · have hf := it_e hf c_6
          refine r_iinc (v := (x3_2 + 1)) hx hb dX4_sentOf_24 hl (k := 3) rfl rfl (by decide) hf (fun x3_7 ls hl hf => ?_)
          have hl : lv_has ls 4 [(3, .int x3_7), (0, .ref (X.2.2 80)), (1, .int p1), (2, .int x2_1)] := hl
          refine lv_goto (tgt := 4) hx hb dX4_sentOf_27 (by decide) ?_
          exact ih_4 x2_1 x3_7 _ _ _ hw (lv_sub hl [1, 2, 3, 0] rfl) hf
        · have hf := ie_e hf c_6
          refine r_iinc (v := (x2_1 + 1)) hx hb dX4_sentOf_21 hl (k := 2) rfl rfl (by decide) hf (fun x2_8 ls hl hf => ?_)
          have hl : lv_has ls 4 [(2, .int x2_8), (0, .ref (X.2.2 80)), (1, .int p1), (3, .int x3_2)] := hl
          refine r_iinc (v := (x3_2 + 1)) hx hb dX4_sentOf_24 hl (k := 3) rfl rfl (by decide) hf (fun x3_9 ls hl hf => ?_)
          have hl : lv_has ls 4 [(3, .int x3_9), (2, .int x2_8), (0, .ref (X.2.2 80)), (1, .int p1)] := hl
          refine lv_goto (tgt := 4) hx hb dX4_sentOf_27 (by decide) ?_
          exact ih_4 x2_8 x3_9 _ _ _ hw (lv_sub hl [2, 3, 1, 0] rfl) hf
  exact hL_4 fu 0 0 _ _ _ hw (lv_sub hl [2, 3, 1, 0] rfl) hf
abbrev rm_X1_guessOf : Room := { frames := 3, cells := 0, slots := 0, locals := 67 }
set_option maxRecDepth 100000 in
set_option maxHeartbeats 4000000 in
theorem c_X1_guessOf (l : Launch) (X : XT) (fu : Nat) (p1 : Int32) (M : Mem)  (rs : Int32) (hf : f_X1_guessOf fu p1 M = some rs) (sz : Nat) : Met l yX1_guessOf (wbig yX1_guessOf cX1_guessOf 2 (some .int)) rm_X1_guessOf (va_Pc [.ref (X.2.2 120), .int p1] (PW LC X M sz)) (QI LC X M rs sz) 0 0 (AX LC X sz) := by
  refine met_go (L := LC) (M := M) (by decide +kernel) (Nat.le_of_ble_eq_true rfl) ?_
  intro p e s m args below meth c hsz B hr hlk hw ls hl
  subst hsz
  have hx := B.hx
  have hb := B.hb
  have hl : lv_has ls 2 [(0, .ref (X.2.2 120)), (1, .int p1)] := hl
  generalize hQ : MQ below _ args s 0 0 (AX LC X s.heap.size) = Q
  unfold f_X1_guessOf at hf
  refine lv_iconst (v := 1) hx hb dX1_guessOf_0 (by decide) ?_
  refine lv_aload_n hx hb dX1_guessOf_1 rfl (lv_at hl 0 rfl) ?_
  refine gt_X1_19 B hw (i := 120) rfl dX1_guessOf_2 ?_
  refine gt_X1_175 B hw (i := 57) rfl dX1_guessOf_5 ?_
  refine lv_aload_n hx hb dX1_guessOf_8 rfl (lv_at hl 0 rfl) ?_
  refine gt_X1_27 B hw (i := 120) rfl dX1_guessOf_9 ?_
  refine gt_X1_80 B hw (i := 80) rfl dX1_guessOf_12 ?_
  refine lv_iload_n hx hb dX1_guessOf_15 rfl (lv_at hl 1 rfl) ?_
  obtain ⟨g_1, hf⟩ := grd_e hf
  refine c_iald B hw (i := 81) rfl g_1 dX1_guessOf_16 ?_
  obtain ⟨g_2, hf⟩ := grd_e hf
  refine c_iald B hw (i := 59) rfl g_2 dX1_guessOf_17 ?_
  refine lv_aload_n hx hb dX1_guessOf_18 rfl (lv_at hl 0 rfl) ?_
  refine gt_X1_27 B hw (i := 120) rfl dX1_guessOf_19 ?_
  refine lv_iload_n hx hb dX1_guessOf_22 rfl (lv_at hl 1 rfl) ?_
  obtain ⟨r_4, h_3, hf⟩ := bd_e hf
  refine q_callVi (M' := M) (i := 80) (As := [.int p1]) (rest := [.int (M 59 (M 81 p1.toNatClampNeg).toNatClampNeg), .int 1]) B hw (c_X4_sentOf l X fu p1 M r_4 h_3 _) cv_X1_178 (rc_4 B hw rfl) rfl hl.1 rfl rfl ⟨Nat.le_of_ble_eq_true rfl, Nat.le_of_ble_eq_true rfl⟩ (Nat.le_of_ble_eq_true rfl) ⟨Nat.le_of_ble_eq_true rfl, Nat.le_of_ble_eq_true rfl⟩ dX1_guessOf_23 rfl (fun H locs hw => ?_)
  refine lv_ishr hx hb dX1_guessOf_26 ?_
  refine q_max B hl.1 (big_at 950 (by decide +kernel) (by decide +kernel)) (big_at 681 (by decide +kernel) (by decide +kernel)) (big_at 18 (by decide +kernel) (by decide +kernel)) (big_at 682 (by decide +kernel) (by decide +kernel)) (Nat.le_of_ble_eq_true rfl) (Nat.le_of_ble_eq_true rfl) (Nat.zero_le _) (Nat.zero_le _) dX1_guessOf_27 ?_
  cases hf
  subst hQ
  exact q_iret B hr hlk hw rfl rfl dX1_guessOf_30
abbrev rm_X1_nextSeat : Room := { frames := 4, cells := 0, slots := 0, locals := 88 }
set_option maxRecDepth 100000 in
set_option maxHeartbeats 4000000 in
theorem c_X1_nextSeat (l : Launch) (X : XT) (fu : Nat) (M : Mem)  (rs : Int32) (hf : f_X1_nextSeat fu M = some rs) (sz : Nat) : Met l yX1_nextSeat (wbig yX1_nextSeat cX1_nextSeat 7 (some .int)) rm_X1_nextSeat (va_Pc [.ref (X.2.2 120)] (PW LC X M sz)) (QI LC X M rs sz) 0 0 (AX LC X sz) := by
  refine met_go (L := LC) (M := M) (by decide +kernel) (Nat.le_of_ble_eq_true rfl) ?_
  intro p e s m args below meth c hsz B hr hlk hw ls hl
  subst hsz
  have hx := B.hx
  have hb := B.hb
  have hl : lv_has ls 7 [(0, .ref (X.2.2 120))] := hl
  generalize hQ : MQ below _ args s 0 0 (AX LC X s.heap.size) = Q
  unfold f_X1_nextSeat at hf
  refine lv_iconst (v := 0) hx hb dX1_nextSeat_0 (by decide) ?_
  refine lv_istore_n (lv' := [(1, .int 0), (0, .ref (X.2.2 120))]) hx hb dX1_nextSeat_1 rfl hl (by decide) rfl (fun ls hl => ?_)
  refine lv_ldc (own := RX1) (v := 2147483647) hx hb B.hown (B.hts _ (big_at 926 (by decide +kernel) (by decide +kernel))) dX1_nextSeat_2 ?_
  refine lv_istore_n (lv' := [(2, .int 2147483647), (1, .int 0), (0, .ref (X.2.2 120))]) hx hb dX1_nextSeat_4 rfl hl (by decide) rfl (fun ls hl => ?_)
  refine lv_iconst (v := 0) hx hb dX1_nextSeat_5 (by decide) ?_
  refine lv_istore_n (lv' := [(3, .int 0), (2, .int 2147483647), (1, .int 0), (0, .ref (X.2.2 120))]) hx hb dX1_nextSeat_6 rfl hl (by decide) rfl (fun ls hl => ?_)
  refine lv_iconst (v := 0) hx hb dX1_nextSeat_7 (by decide) ?_
  refine lv_istore (lv' := [(4, .int 0), (3, .int 0), (2, .int 2147483647), (1, .int 0), (0, .ref (X.2.2 120))]) hx hb dX1_nextSeat_8 hl (by decide) rfl (fun ls hl => ?_)
  have hL_10 : ∀ (n_10 : Nat) (x1_1 : Int32) (x2_2 : Int32) (x3_3 : Int32) (x4_4 : Int32) (H : Heap) (locs : List Loc) (ls : Array Slot), HW LC X M s H locs → lv_has ls 7 [(0, .ref (X.2.2 120)), (1, .int x1_1), (2, .int x2_2), (3, .int x3_3), (4, .int x4_4)] → f_X1_nextSeat_L10 fu M n_10 x1_1 x2_2 x3_3 x4_4 = some rs → W p l e rm_X1_nextSeat s m args below meth c H locs 0 0 Q (F0 m 10 ls []) := by
    intro n_10
    induction n_10 with
    | zero => intro x1_1 x2_2 x3_3 x4_4 H locs ls hw hl hf; exact no_none hf
    | succ n_10 ih_10 =>
      intro x1_1 x2_2 x3_3 x4_4 H locs ls hw hl hf
      rw [f_X1_nextSeat_L10] at hf
      refine lv_iload hx hb dX1_nextSeat_10 (lv_at hl 4 rfl) ?_
      refine lv_aload_n hx hb dX1_nextSeat_12 rfl (lv_at hl 0 rfl) ?_
      refine gt_X1_27 B hw (i := 120) rfl dX1_nextSeat_13 ?_
      refine gt_X1_64 B hw (i := 80) rfl dX1_nextSeat_16 ?_
      refine lv_icmp_ge (tgt := 95) hx hb dX1_nextSeat_19 (by decide) (fun c_5 => ?_) (fun c_5 => ?_)
      · have hf := it_e hf c_5
        refine lv_iload_n hx hb dX1_nextSeat_95 rfl (lv_at hl 1 rfl) ?_
        cases hf
        subst hQ
        exact q_iret B hr hlk hw rfl rfl dX1_nextSeat_96
      · have hf := ie_e hf c_5
        refine lv_aload_n hx hb dX1_nextSeat_22 rfl (lv_at hl 0 rfl) ?_
        refine lv_iload hx hb dX1_nextSeat_23 (lv_at hl 4 rfl) ?_
        obtain ⟨r_7, h_6, hf⟩ := bd_e hf
        refine q_callVi (M' := M) (i := 120) (As := [.int x4_4]) (rest := []) B hw (c_X1_isTaken l X fu x4_4 M r_7 h_6 _) cv_X1_69 (rc_1 B hw rfl) rfl hl.1 rfl rfl ⟨Nat.le_of_ble_eq_true rfl, Nat.le_of_ble_eq_true rfl⟩ (Nat.le_of_ble_eq_true rfl) ⟨Nat.le_of_ble_eq_true rfl, Nat.le_of_ble_eq_true rfl⟩ dX1_nextSeat_25 rfl (fun H locs hw => ?_)
        refine lv_if_eq (tgt := 34) hx hb dX1_nextSeat_28 (by decide) (fun c_8 => ?_) (fun c_8 => ?_)
        · have hf := it_e hf c_8
          refine lv_aload_n hx hb dX1_nextSeat_34 rfl (lv_at hl 0 rfl) ?_
          refine lv_iload hx hb dX1_nextSeat_35 (lv_at hl 4 rfl) ?_
          obtain ⟨r_10, h_9, hf⟩ := bd_e hf
          refine q_callVi (M' := M) (i := 120) (As := [.int x4_4]) (rest := []) B hw (c_X1_endOf l X fu x4_4 M r_10 h_9 _) cv_X1_73 (rc_1 B hw rfl) rfl hl.1 rfl rfl ⟨Nat.le_of_ble_eq_true rfl, Nat.le_of_ble_eq_true rfl⟩ (Nat.le_of_ble_eq_true rfl) ⟨Nat.le_of_ble_eq_true rfl, Nat.le_of_ble_eq_true rfl⟩ dX1_nextSeat_37 rfl (fun H locs hw => ?_)
          refine lv_iconst (v := (-1)) hx hb dX1_nextSeat_40 (by decide) ?_
          refine nmv_e hf (fun kk => ∀ (H : Heap) (locs : List Loc), HW LC X M s H locs → W p l e rm_X1_nextSeat s m args below meth c H locs 0 0 Q (F0 m 49 ls [.int kk])) (fun J => ?_) (fun v_12 hf H locs hw => ?_)
          · refine lv_icmp_eq (tgt := 48) hx hb dX1_nextSeat_41 (by decide) (fun c_11 => ?_) (fun c_11 => ?_)
            · rw [if_pos c_11] at J
              refine lv_iconst (v := 0) hx hb dX1_nextSeat_48 (by decide) ?_
              exact J _ _ hw
            · rw [if_neg c_11] at J
              refine lv_iconst (v := 1) hx hb dX1_nextSeat_44 (by decide) ?_
              refine lv_goto (tgt := 49) hx hb dX1_nextSeat_45 (by decide) ?_
              exact J _ _ hw
          · refine lv_istore (lv' := [(5, .int v_12), (0, .ref (X.2.2 120)), (1, .int x1_1), (2, .int x2_2), (3, .int x3_3), (4, .int x4_4)]) hx hb dX1_nextSeat_49 hl (by decide) rfl (fun ls hl => ?_)
            refine lv_aload_n hx hb dX1_nextSeat_51 rfl (lv_at hl 1 rfl) ?_
            refine lv_iload hx hb dX1_nextSeat_52 (lv_at hl 5 rfl) ?_
            obtain ⟨r_14, h_13, hf⟩ := bd_e hf
            refine q_callVi (M' := M) (i := 120) (As := [.int x4_4]) (rest := []) B hw (c_X1_guessOf l X fu x4_4 M r_14 h_13 _) cv_X1_77 (rc_1 B hw rfl) rfl hl.1 rfl rfl ⟨Nat.le_of_ble_eq_true rfl, Nat.le_of_ble_eq_true rfl⟩ (Nat.le_of_ble_eq_true rfl) ⟨Nat.le_of_ble_eq_true rfl, Nat.le_of_ble_eq_true rfl⟩ dX1_nextSeat_54 rfl (fun H locs hw => ?_)
            refine lv_istore (lv' := [(6, .int r_14), (5, .int v_12), (0, .ref (X.2.2 120)), (1, .int x1_1), (2, .int x2_2), (3, .int x3_3), (4, .int x4_4)]) hx hb dX1_nextSeat_57 hl (by decide) rfl (fun ls hl => ?_)
            refine lv_iload hx hb dX1_nextSeat_59 (lv_at hl 1 rfl) ?_
            refine jn_e hf (fun kk => ∀ (_ : Unit) (H : Heap) (locs : List Loc) (ls : Array Slot), HW LC X M s H locs → lv_has ls 7 [(0, .ref (X.2.2 120)), (4, .int x4_4), (5, .int v_12), (6, .int r_14)] → kk () = some rs → W p l e rm_X1_nextSeat s m args below meth c H locs 0 0 Q (F0 m 80 ls [])) ?_ (fun k80_15 J80_15 hf => ?_)
            · intro _ H locs ls hw hl hf
              refine lv_iload hx hb dX1_nextSeat_80 (lv_at hl 1 rfl) ?_
              refine lv_istore_n (lv' := [(1, .int x4_4), (0, .ref (X.2.2 120)), (4, .int x4_4), (5, .int v_12), (6, .int r_14)]) hx hb dX1_nextSeat_82 rfl hl (by decide) rfl (fun ls hl => ?_)
              refine lv_iload hx hb dX1_nextSeat_83 (lv_at hl 4 rfl) ?_
              refine lv_istore_n (lv' := [(2, .int r_14), (1, .int x4_4), (0, .ref (X.2.2 120)), (4, .int x4_4), (5, .int v_12), (6, .int r_14)]) hx hb dX1_nextSeat_85 rfl hl (by decide) rfl (fun ls hl => ?_)
              refine lv_iload hx hb dX1_nextSeat_86 (lv_at hl 4 rfl) ?_
              refine lv_istore_n (lv' := [(3, .int v_12), (2, .int r_14), (1, .int x4_4), (0, .ref (X.2.2 120)), (4, .int x4_4), (5, .int v_12), (6, .int r_14)]) hx hb dX1_nextSeat_88 rfl hl (by decide) rfl (fun ls hl => ?_)
              refine r_iinc (v := (x4_4 + 1)) hx hb dX1_nextSeat_89 hl (k := 4) rfl rfl (by decide) hf (fun x4_16 ls hl hf => ?_)
              have hl : lv_has ls 7 [(4, .int x4_16), (3, .int v_12), (2, .int r_14), (1, .int x4_4), (0, .ref (X.2.2 120)), (5, .int v_12), (6, .int r_14)] := hl
              refine lv_goto (tgt := 10) hx hb dX1_nextSeat_92 (by decide) ?_
              exact ih_10 x4_4 r_14 v_12 x4_16 _ _ _ hw (lv_sub hl [4, 3, 2, 1, 0] rfl) hf
            refine jn_e hf (fun kk => ∀ (_ : Unit) (H : Heap) (locs : List Loc) (ls : Array Slot), HW LC X M s H locs → lv_has ls 7 [(0, .ref (X.2.2 120)), (1, .int x1_1), (2, .int x2_2), (3, .int x3_3), (4, .int x4_4), (5, .int v_12), (6, .int r_14)] → kk () = some rs → W p l e rm_X1_nextSeat s m args below meth c H locs 0 0 Q (F0 m 68 ls [])) ?_ (fun k68_17 J68_17 hf => ?_)
            · intro _ H locs ls hw hl hf
              refine lv_iload hx hb dX1_nextSeat_68 (lv_at hl 5 rfl) ?_
              refine lv_iload_n hx hb dX1_nextSeat_70 rfl (lv_at hl 3 rfl) ?_
              refine lv_icmp_ne (tgt := 89) hx hb dX1_nextSeat_71 (by decide) (fun c_18 => ?_) (fun c_18 => ?_)
              · have hf := ie_e hf c_18
                refine r_iinc (v := (x4_4 + 1)) hx hb dX1_nextSeat_89 hl (k := 4) rfl rfl (by decide) hf (fun x4_19 ls hl hf => ?_)
                have hl : lv_has ls 7 [(4, .int x4_19), (0, .ref (X.2.2 120)), (1, .int x1_1), (2, .int x2_2), (3, .int x3_3), (5, .int v_12), (6, .int r_14)] := hl
                refine lv_goto (tgt := 10) hx hb dX1_nextSeat_92 (by decide) ?_
                exact ih_10 x1_1 x2_2 x3_3 x4_19 _ _ _ hw (lv_sub hl [1, 2, 3, 4, 0] rfl) hf
              · have hf := it_e hf c_18
                refine lv_iload hx hb dX1_nextSeat_74 (lv_at hl 6 rfl) ?_
                refine lv_iload_n hx hb dX1_nextSeat_76 rfl (lv_at hl 2 rfl) ?_
                refine lv_icmp_ge (tgt := 89) hx hb dX1_nextSeat_77 (by decide) (fun c_20 => ?_) (fun c_20 => ?_)
                · have hf := it_e hf c_20
                  refine r_iinc (v := (x4_4 + 1)) hx hb dX1_nextSeat_89 hl (k := 4) rfl rfl (by decide) hf (fun x4_21 ls hl hf => ?_)
                  have hl : lv_has ls 7 [(4, .int x4_21), (0, .ref (X.2.2 120)), (1, .int x1_1), (2, .int x2_2), (3, .int x3_3), (5, .int v_12), (6, .int r_14)] := hl
                  refine lv_goto (tgt := 10) hx hb dX1_nextSeat_92 (by decide) ?_
                  exact ih_10 x1_1 x2_2 x3_3 x4_21 _ _ _ hw (lv_sub hl [1, 2, 3, 4, 0] rfl) hf
                · have hf := ie_e hf c_20
                  exact J80_15 () _ _ _ hw (lv_sub hl [0, 4, 5, 6] rfl) hf
            refine lv_if_eq (tgt := 68) hx hb dX1_nextSeat_61 (by decide) (fun c_22 => ?_) (fun c_22 => ?_)
            · have hf := it_e hf c_22
              exact J68_17 () _ _ _ hw (lv_sub hl [2, 3, 4, 5, 6, 1, 0] rfl) hf
            · have hf := ie_e hf c_22
              refine lv_iload_n hx hb dX1_nextSeat_64 rfl (lv_at hl 5 rfl) ?_
              refine lv_if_eq (tgt := 80) hx hb dX1_nextSeat_65 (by decide) (fun c_23 => ?_) (fun c_23 => ?_)
              · have hf := it_e hf c_23
                exact J80_15 () _ _ _ hw (lv_sub hl [2, 6, 1, 0] rfl) hf
              · have hf := ie_e hf c_23
                exact J68_17 () _ _ _ hw (lv_sub hl [2, 3, 4, 5, 6, 1, 0] rfl) hf
        · have hf := ie_e hf c_8
          refine lv_goto (tgt := 89) hx hb dX1_nextSeat_31 (by decide) ?_
          refine r_iinc (v := (x4_4 + 1)) hx hb dX1_nextSeat_89 hl (k := 4) rfl rfl (by decide) hf (fun x4_24 ls hl hf => ?_)
          have hl : lv_has ls 7 [(4, .int x4_24), (0, .ref (X.2.2 120)), (1, .int x1_1), (2, .int x2_2), (3, .int x3_3)] := hl
          refine lv_goto (tgt := 10) hx hb dX1_nextSeat_92 (by decide) ?_
          exact ih_10 x1_1 x2_2 x3_3 x4_24 _ _ _ hw (lv_sub hl [1, 2, 3, 4, 0] rfl) hf
  exact hL_10 fu 0 2147483647 0 0 _ _ _ hw (lv_sub hl [4, 3, 2, 1, 0] rfl) hf
abbrev rm_X5_isGiven : Room := { frames := 2, cells := 0, slots := 0, locals := 44 }
set_option maxRecDepth 100000 in
set_option maxHeartbeats 4000000 in
theorem c_X5_isGiven (l : Launch) (X : XT) (fu : Nat) (a0 : Nat) (p1 : Int32) (p3 : Int32) (M : Mem) (ha0 : kC a0 = (5, 0)) (rs : Int32) (hf : f_X5_isGiven fu a0 p1 p3 M = some rs) (sz : Nat) : Met l yX5_isGiven (wbig yX5_isGiven cX5_isGiven 5 (some .boolean)) rm_X5_isGiven (va_Pc [.ref (X.2.2 a0), .int p1, .ref (X.2.2 80), .int p3] (PW LC X M sz)) (QI LC X M rs sz) 0 0 (AX LC X sz) := by
  refine met_go (L := LC) (M := M) (by decide +kernel) (Nat.le_of_ble_eq_true rfl) ?_
  intro p e s m args below meth c hsz B hr hlk hw ls hl
  subst hsz
  have hx := B.hx
  have hb := B.hb
  have hl : lv_has ls 5 [(0, .ref (X.2.2 a0)), (1, .int p1), (2, .ref (X.2.2 80)), (3, .int p3)] := hl
  generalize hQ : MQ below _ args s 0 0 (AX LC X s.heap.size) = Q
  unfold f_X5_isGiven at hf
  refine lv_iconst (v := 0) hx hb dX5_isGiven_0 (by decide) ?_
  refine lv_istore (lv' := [(4, .int 0), (0, .ref (X.2.2 a0)), (1, .int p1), (2, .ref (X.2.2 80)), (3, .int p3)]) hx hb dX5_isGiven_1 hl (by decide) rfl (fun ls hl => ?_)
  have hL_3 : ∀ (n_3 : Nat) (x4_1 : Int32) (H : Heap) (locs : List Loc) (ls : Array Slot), HW LC X M s H locs → lv_has ls 5 [(0, .ref (X.2.2 a0)), (1, .int p1), (2, .ref (X.2.2 80)), (3, .int p3), (4, .int x4_1)] → f_X5_isGiven_L3 fu a0 p1 p3 M n_3 x4_1 = some rs → W p l e rm_X5_isGiven s m args below meth c H locs 0 0 Q (F0 m 3 ls []) := by
    intro n_3
    induction n_3 with
    | zero => intro x4_1 H locs ls hw hl hf; exact no_none hf
    | succ n_3 ih_3 =>
      intro x4_1 H locs ls hw hl hf
      rw [f_X5_isGiven_L3] at hf
      refine lv_iload hx hb dX5_isGiven_3 (lv_at hl 4 rfl) ?_
      refine lv_aload_n hx hb dX5_isGiven_5 rfl (lv_at hl 2 rfl) ?_
      refine gt_X5_32 B hw (i := 80) rfl dX5_isGiven_6 ?_
      refine lv_icmp_ge (tgt := 78) hx hb dX5_isGiven_9 (by decide) (fun c_2 => ?_) (fun c_2 => ?_)
      · have hf := it_e hf c_2
        refine lv_iconst (v := 0) hx hb dX5_isGiven_78 (by decide) ?_
        cases hf
        subst hQ
        exact q_zret B hr hlk rfl hw rfl rfl dX5_isGiven_79
      · have hf := ie_e hf c_2
        refine lv_aload_n hx hb dX5_isGiven_12 rfl (lv_at hl 2 rfl) ?_
        refine lv_iload hx hb dX5_isGiven_13 (lv_at hl 4 rfl) ?_
        refine lv_iload_n hx hb dX5_isGiven_15 rfl (lv_at hl 3 rfl) ?_
        obtain ⟨r_4, h_3, hf⟩ := bd_e hf
        refine q_callVi (M' := M) (i := 80) (As := [.int x4_1, .int p3]) (rest := []) B hw (c_X4_isSent l X fu x4_1 p3 M r_4 h_3 _) cv_X5_35 (rc_4 B hw rfl) rfl hl.1 rfl rfl ⟨Nat.le_of_ble_eq_true rfl, Nat.le_of_ble_eq_true rfl⟩ (Nat.le_of_ble_eq_true rfl) ⟨Nat.le_of_ble_eq_true rfl, Nat.le_of_ble_eq_true rfl⟩ dX5_isGiven_16 rfl (fun H locs hw => ?_)
        refine lv_if_eq (tgt := 72) hx hb dX5_isGiven_19 (by decide) (fun c_5 => ?_) (fun c_5 => ?_)
        · have hf := it_e hf c_5
          refine r_iinc (v := (x4_1 + 1)) hx hb dX5_isGiven_72 hl (k := 4) rfl rfl (by decide) hf (fun x4_6 ls hl hf => ?_)
          have hl : lv_has ls 5 [(4, .int x4_6), (0, .ref (X.2.2 a0)), (1, .int p1), (2, .ref (X.2.2 80)), (3, .int p3)] := hl
          refine lv_goto (tgt := 3) hx hb dX5_isGiven_75 (by decide) ?_
          exact ih_3 x4_6 _ _ _ hw (lv_sub hl [1, 2, 3, 4, 0] rfl) hf
        · have hf := ie_e hf c_5
          refine lv_aload_n hx hb dX5_isGiven_22 rfl (lv_at hl 2 rfl) ?_
          refine gt_X5_39 B hw (i := 80) rfl dX5_isGiven_23 ?_
          refine lv_iload hx hb dX5_isGiven_26 (lv_at hl 4 rfl) ?_
          obtain ⟨g_7, hf⟩ := grd_e hf
          refine c_iald B hw (i := 85) rfl g_7 dX5_isGiven_28 ?_
          refine lv_aload_n hx hb dX5_isGiven_29 rfl (lv_at hl 0 rfl) ?_
          refine gt_X5_18 B hw (i := a0) ha0 dX5_isGiven_30 ?_
          refine lv_iload_n hx hb dX5_isGiven_33 rfl (lv_at hl 1 rfl) ?_
          obtain ⟨g_8, hf⟩ := grd_e hf
          refine c_iald B hw (i := (a0 + 4)) (kE4 ha0) g_8 dX5_isGiven_34 ?_
          refine lv_icmp_ne (tgt := 72) hx hb dX5_isGiven_35 (by decide) (fun c_9 => ?_) (fun c_9 => ?_)
          · have hf := ie_e hf c_9
            refine r_iinc (v := (x4_1 + 1)) hx hb dX5_isGiven_72 hl (k := 4) rfl rfl (by decide) hf (fun x4_10 ls hl hf => ?_)
            have hl : lv_has ls 5 [(4, .int x4_10), (0, .ref (X.2.2 a0)), (1, .int p1), (2, .ref (X.2.2 80)), (3, .int p3)] := hl
            refine lv_goto (tgt := 3) hx hb dX5_isGiven_75 (by decide) ?_
            exact ih_3 x4_10 _ _ _ hw (lv_sub hl [1, 2, 3, 4, 0] rfl) hf
          · have hf := it_e hf c_9
            refine lv_aload_n hx hb dX5_isGiven_38 rfl (lv_at hl 0 rfl) ?_
            refine gt_X5_22 B hw (i := a0) ha0 dX5_isGiven_39 ?_
            refine lv_iload_n hx hb dX5_isGiven_42 rfl (lv_at hl 1 rfl) ?_
            refine c_iald B hw (i := (a0 + 5)) (kE5 ha0) g_8 dX5_isGiven_43 ?_
            refine lv_aload_n hx hb dX5_isGiven_44 rfl (lv_at hl 0 rfl) ?_
            refine gt_X5_25 B hw (i := a0) ha0 dX5_isGiven_45 ?_
            refine lv_iload_n hx hb dX5_isGiven_48 rfl (lv_at hl 1 rfl) ?_
            refine c_iald B hw (i := (a0 + 6)) (kE6 ha0) g_8 dX5_isGiven_49 ?_
            refine lv_aload_n hx hb dX5_isGiven_50 rfl (lv_at hl 2 rfl) ?_
            refine gt_X5_42 B hw (i := 80) rfl dX5_isGiven_51 ?_
            refine lv_iload hx hb dX5_isGiven_54 (lv_at hl 4 rfl) ?_
            refine c_iald B hw (i := 86) rfl g_7 dX5_isGiven_56 ?_
            refine lv_aload_n hx hb dX5_isGiven_57 rfl (lv_at hl 2 rfl) ?_
            refine gt_X5_45 B hw (i := 80) rfl dX5_isGiven_58 ?_
            refine lv_iload hx hb dX5_isGiven_61 (lv_at hl 4 rfl) ?_
            refine c_iald B hw (i := 87) rfl g_7 dX5_isGiven_63 ?_
            refine q_callNi (M' := M) (As := [.int (M (a0 + 5) p1.toNatClampNeg), .int (M (a0 + 6) p1.toNatClampNeg), .int (M 86 x4_1.toNatClampNeg), .int (M 87 x4_1.toNatClampNeg)]) (rest := []) B hw (c_X10_follows l X (M (a0 + 5) p1.toNatClampNeg) (M (a0 + 6) p1.toNatClampNeg) (M 86 x4_1.toNatClampNeg) (M 87 x4_1.toNatClampNeg) _ rfl M _) cn_X5_52 rfl hl.1 rfl rfl ⟨Nat.le_of_ble_eq_true rfl, Nat.le_of_ble_eq_true rfl⟩ (Nat.le_of_ble_eq_true rfl) ⟨Nat.le_of_ble_eq_true rfl, Nat.le_of_ble_eq_true rfl⟩ dX5_isGiven_64 rfl (fun H locs hw => ?_)
            refine lv_if_eq (tgt := 72) hx hb dX5_isGiven_67 (by decide) (fun c_11 => ?_) (fun c_11 => ?_)
            · have hf := it_e hf c_11
              refine r_iinc (v := (x4_1 + 1)) hx hb dX5_isGiven_72 hl (k := 4) rfl rfl (by decide) hf (fun x4_12 ls hl hf => ?_)
              have hl : lv_has ls 5 [(4, .int x4_12), (0, .ref (X.2.2 a0)), (1, .int p1), (2, .ref (X.2.2 80)), (3, .int p3)] := hl
              refine lv_goto (tgt := 3) hx hb dX5_isGiven_75 (by decide) ?_
              exact ih_3 x4_12 _ _ _ hw (lv_sub hl [1, 2, 3, 4, 0] rfl) hf
            · have hf := ie_e hf c_11
              refine lv_iconst (v := 1) hx hb dX5_isGiven_70 (by decide) ?_
              cases hf
              subst hQ
              exact q_zret B hr hlk rfl hw rfl rfl dX5_isGiven_71
  exact hL_3 fu 0 _ _ _ hw (lv_sub hl [1, 2, 3, 4, 0] rfl) hf
abbrev rm_X5_servesConditions : Room := { frames := 3, cells := 0, slots := 0, locals := 68 }
set_option maxRecDepth 100000 in
set_option maxHeartbeats 4000000 in
theorem c_X5_servesConditions (l : Launch) (X : XT) (fu : Nat) (a0 : Nat) (p2 : Int32) (M : Mem) (ha0 : kC a0 = (5, 0)) (rs : Int32) (hf : f_X5_servesConditions fu a0 p2 M = some rs) (sz : Nat) : Met l yX5_servesConditions (wbig yX5_servesConditions cX5_servesConditions 4 (some .boolean)) rm_X5_servesConditions (va_Pc [.ref (X.2.2 a0), .ref (X.2.2 80), .int p2] (PW LC X M sz)) (QI LC X M rs sz) 0 0 (AX LC X sz) := by
  refine met_go (L := LC) (M := M) (by decide +kernel) (Nat.le_of_ble_eq_true rfl) ?_
  intro p e s m args below meth c hsz B hr hlk hw ls hl
  subst hsz
  have hx := B.hx
  have hb := B.hb
  have hl : lv_has ls 4 [(0, .ref (X.2.2 a0)), (1, .ref (X.2.2 80)), (2, .int p2)] := hl
  generalize hQ : MQ below _ args s 0 0 (AX LC X s.heap.size) = Q
  unfold f_X5_servesConditions at hf
  refine lv_iconst (v := 0) hx hb dX5_servesConditions_0 (by decide) ?_
  refine lv_istore_n (lv' := [(3, .int 0), (0, .ref (X.2.2 a0)), (1, .ref (X.2.2 80)), (2, .int p2)]) hx hb dX5_servesConditions_1 rfl hl (by decide) rfl (fun ls hl => ?_)
  have hL_2 : ∀ (n_2 : Nat) (x3_1 : Int32) (H : Heap) (locs : List Loc) (ls : Array Slot), HW LC X M s H locs → lv_has ls 4 [(0, .ref (X.2.2 a0)), (1, .ref (X.2.2 80)), (2, .int p2), (3, .int x3_1)] → f_X5_servesConditions_L2 fu a0 p2 M n_2 x3_1 = some rs → W p l e rm_X5_servesConditions s m args below meth c H locs 0 0 Q (F0 m 2 ls []) := by
    intro n_2
    induction n_2 with
    | zero => intro x3_1 H locs ls hw hl hf; exact no_none hf
    | succ n_2 ih_2 =>
      intro x3_1 H locs ls hw hl hf
      rw [f_X5_servesConditions_L2] at hf
      refine lv_iload_n hx hb dX5_servesConditions_2 rfl (lv_at hl 3 rfl) ?_
      refine lv_aload_n hx hb dX5_servesConditions_3 rfl (lv_at hl 0 rfl) ?_
      refine gt_X5_28 B hw (i := a0) ha0 dX5_servesConditions_4 ?_
      refine lv_icmp_ge (tgt := 28) hx hb dX5_servesConditions_7 (by decide) (fun c_2 => ?_) (fun c_2 => ?_)
      · have hf := it_e hf c_2
        refine lv_iconst (v := 1) hx hb dX5_servesConditions_28 (by decide) ?_
        cases hf
        subst hQ
        exact q_zret B hr hlk rfl hw rfl rfl dX5_servesConditions_29
      · have hf := ie_e hf c_2
        refine lv_aload_n hx hb dX5_servesConditions_10 rfl (lv_at hl 0 rfl) ?_
        refine lv_iload_n hx hb dX5_servesConditions_11 rfl (lv_at hl 3 rfl) ?_
        refine lv_aload_n hx hb dX5_servesConditions_12 rfl (lv_at hl 1 rfl) ?_
        refine lv_iload_n hx hb dX5_servesConditions_13 rfl (lv_at hl 2 rfl) ?_
        obtain ⟨r_4, h_3, hf⟩ := bd_e hf
        refine q_callVi (M' := M) (i := a0) (As := [.int x3_1, .ref (X.2.2 80), .int p2]) (rest := []) B hw (c_X5_isGiven l X fu a0 x3_1 p2 M ha0 r_4 h_3 _) cv_X5_48 (rc_5 B hw ha0) rfl hl.1 rfl rfl ⟨Nat.le_of_ble_eq_true rfl, Nat.le_of_ble_eq_true rfl⟩ (Nat.le_of_ble_eq_true rfl) ⟨Nat.le_of_ble_eq_true rfl, Nat.le_of_ble_eq_true rfl⟩ dX5_servesConditions_14 rfl (fun H locs hw => ?_)
        refine lv_if_ne (tgt := 22) hx hb dX5_servesConditions_17 (by decide) (fun c_5 => ?_) (fun c_5 => ?_)
        · have hf := ie_e hf c_5
          refine r_iinc (v := (x3_1 + 1)) hx hb dX5_servesConditions_22 hl (k := 3) rfl rfl (by decide) hf (fun x3_6 ls hl hf => ?_)
          have hl : lv_has ls 4 [(3, .int x3_6), (0, .ref (X.2.2 a0)), (1, .ref (X.2.2 80)), (2, .int p2)] := hl
          refine lv_goto (tgt := 2) hx hb dX5_servesConditions_25 (by decide) ?_
          exact ih_2 x3_6 _ _ _ hw (lv_sub hl [1, 2, 3, 0] rfl) hf
        · have hf := it_e hf c_5
          refine lv_iconst (v := 0) hx hb dX5_servesConditions_20 (by decide) ?_
          cases hf
          subst hQ
          exact q_zret B hr hlk rfl hw rfl rfl dX5_servesConditions_21
  exact hL_2 fu 0 _ _ _ hw (lv_sub hl [1, 2, 3, 0] rfl) hf
abbrev rm_X3_serving : Room := { frames := 4, cells := 0, slots := 0, locals := 91 }
set_option maxRecDepth 100000 in
set_option maxHeartbeats 4000000 in
theorem c_X3_serving (l : Launch) (X : XT) (fu : Nat) (p2 : Int32) (p3 : Int32) (M : Mem)  (rs : (Option Nat)) (hf : f_X3_serving fu p2 p3 M = some rs) (sz : Nat) : Met l yX3_serving (wbig yX3_serving cX3_serving 6 (some (.object "QueryHarbor$Entry"))) rm_X3_serving (va_Pc [.ref (X.2.2 2), .ref (X.2.2 80), .int p2, .int p3] (PW LC X M sz)) (QQ LC X M rs sz) 0 0 (AX LC X sz) := by
  refine met_go (L := LC) (M := M) (by decide +kernel) (Nat.le_of_ble_eq_true rfl) ?_
  intro p e s m args below meth c hsz B hr hlk hw ls hl
  subst hsz
  have hx := B.hx
  have hb := B.hb
  have hl : lv_has ls 6 [(0, .ref (X.2.2 2)), (1, .ref (X.2.2 80)), (2, .int p2), (3, .int p3)] := hl
  generalize hQ : MQ below _ args s 0 0 (AX LC X s.heap.size) = Q
  unfold f_X3_serving at hf
  refine lv_aload_n hx hb dX3_serving_0 rfl (lv_at hl 0 rfl) ?_
  refine gt_X3_29 B hw (i := 2) rfl dX3_serving_1 ?_
  refine lv_iconst (v := 1) hx hb dX3_serving_4 (by decide) ?_
  refine lv_isub hx hb dX3_serving_5 ?_
  refine r_topn hf (fun x4_1 hf => ?_)
  refine lv_istore (lv' := [(4, .int x4_1), (0, .ref (X.2.2 2)), (1, .ref (X.2.2 80)), (2, .int p2), (3, .int p3)]) hx hb dX3_serving_6 hl (by decide) rfl (fun ls hl => ?_)
  have hL_8 : ∀ (n_8 : Nat) (x4_2 : Int32) (H : Heap) (locs : List Loc) (ls : Array Slot), HW LC X M s H locs → lv_has ls 6 [(0, .ref (X.2.2 2)), (1, .ref (X.2.2 80)), (2, .int p2), (3, .int p3), (4, .int x4_2)] → f_X3_serving_L8 fu p2 p3 M n_8 x4_2 = some rs → W p l e rm_X3_serving s m args below meth c H locs 0 0 Q (F0 m 8 ls []) := by
    intro n_8
    induction n_8 with
    | zero => intro x4_2 H locs ls hw hl hf; exact no_none hf
    | succ n_8 ih_8 =>
      intro x4_2 H locs ls hw hl hf
      rw [f_X3_serving_L8] at hf
      refine lv_iload hx hb dX3_serving_8 (lv_at hl 4 rfl) ?_
      refine lv_if_lt (tgt := 72) hx hb dX3_serving_10 (by decide) (fun c_3 => ?_) (fun c_3 => ?_)
      · have hf := it_e hf c_3
        refine lv_null hx hb dX3_serving_72 ?_
        cases hf
        subst hQ
        exact q_qret B hr hlk hw rfl rfl rfl dX3_serving_73
      · have hf := ie_e hf c_3
        refine lv_aload_n hx hb dX3_serving_13 rfl (lv_at hl 0 rfl) ?_
        refine gt_X3_11 B hw (i := 2) rfl dX3_serving_14 ?_
        refine lv_iload hx hb dX3_serving_17 (lv_at hl 4 rfl) ?_
        obtain ⟨g_4, hf⟩ := grd_e hf
        refine c_aldE B hw (i := 3) rfl g_4 dX3_serving_19 ?_
        refine r_topr hf (fun e_5 hf => ?_)
        obtain ⟨he_5, hf⟩ := grd_e hf
        have he_5 := kb_e he_5
        refine lv_astore (lv' := [(5, .ref (X.2.2 e_5)), (0, .ref (X.2.2 2)), (1, .ref (X.2.2 80)), (2, .int p2), (3, .int p3), (4, .int x4_2)]) hx hb dX3_serving_20 hl (by decide) rfl (fun ls hl => ?_)
        refine lv_aload hx hb dX3_serving_22 (lv_at hl 0 rfl) ?_
        refine gt_X3_47 B hw (i := e_5) he_5 dX3_serving_24 ?_
        refine lv_aload_n hx hb dX3_serving_27 rfl (lv_at hl 2 rfl) ?_
        refine gt_X3_62 B hw (i := 80) rfl dX3_serving_28 ?_
        refine lv_iload_n hx hb dX3_serving_31 rfl (lv_at hl 3 rfl) ?_
        obtain ⟨g_6, hf⟩ := grd_e hf
        refine c_iald B hw (i := 81) rfl g_6 dX3_serving_32 ?_
        refine lv_icmp_ne (tgt := 66) hx hb dX3_serving_33 (by decide) (fun c_7 => ?_) (fun c_7 => ?_)
        · have hf := ie_e hf c_7
          refine r_iinc (v := (x4_2 + (-1))) hx hb dX3_serving_66 hl (k := 5) rfl rfl (by decide) hf (fun x4_8 ls hl hf => ?_)
          have hl : lv_has ls 6 [(4, .int x4_8), (5, .ref (X.2.2 e_5)), (0, .ref (X.2.2 2)), (1, .ref (X.2.2 80)), (2, .int p2), (3, .int p3)] := hl
          refine lv_goto (tgt := 8) hx hb dX3_serving_69 (by decide) ?_
          exact ih_8 x4_8 _ _ _ hw (lv_sub hl [2, 3, 4, 5, 0] rfl) hf
        · have hf := it_e hf c_7
          refine lv_aload_n hx hb dX3_serving_36 rfl (lv_at hl 1 rfl) ?_
          refine gt_X3_24 B hw (i := 2) rfl dX3_serving_37 ?_
          refine gt_X3_36 B hw (i := 1) rfl dX3_serving_40 ?_
          refine lv_aload hx hb dX3_serving_43 (lv_at hl 0 rfl) ?_
          refine gt_X3_41 B hw (i := e_5) he_5 dX3_serving_45 ?_
          refine lv_isub hx hb dX3_serving_48 ?_
          refine lv_iload_n hx hb dX3_serving_49 rfl (lv_at hl 4 rfl) ?_
          refine lv_icmp_gt (tgt := 66) hx hb dX3_serving_50 (by decide) (fun c_9 => ?_) (fun c_9 => ?_)
          · have hf := it_e hf c_9
            refine r_iinc (v := (x4_2 + (-1))) hx hb dX3_serving_66 hl (k := 5) rfl rfl (by decide) hf (fun x4_10 ls hl hf => ?_)
            have hl : lv_has ls 6 [(4, .int x4_10), (5, .ref (X.2.2 e_5)), (0, .ref (X.2.2 2)), (1, .ref (X.2.2 80)), (2, .int p2), (3, .int p3)] := hl
            refine lv_goto (tgt := 8) hx hb dX3_serving_69 (by decide) ?_
            exact ih_8 x4_10 _ _ _ hw (lv_sub hl [2, 3, 4, 5, 0] rfl) hf
          · have hf := ie_e hf c_9
            refine lv_aload hx hb dX3_serving_53 (lv_at hl 0 rfl) ?_
            refine lv_aload_n hx hb dX3_serving_55 rfl (lv_at hl 2 rfl) ?_
            refine lv_iload_n hx hb dX3_serving_56 rfl (lv_at hl 3 rfl) ?_
            obtain ⟨r_12, h_11, hf⟩ := bd_e hf
            refine q_callVi (M' := M) (i := e_5) (As := [.ref (X.2.2 80), .int p2]) (rest := []) B hw (c_X5_servesConditions l X fu e_5 p2 M he_5 r_12 h_11 _) cv_X3_67 (rc_5 B hw he_5) rfl hl.1 rfl rfl ⟨Nat.le_of_ble_eq_true rfl, Nat.le_of_ble_eq_true rfl⟩ (Nat.le_of_ble_eq_true rfl) ⟨Nat.le_of_ble_eq_true rfl, Nat.le_of_ble_eq_true rfl⟩ dX3_serving_57 rfl (fun H locs hw => ?_)
            refine lv_if_eq (tgt := 66) hx hb dX3_serving_60 (by decide) (fun c_13 => ?_) (fun c_13 => ?_)
            · have hf := it_e hf c_13
              refine r_iinc (v := (x4_2 + (-1))) hx hb dX3_serving_66 hl (k := 5) rfl rfl (by decide) hf (fun x4_14 ls hl hf => ?_)
              have hl : lv_has ls 6 [(4, .int x4_14), (5, .ref (X.2.2 e_5)), (0, .ref (X.2.2 2)), (1, .ref (X.2.2 80)), (2, .int p2), (3, .int p3)] := hl
              refine lv_goto (tgt := 8) hx hb dX3_serving_69 (by decide) ?_
              exact ih_8 x4_14 _ _ _ hw (lv_sub hl [2, 3, 4, 5, 0] rfl) hf
            · have hf := ie_e hf c_13
              refine lv_aload hx hb dX3_serving_63 (lv_at hl 0 rfl) ?_
              cases hf
              subst hQ
              exact q_qret B hr hlk hw rfl rfl rfl dX3_serving_65
  exact hL_8 fu x4_1 _ _ _ hw (lv_sub hl [1, 2, 3, 4, 0] rfl) hf
abbrev rm_X6_copy : Room := { frames := 1, cells := 0, slots := 0, locals := 30 }
set_option maxRecDepth 100000 in
set_option maxHeartbeats 4000000 in
theorem c_X6_copy (l : Launch) (X : XT) (fu : Nat) (a0 : Nat) (a1 : Nat) (M : Mem) (ha0 : kC a0 = (6, 0)) (ha1 : kC a1 = (6, 0)) (rs : Mem) (hf : f_X6_copy fu a0 a1 M = some rs) (sz : Nat) : Met l yX6_copy (wbig yX6_copy cX6_copy 2 none) rm_X6_copy (va_Pc [.ref (X.2.2 a0), .ref (X.2.2 a1)] (PW LC X M sz)) (QV LC X rs sz) 0 0 (AX LC X sz) := by
  refine met_go (L := LC) (M := M) (by decide +kernel) (Nat.le_of_ble_eq_true rfl) ?_
  intro p e s m args below meth c hsz B hr hlk hw ls hl
  subst hsz
  have hx := B.hx
  have hb := B.hb
  have hl : lv_has ls 2 [(0, .ref (X.2.2 a0)), (1, .ref (X.2.2 a1))] := hl
  generalize hQ : MQ below _ args s 0 0 (AX LC X s.heap.size) = Q
  unfold f_X6_copy at hf
  refine lv_aload_n hx hb dX6_copy_0 rfl (lv_at hl 0 rfl) ?_
  refine lv_aload_n hx hb dX6_copy_1 rfl (lv_at hl 1 rfl) ?_
  refine gt_X6_18 B hw (i := a1) ha1 dX6_copy_2 ?_
  refine pt_X6_18 B hw (i := a0) ha0 dX6_copy_5 hf (fun M_1 H locs hw hf => ?_)
  refine lv_aload_n hx hb dX6_copy_8 rfl (lv_at hl 1 rfl) ?_
  refine gt_X6_9 B hw (i := a1) ha1 dX6_copy_9 ?_
  refine lv_iconst (v := 0) hx hb dX6_copy_12 (by decide) ?_
  refine lv_aload_n hx hb dX6_copy_13 rfl (lv_at hl 0 rfl) ?_
  refine gt_X6_9 B hw (i := a0) ha0 dX6_copy_14 ?_
  refine lv_iconst (v := 0) hx hb dX6_copy_17 (by decide) ?_
  refine lv_bipush (v := 12) hx hb dX6_copy_18 (by decide) ?_
  refine c_copy (i := (a1 + 1)) (j := (a0 + 1)) B hw hl.1 (kR1 ha1) (kR1 ha0) (by decide) rfl (big_at 975 (by decide +kernel) (by decide +kernel)) (big_at 977 (by decide +kernel) (by decide +kernel)) (big_at 976 (by decide +kernel) (by decide +kernel)) (big_at 19 (by decide +kernel) (by decide +kernel)) (Nat.le_of_ble_eq_true rfl) (Nat.le_of_ble_eq_true rfl) dX6_copy_20 hf (fun M_2 H locs hw hf => ?_)
  refine lv_aload_n hx hb dX6_copy_23 rfl (lv_at hl 1 rfl) ?_
  refine gt_X6_15 B hw (i := a1) ha1 dX6_copy_24 ?_
  refine lv_iconst (v := 0) hx hb dX6_copy_27 (by decide) ?_
  refine lv_aload_n hx hb dX6_copy_28 rfl (lv_at hl 0 rfl) ?_
  refine gt_X6_15 B hw (i := a0) ha0 dX6_copy_29 ?_
  refine lv_iconst (v := 0) hx hb dX6_copy_32 (by decide) ?_
  refine lv_bipush (v := 48) hx hb dX6_copy_33 (by decide) ?_
  refine c_copy (i := (a1 + 2)) (j := (a0 + 2)) B hw hl.1 (kR2 ha1) (kR2 ha0) (by decide) rfl (big_at 975 (by decide +kernel) (by decide +kernel)) (big_at 977 (by decide +kernel) (by decide +kernel)) (big_at 976 (by decide +kernel) (by decide +kernel)) (big_at 19 (by decide +kernel) (by decide +kernel)) (Nat.le_of_ble_eq_true rfl) (Nat.le_of_ble_eq_true rfl) dX6_copy_35 hf (fun M_3 H locs hw hf => ?_)
  cases hf
  subst hQ
  exact q_vret B hr hlk hw rfl dX6_copy_38
abbrev rm_X1_narrow : Room := { frames := 1, cells := 0, slots := 0, locals := 30 }
set_option maxRecDepth 100000 in
set_option maxHeartbeats 4000000 in
theorem c_X1_narrow (l : Launch) (X : XT) (fu : Nat) (p1 : Int32) (p2 : Int32) (M : Mem)  (rs : Mem) (hf : f_X1_narrow fu p1 p2 M = some rs) (sz : Nat) : Met l yX1_narrow (wbig yX1_narrow cX1_narrow 3 none) rm_X1_narrow (va_Pc [.ref (X.2.2 120), .int p1, .int p2] (PW LC X M sz)) (QV LC X rs sz) 0 0 (AX LC X sz) := by
  refine met_go (L := LC) (M := M) (by decide +kernel) (Nat.le_of_ble_eq_true rfl) ?_
  intro p e s m args below meth c hsz B hr hlk hw ls hl
  subst hsz
  have hx := B.hx
  have hb := B.hb
  have hl : lv_has ls 3 [(0, .ref (X.2.2 120)), (1, .int p1), (2, .int p2)] := hl
  generalize hQ : MQ below _ args s 0 0 (AX LC X s.heap.size) = Q
  unfold f_X1_narrow at hf
  refine lv_aload_n hx hb dX1_narrow_0 rfl (lv_at hl 0 rfl) ?_
  refine lv_aload_n hx hb dX1_narrow_1 rfl (lv_at hl 0 rfl) ?_
  refine gt_X1_42 B hw (i := 120) rfl dX1_narrow_2 ?_
  refine lv_iload_n hx hb dX1_narrow_5 rfl (lv_at hl 1 rfl) ?_
  refine q_max B hl.1 (big_at 950 (by decide +kernel) (by decide +kernel)) (big_at 681 (by decide +kernel) (by decide +kernel)) (big_at 18 (by decide +kernel) (by decide +kernel)) (big_at 682 (by decide +kernel) (by decide +kernel)) (Nat.le_of_ble_eq_true rfl) (Nat.le_of_ble_eq_true rfl) (Nat.zero_le _) (Nat.zero_le _) dX1_narrow_6 ?_
  refine pt_X1_42 B hw (i := 120) rfl dX1_narrow_9 hf (fun M_1 H locs hw hf => ?_)
  refine lv_aload_n hx hb dX1_narrow_12 rfl (lv_at hl 0 rfl) ?_
  refine lv_aload_n hx hb dX1_narrow_13 rfl (lv_at hl 0 rfl) ?_
  refine gt_X1_45 B hw (i := 120) rfl dX1_narrow_14 ?_
  refine lv_iload_n hx hb dX1_narrow_17 rfl (lv_at hl 2 rfl) ?_
  refine q_min B hl.1 (big_at 982 (by decide +kernel) (by decide +kernel)) (big_at 678 (by decide +kernel) (by decide +kernel)) (big_at 18 (by decide +kernel) (by decide +kernel)) (big_at 679 (by decide +kernel) (by decide +kernel)) (Nat.le_of_ble_eq_true rfl) (Nat.le_of_ble_eq_true rfl) (Nat.zero_le _) (Nat.zero_le _) dX1_narrow_18 ?_
  refine pt_X1_45 B hw (i := 120) rfl dX1_narrow_21 hf (fun M_2 H locs hw hf => ?_)
  cases hf
  subst hQ
  exact q_vret B hr hlk hw rfl dX1_narrow_24
abbrev rm_X1_close : Room := { frames := 4, cells := 0, slots := 0, locals := 91 }
set_option maxRecDepth 100000 in
set_option maxHeartbeats 4000000 in
theorem c_X1_close (l : Launch) (X : XT) (fu : Nat) (p1 : Int32) (p2 : Int32) (M : Mem)  (rs : Mem) (hf : f_X1_close fu p1 p2 M = some rs) (sz : Nat) : Met l yX1_close (wbig yX1_close cX1_close 3 none) rm_X1_close (va_Pc [.ref (X.2.2 120), .int p1, .int p2] (PW LC X M sz)) (QV LC X rs sz) 0 0 (AX LC X sz) := by
  refine met_go (L := LC) (M := M) (by decide +kernel) (Nat.le_of_ble_eq_true rfl) ?_
  intro p e s m args below meth c hsz B hr hlk hw ls hl
  subst hsz
  have hx := B.hx
  have hb := B.hb
  have hl : lv_has ls 3 [(0, .ref (X.2.2 120)), (1, .int p1), (2, .int p2)] := hl
  generalize hQ : MQ below _ args s 0 0 (AX LC X s.heap.size) = Q
  unfold f_X1_close at hf
  refine lv_aload_n hx hb dX1_close_0 rfl (lv_at hl 0 rfl) ?_
  refine gt_X1_31 B hw (i := 120) rfl dX1_close_1 ?_
  refine lv_aload_n hx hb dX1_close_4 rfl (lv_at hl 0 rfl) ?_
  refine gt_X1_27 B hw (i := 120) rfl dX1_close_5 ?_
  refine lv_iload_n hx hb dX1_close_8 rfl (lv_at hl 1 rfl) ?_
  obtain ⟨M_2, h_1, hf⟩ := bd_e hf
  refine q_callVv (M' := M_2) (i := 90) (As := [.ref (X.2.2 80), .int p1]) (rest := []) B hw (c_X0_keepWhatHolds l X fu 90 p1 M rfl M_2 h_1 _) cv_X1_147 (rc_0 B hw rfl) rfl hl.1 rfl rfl ⟨Nat.le_of_ble_eq_true rfl, Nat.le_of_ble_eq_true rfl⟩ (Nat.le_of_ble_eq_true rfl) ⟨Nat.le_of_ble_eq_true rfl, Nat.le_of_ble_eq_true rfl⟩ dX1_close_9 rfl (fun H locs hw => ?_)
  refine lv_aload_n hx hb dX1_close_12 rfl (lv_at hl 0 rfl) ?_
  refine gt_X1_31 B hw (i := 120) rfl dX1_close_13 ?_
  refine gt_X1_151 B hw (i := 90) rfl dX1_close_16 ?_
  refine lv_aload_n hx hb dX1_close_19 rfl (lv_at hl 0 rfl) ?_
  refine gt_X1_31 B hw (i := 120) rfl dX1_close_20 ?_
  refine gt_X1_154 B hw (i := 90) rfl dX1_close_23 ?_
  refine lv_iload_n hx hb dX1_close_26 rfl (lv_at hl 1 rfl) ?_
  obtain ⟨g_3, hf⟩ := grd_e hf
  refine c_iast B hw (i := 93) rfl g_3 dX1_close_27 hf (fun M_4 H locs hw hf => ?_)
  refine lv_aload_n hx hb dX1_close_28 rfl (lv_at hl 0 rfl) ?_
  refine gt_X1_31 B hw (i := 120) rfl dX1_close_29 ?_
  refine gt_X1_157 B hw (i := 90) rfl dX1_close_32 ?_
  refine lv_aload_n hx hb dX1_close_35 rfl (lv_at hl 0 rfl) ?_
  refine gt_X1_31 B hw (i := 120) rfl dX1_close_36 ?_
  refine gt_X1_154 B hw (i := 90) rfl dX1_close_39 ?_
  refine lv_iload_n hx hb dX1_close_42 rfl (lv_at hl 2 rfl) ?_
  obtain ⟨g_5, hf⟩ := grd_e hf
  refine c_iast B hw (i := 94) rfl g_5 dX1_close_43 hf (fun M_6 H locs hw hf => ?_)
  refine lv_aload_n hx hb dX1_close_44 rfl (lv_at hl 0 rfl) ?_
  refine gt_X1_31 B hw (i := 120) rfl dX1_close_45 ?_
  refine lv_dup hx hb dX1_close_48 rfl ?_
  refine gt_X1_154 B hw (i := 90) rfl dX1_close_49 ?_
  refine lv_iconst (v := 1) hx hb dX1_close_52 (by decide) ?_
  refine lv_iadd hx hb dX1_close_53 ?_
  refine pt_X1_154 B hw (i := 90) rfl dX1_close_54 hf (fun M_7 H locs hw hf => ?_)
  cases hf
  subst hQ
  exact q_vret B hr hlk hw rfl dX1_close_57
abbrev rm_X1_mayBind : Room := { frames := 1, cells := 0, slots := 0, locals := 22 }
set_option maxRecDepth 100000 in
set_option maxHeartbeats 4000000 in
theorem c_X1_mayBind (l : Launch) (X : XT) (fu : Nat) (p1 : Int32) (p2 : Int32) (M : Mem)  (rs : Int32) (hf : f_X1_mayBind fu p1 p2 M = some rs) (sz : Nat) : Met l yX1_mayBind (wbig yX1_mayBind cX1_mayBind 5 (some .boolean)) rm_X1_mayBind (va_Pc [.ref (X.2.2 120), .int p1, .int p2] (PW LC X M sz)) (QI LC X M rs sz) 0 0 (AX LC X sz) := by
  refine met_go (L := LC) (M := M) (by decide +kernel) (Nat.le_of_ble_eq_true rfl) ?_
  intro p e s m args below meth c hsz B hr hlk hw ls hl
  subst hsz
  have hx := B.hx
  have hb := B.hb
  have hl : lv_has ls 5 [(0, .ref (X.2.2 120)), (1, .int p1), (2, .int p2)] := hl
  generalize hQ : MQ below _ args s 0 0 (AX LC X s.heap.size) = Q
  unfold f_X1_mayBind at hf
  refine lv_iload_n hx hb dX1_mayBind_0 rfl (lv_at hl 1 rfl) ?_
  refine q_callNi (M' := M) (As := [.int p1]) (rest := []) B hw (c_X10_storeOf l X p1 _ rfl M _) cn_X1_128 rfl hl.1 rfl rfl ⟨Nat.le_of_ble_eq_true rfl, Nat.le_of_ble_eq_true rfl⟩ (Nat.le_of_ble_eq_true rfl) ⟨Nat.le_of_ble_eq_true rfl, Nat.le_of_ble_eq_true rfl⟩ dX1_mayBind_1 rfl (fun H locs hw => ?_)
  refine r_topn hf (fun x3_1 hf => ?_)
  refine lv_istore_n (lv' := [(3, .int x3_1), (0, .ref (X.2.2 120)), (1, .int p1), (2, .int p2)]) hx hb dX1_mayBind_4 rfl hl (by decide) rfl (fun ls hl => ?_)
  refine lv_aload_n hx hb dX1_mayBind_5 rfl (lv_at hl 1 rfl) ?_
  refine gt_X1_27 B hw (i := 120) rfl dX1_mayBind_6 ?_
  refine gt_X1_80 B hw (i := 80) rfl dX1_mayBind_9 ?_
  refine lv_aload_n hx hb dX1_mayBind_12 rfl (lv_at hl 1 rfl) ?_
  refine gt_X1_27 B hw (i := 120) rfl dX1_mayBind_13 ?_
  refine gt_X1_172 B hw (i := 80) rfl dX1_mayBind_16 ?_
  refine lv_iload_n hx hb dX1_mayBind_19 rfl (lv_at hl 3 rfl) ?_
  refine lv_iconst (v := 1) hx hb dX1_mayBind_20 (by decide) ?_
  refine lv_ixor hx hb dX1_mayBind_21 ?_
  obtain ⟨g_2, hf⟩ := grd_e hf
  refine c_iald B hw (i := 82) rfl g_2 dX1_mayBind_22 ?_
  obtain ⟨g_3, hf⟩ := grd_e hf
  refine c_iald B hw (i := 81) rfl g_3 dX1_mayBind_23 ?_
  refine r_topn hf (fun x4_4 hf => ?_)
  refine lv_istore (lv' := [(4, .int x4_4), (3, .int x3_1), (0, .ref (X.2.2 120)), (1, .int p1), (2, .int p2)]) hx hb dX1_mayBind_24 hl (by decide) rfl (fun ls hl => ?_)
  refine lv_iload_n hx hb dX1_mayBind_26 rfl (lv_at hl 1 rfl) ?_
  refine lv_aload_n hx hb dX1_mayBind_27 rfl (lv_at hl 2 rfl) ?_
  refine gt_X1_27 B hw (i := 120) rfl dX1_mayBind_28 ?_
  refine gt_X1_134 B hw (i := 80) rfl dX1_mayBind_31 ?_
  refine lv_iload_n hx hb dX1_mayBind_34 rfl (lv_at hl 4 rfl) ?_
  obtain ⟨g_5, hf⟩ := grd_e hf
  refine c_iald B hw (i := 83) rfl g_5 dX1_mayBind_35 ?_
  refine lv_iconst (v := 0) hx hb dX1_mayBind_36 (by decide) ?_
  refine q_callNi (M' := M) (As := [.int x3_1, .int (M 83 p2.toNatClampNeg), .int 0]) (rest := []) B hw (c_X10_canDo l X x3_1 (M 83 p2.toNatClampNeg) 0 _ rfl M _) cn_X1_181 rfl hl.1 rfl rfl ⟨Nat.le_of_ble_eq_true rfl, Nat.le_of_ble_eq_true rfl⟩ (Nat.le_of_ble_eq_true rfl) ⟨Nat.le_of_ble_eq_true rfl, Nat.le_of_ble_eq_true rfl⟩ dX1_mayBind_37 rfl (fun H locs hw => ?_)
  refine lv_if_eq (tgt := 64) hx hb dX1_mayBind_40 (by decide) (fun c_6 => ?_) (fun c_6 => ?_)
  · have hf := it_e hf c_6
    refine lv_iconst (v := 0) hx hb dX1_mayBind_64 (by decide) ?_
    cases hf
    subst hQ
    exact q_zret B hr hlk rfl hw rfl rfl dX1_mayBind_65
  · have hf := ie_e hf c_6
    refine lv_aload_n hx hb dX1_mayBind_43 rfl (lv_at hl 2 rfl) ?_
    refine gt_X1_15 B hw (i := 120) rfl dX1_mayBind_44 ?_
    refine gt_X1_185 B hw (i := 48) rfl dX1_mayBind_47 ?_
    refine lv_iload hx hb dX1_mayBind_50 (lv_at hl 0 rfl) ?_
    refine lv_iconst (v := 3) hx hb dX1_mayBind_52 (by decide) ?_
    refine lv_imul hx hb dX1_mayBind_53 ?_
    refine lv_iload_n hx hb dX1_mayBind_54 rfl (lv_at hl 1 rfl) ?_
    refine lv_iadd hx hb dX1_mayBind_55 ?_
    obtain ⟨g_7, hf⟩ := grd_e hf
    refine c_zald B hw (i := 54) rfl g_7 dX1_mayBind_56 ?_
    refine lv_if_ne (tgt := 64) hx hb dX1_mayBind_57 (by decide) (fun c_8 => ?_) (fun c_8 => ?_)
    · have hf := ie_e hf c_8
      refine lv_iconst (v := 0) hx hb dX1_mayBind_64 (by decide) ?_
      cases hf
      subst hQ
      exact q_zret B hr hlk rfl hw rfl rfl dX1_mayBind_65
    · have hf := it_e hf c_8
      refine lv_iconst (v := 1) hx hb dX1_mayBind_60 (by decide) ?_
      refine lv_goto (tgt := 65) hx hb dX1_mayBind_61 (by decide) ?_
      cases hf
      subst hQ
      exact q_zret B hr hlk rfl hw rfl rfl dX1_mayBind_65
abbrev rm_X1_scanCost : Room := { frames := 4, cells := 0, slots := 0, locals := 88 }
set_option maxRecDepth 100000 in
set_option maxHeartbeats 4000000 in
theorem c_X1_scanCost (l : Launch) (X : XT) (fu : Nat) (p1 : Int32) (M : Mem)  (rs : Int32) (hf : f_X1_scanCost fu p1 M = some rs) (sz : Nat) : Met l yX1_scanCost (wbig yX1_scanCost cX1_scanCost 3 (some .int)) rm_X1_scanCost (va_Pc [.ref (X.2.2 120), .int p1] (PW LC X M sz)) (QI LC X M rs sz) 0 0 (AX LC X sz) := by
  refine met_go (L := LC) (M := M) (by decide +kernel) (Nat.le_of_ble_eq_true rfl) ?_
  intro p e s m args below meth c hsz B hr hlk hw ls hl
  subst hsz
  have hx := B.hx
  have hb := B.hb
  obtain ⟨zFEES, zFREIGHTS, hZFEES, hTFEES, hZFREIGHTS, hTFREIGHTS⟩ := B.hN.2.2
  have hl : lv_has ls 3 [(0, .ref (X.2.2 120)), (1, .int p1)] := hl
  generalize hQ : MQ below _ args s 0 0 (AX LC X s.heap.size) = Q
  unfold f_X1_scanCost at hf
  refine lv_aload_n hx hb dX1_scanCost_0 rfl (lv_at hl 0 rfl) ?_
  refine gt_X1_27 B hw (i := 120) rfl dX1_scanCost_1 ?_
  refine gt_X1_80 B hw (i := 80) rfl dX1_scanCost_4 ?_
  refine lv_iload_n hx hb dX1_scanCost_7 rfl (lv_at hl 1 rfl) ?_
  obtain ⟨g_1, hf⟩ := grd_e hf
  refine c_iald B hw (i := 81) rfl g_1 dX1_scanCost_8 ?_
  refine q_callNi (M' := M) (As := [.int (M 81 p1.toNatClampNeg)]) (rest := []) B hw (c_X10_storeOf l X (M 81 p1.toNatClampNeg) _ rfl M _) cn_X1_128 rfl hl.1 rfl rfl ⟨Nat.le_of_ble_eq_true rfl, Nat.le_of_ble_eq_true rfl⟩ (Nat.le_of_ble_eq_true rfl) ⟨Nat.le_of_ble_eq_true rfl, Nat.le_of_ble_eq_true rfl⟩ dX1_scanCost_9 rfl (fun H locs hw => ?_)
  refine r_topn hf (fun x2_2 hf => ?_)
  refine lv_istore_n (lv' := [(2, .int x2_2), (0, .ref (X.2.2 120)), (1, .int p1)]) hx hb dX1_scanCost_12 rfl hl (by decide) rfl (fun ls hl => ?_)
  refine q_stat (own := RX1) (host := "QueryHarbor") B hw hZFEES (by decide +kernel) dX1_scanCost_13 ?_
  refine lv_iload_n hx hb dX1_scanCost_16 rfl (lv_at hl 0 rfl) ?_
  obtain ⟨g_3, hf⟩ := grd_e hf
  refine q_tab B hw hTFEES g_3 dX1_scanCost_17 ?_
  refine lv_aload_n hx hb dX1_scanCost_18 rfl (lv_at hl 1 rfl) ?_
  refine lv_iload_n hx hb dX1_scanCost_19 rfl (lv_at hl 2 rfl) ?_
  obtain ⟨r_5, h_4, hf⟩ := bd_e hf
  refine q_callVi (M' := M) (i := 120) (As := [.int p1]) (rest := [.int (fee x2_2.toNatClampNeg)]) B hw (c_X1_guessOf l X fu p1 M r_5 h_4 _) cv_X1_77 (rc_1 B hw rfl) rfl hl.1 rfl rfl ⟨Nat.le_of_ble_eq_true rfl, Nat.le_of_ble_eq_true rfl⟩ (Nat.le_of_ble_eq_true rfl) ⟨Nat.le_of_ble_eq_true rfl, Nat.le_of_ble_eq_true rfl⟩ dX1_scanCost_20 rfl (fun H locs hw => ?_)
  refine q_stat (own := RX1) (host := "QueryHarbor") B hw hZFREIGHTS (by decide +kernel) dX1_scanCost_23 ?_
  refine lv_iload_n hx hb dX1_scanCost_26 rfl (lv_at hl 0 rfl) ?_
  refine q_tab B hw hTFREIGHTS g_3 dX1_scanCost_27 ?_
  refine lv_imul hx hb dX1_scanCost_28 ?_
  refine lv_iadd hx hb dX1_scanCost_29 ?_
  cases hf
  subst hQ
  exact q_iret B hr hlk hw rfl rfl dX1_scanCost_30
abbrev rm_X1_isKey : Room := { frames := 0, cells := 0, slots := 0, locals := 0 }
set_option maxRecDepth 100000 in
set_option maxHeartbeats 4000000 in
theorem c_X1_isKey (l : Launch) (X : XT) (fu : Nat) (p1 : Int32) (p2 : Int32) (p3 : Int32) (M : Mem)  (rs : Int32) (hf : f_X1_isKey fu p1 p2 p3 M = some rs) (sz : Nat) : Met l yX1_isKey (wbig yX1_isKey cX1_isKey 5 (some .boolean)) rm_X1_isKey (va_Pc [.ref (X.2.2 120), .int p1, .int p2, .int p3] (PW LC X M sz)) (QI LC X M rs sz) 0 0 (AX LC X sz) := by
  refine met_go (L := LC) (M := M) (by decide +kernel) (Nat.le_of_ble_eq_true rfl) ?_
  intro p e s m args below meth c hsz B hr hlk hw ls hl
  subst hsz
  have hx := B.hx
  have hb := B.hb
  have hl : lv_has ls 5 [(0, .ref (X.2.2 120)), (1, .int p1), (2, .int p2), (3, .int p3)] := hl
  generalize hQ : MQ below _ args s 0 0 (AX LC X s.heap.size) = Q
  unfold f_X1_isKey at hf
  refine lv_iload_n hx hb dX1_isKey_0 rfl (lv_at hl 2 rfl) ?_
  refine lv_istore (lv' := [(4, .int p2), (0, .ref (X.2.2 120)), (1, .int p1), (2, .int p2), (3, .int p3)]) hx hb dX1_isKey_1 hl (by decide) rfl (fun ls hl => ?_)
  have hL_3 : ∀ (n_3 : Nat) (x4_1 : Int32) (H : Heap) (locs : List Loc) (ls : Array Slot), HW LC X M s H locs → lv_has ls 5 [(0, .ref (X.2.2 120)), (1, .int p1), (3, .int p3), (4, .int x4_1)] → f_X1_isKey_L3 fu p1 p3 M n_3 x4_1 = some rs → W p l e rm_X1_isKey s m args below meth c H locs 0 0 Q (F0 m 3 ls []) := by
    intro n_3
    induction n_3 with
    | zero => intro x4_1 H locs ls hw hl hf; exact no_none hf
    | succ n_3 ih_3 =>
      intro x4_1 H locs ls hw hl hf
      rw [f_X1_isKey_L3] at hf
      refine lv_iload hx hb dX1_isKey_3 (lv_at hl 3 rfl) ?_
      refine lv_iload_n hx hb dX1_isKey_5 rfl (lv_at hl 2 rfl) ?_
      refine lv_icmp_ge (tgt := 28) hx hb dX1_isKey_6 (by decide) (fun c_2 => ?_) (fun c_2 => ?_)
      · have hf := it_e hf c_2
        refine lv_iconst (v := 0) hx hb dX1_isKey_28 (by decide) ?_
        cases hf
        subst hQ
        exact q_zret B hr hlk rfl hw rfl rfl dX1_isKey_29
      · have hf := ie_e hf c_2
        refine lv_aload_n hx hb dX1_isKey_9 rfl (lv_at hl 0 rfl) ?_
        refine gt_X1_9 B hw (i := 120) rfl dX1_isKey_10 ?_
        refine lv_iload hx hb dX1_isKey_13 (lv_at hl 3 rfl) ?_
        obtain ⟨g_3, hf⟩ := grd_e hf
        refine c_iald B hw (i := 121) rfl g_3 dX1_isKey_15 ?_
        refine lv_iload_n hx hb dX1_isKey_16 rfl (lv_at hl 1 rfl) ?_
        refine lv_icmp_ne (tgt := 22) hx hb dX1_isKey_17 (by decide) (fun c_4 => ?_) (fun c_4 => ?_)
        · have hf := ie_e hf c_4
          refine r_iinc (v := (x4_1 + 1)) hx hb dX1_isKey_22 hl (k := 3) rfl rfl (by decide) hf (fun x4_5 ls hl hf => ?_)
          have hl : lv_has ls 5 [(4, .int x4_5), (0, .ref (X.2.2 120)), (1, .int p1), (3, .int p3)] := hl
          refine lv_goto (tgt := 3) hx hb dX1_isKey_25 (by decide) ?_
          exact ih_3 x4_5 _ _ _ hw (lv_sub hl [1, 2, 3, 0] rfl) hf
        · have hf := it_e hf c_4
          refine lv_iconst (v := 1) hx hb dX1_isKey_20 (by decide) ?_
          cases hf
          subst hQ
          exact q_zret B hr hlk rfl hw rfl rfl dX1_isKey_21
  exact hL_3 fu p2 _ _ _ hw (lv_sub hl [1, 2, 4, 0] rfl) hf
abbrev rm_X1_addKey : Room := { frames := 0, cells := 0, slots := 0, locals := 0 }
set_option maxRecDepth 100000 in
set_option maxHeartbeats 4000000 in
theorem c_X1_addKey (l : Launch) (X : XT) (fu : Nat) (p1 : Int32) (M : Mem)  (rs : Mem) (hf : f_X1_addKey fu p1 M = some rs) (sz : Nat) : Met l yX1_addKey (wbig yX1_addKey cX1_addKey 3 none) rm_X1_addKey (va_Pc [.ref (X.2.2 120), .int p1] (PW LC X M sz)) (QV LC X rs sz) 0 0 (AX LC X sz) := by
  refine met_go (L := LC) (M := M) (by decide +kernel) (Nat.le_of_ble_eq_true rfl) ?_
  intro p e s m args below meth c hsz B hr hlk hw ls hl
  subst hsz
  have hx := B.hx
  have hb := B.hb
  have hl : lv_has ls 3 [(0, .ref (X.2.2 120)), (1, .int p1)] := hl
  generalize hQ : MQ below _ args s 0 0 (AX LC X s.heap.size) = Q
  unfold f_X1_addKey at hf
  refine lv_aload_n hx hb dX1_addKey_0 rfl (lv_at hl 0 rfl) ?_
  refine gt_X1_191 B hw (i := 120) rfl dX1_addKey_1 ?_
  refine r_topn hf (fun x2_1 hf => ?_)
  refine lv_istore_n (lv' := [(2, .int x2_1), (0, .ref (X.2.2 120)), (1, .int p1)]) hx hb dX1_addKey_4 rfl hl (by decide) rfl (fun ls hl => ?_)
  refine jn_e hf (fun kk => ∀ (x2_3 : Int32) (M_4 : Mem) (H : Heap) (locs : List Loc) (ls : Array Slot), HW LC X M_4 s H locs → lv_has ls 3 [(0, .ref (X.2.2 120)), (1, .int p1), (2, .int x2_3)] → kk x2_3 M_4 = some rs → W p l e rm_X1_addKey s m args below meth c H locs 0 0 Q (F0 m 41 ls [])) ?_ (fun k41_2 J41_2 hf => ?_)
  · intro x2_3 M_4 H locs ls hw hl hf
    refine lv_aload_n hx hb dX1_addKey_41 rfl (lv_at hl 0 rfl) ?_
    refine gt_X1_9 B hw (i := 120) rfl dX1_addKey_42 ?_
    refine lv_iload_n hx hb dX1_addKey_45 rfl (lv_at hl 2 rfl) ?_
    refine lv_iload_n hx hb dX1_addKey_46 rfl (lv_at hl 1 rfl) ?_
    obtain ⟨g_5, hf⟩ := grd_e hf
    refine c_iast B hw (i := 121) rfl g_5 dX1_addKey_47 hf (fun M_6 H locs hw hf => ?_)
    refine lv_aload_n hx hb dX1_addKey_48 rfl (lv_at hl 0 rfl) ?_
    refine lv_dup hx hb dX1_addKey_49 rfl ?_
    refine gt_X1_191 B hw (i := 120) rfl dX1_addKey_50 ?_
    refine lv_iconst (v := 1) hx hb dX1_addKey_53 (by decide) ?_
    refine lv_iadd hx hb dX1_addKey_54 ?_
    refine pt_X1_191 B hw (i := 120) rfl dX1_addKey_55 hf (fun M_7 H locs hw hf => ?_)
    cases hf
    subst hQ
    exact q_vret B hr hlk hw rfl dX1_addKey_58
  have hL_5 : ∀ (n_5 : Nat) (x2_8 : Int32) (M_9 : Mem) (H : Heap) (locs : List Loc) (ls : Array Slot), HW LC X M_9 s H locs → lv_has ls 3 [(0, .ref (X.2.2 120)), (1, .int p1), (2, .int x2_8)] → f_X1_addKey_L5 fu p1 k41_2 n_5 x2_8 M_9 = some rs → W p l e rm_X1_addKey s m args below meth c H locs 0 0 Q (F0 m 5 ls []) := by
    intro n_5
    induction n_5 with
    | zero => intro x2_8 M_9 H locs ls hw hl hf; exact no_none hf
    | succ n_5 ih_5 =>
      intro x2_8 M_9 H locs ls hw hl hf
      rw [f_X1_addKey_L5] at hf
      refine lv_iload_n hx hb dX1_addKey_5 rfl (lv_at hl 2 rfl) ?_
      refine lv_if_le (tgt := 41) hx hb dX1_addKey_6 (by decide) (fun c_10 => ?_) (fun c_10 => ?_)
      · have hf := it_e hf c_10
        exact J41_2 x2_8 M_9 _ _ _ hw (lv_sub hl [0, 1, 2] rfl) hf
      · have hf := ie_e hf c_10
        refine lv_aload_n hx hb dX1_addKey_9 rfl (lv_at hl 0 rfl) ?_
        refine gt_X1_9 B hw (i := 120) rfl dX1_addKey_10 ?_
        refine lv_iload_n hx hb dX1_addKey_13 rfl (lv_at hl 2 rfl) ?_
        refine lv_iconst (v := 1) hx hb dX1_addKey_14 (by decide) ?_
        refine lv_isub hx hb dX1_addKey_15 ?_
        obtain ⟨g_11, hf⟩ := grd_e hf
        refine c_iald B hw (i := 121) rfl g_11 dX1_addKey_16 ?_
        refine lv_iload_n hx hb dX1_addKey_17 rfl (lv_at hl 1 rfl) ?_
        refine lv_icmp_le (tgt := 41) hx hb dX1_addKey_18 (by decide) (fun c_12 => ?_) (fun c_12 => ?_)
        · have hf := it_e hf c_12
          exact J41_2 x2_8 M_9 _ _ _ hw (lv_sub hl [0, 1, 2] rfl) hf
        · have hf := ie_e hf c_12
          refine lv_aload_n hx hb dX1_addKey_21 rfl (lv_at hl 0 rfl) ?_
          refine gt_X1_9 B hw (i := 120) rfl dX1_addKey_22 ?_
          refine lv_iload_n hx hb dX1_addKey_25 rfl (lv_at hl 2 rfl) ?_
          refine lv_aload_n hx hb dX1_addKey_26 rfl (lv_at hl 0 rfl) ?_
          refine gt_X1_9 B hw (i := 120) rfl dX1_addKey_27 ?_
          refine lv_iload_n hx hb dX1_addKey_30 rfl (lv_at hl 2 rfl) ?_
          refine lv_iconst (v := 1) hx hb dX1_addKey_31 (by decide) ?_
          refine lv_isub hx hb dX1_addKey_32 ?_
          refine c_iald B hw (i := 121) rfl g_11 dX1_addKey_33 ?_
          obtain ⟨g_13, hf⟩ := grd_e hf
          refine c_iast B hw (i := 121) rfl g_13 dX1_addKey_34 hf (fun M_14 H locs hw hf => ?_)
          refine r_iinc (v := (x2_8 + (-1))) hx hb dX1_addKey_35 hl (k := 2) rfl rfl (by decide) hf (fun x2_15 ls hl hf => ?_)
          have hl : lv_has ls 3 [(2, .int x2_15), (0, .ref (X.2.2 120)), (1, .int p1)] := hl
          refine lv_goto (tgt := 5) hx hb dX1_addKey_38 (by decide) ?_
          exact ih_5 x2_15 M_14 _ _ _ hw (lv_sub hl [1, 2, 0] rfl) hf
  exact hL_5 fu x2_1 M _ _ _ hw (lv_sub hl [1, 2, 0] rfl) hf
abbrev rm_X1_gatherKeys : Room := { frames := 2, cells := 0, slots := 0, locals := 44 }
set_option maxRecDepth 100000 in
set_option maxHeartbeats 4000000 in
theorem c_X1_gatherKeys (l : Launch) (X : XT) (fu : Nat) (p1 : Int32) (M : Mem)  (rs : Mem) (hf : f_X1_gatherKeys fu p1 M = some rs) (sz : Nat) : Met l yX1_gatherKeys (wbig yX1_gatherKeys cX1_gatherKeys 5 none) rm_X1_gatherKeys (va_Pc [.ref (X.2.2 120), .int p1] (PW LC X M sz)) (QV LC X rs sz) 0 0 (AX LC X sz) := by
  refine met_go (L := LC) (M := M) (by decide +kernel) (Nat.le_of_ble_eq_true rfl) ?_
  intro p e s m args below meth c hsz B hr hlk hw ls hl
  subst hsz
  have hx := B.hx
  have hb := B.hb
  have hl : lv_has ls 5 [(0, .ref (X.2.2 120)), (1, .int p1)] := hl
  generalize hQ : MQ below _ args s 0 0 (AX LC X s.heap.size) = Q
  unfold f_X1_gatherKeys at hf
  refine lv_aload_n hx hb dX1_gatherKeys_0 rfl (lv_at hl 0 rfl) ?_
  refine gt_X1_31 B hw (i := 120) rfl dX1_gatherKeys_1 ?_
  refine gt_X1_88 B hw (i := 90) rfl dX1_gatherKeys_4 ?_
  refine lv_aload_n hx hb dX1_gatherKeys_7 rfl (lv_at hl 0 rfl) ?_
  refine gt_X1_27 B hw (i := 120) rfl dX1_gatherKeys_8 ?_
  refine gt_X1_172 B hw (i := 80) rfl dX1_gatherKeys_11 ?_
  refine lv_iload_n hx hb dX1_gatherKeys_14 rfl (lv_at hl 1 rfl) ?_
  obtain ⟨g_1, hf⟩ := grd_e hf
  refine c_iald B hw (i := 82) rfl g_1 dX1_gatherKeys_15 ?_
  obtain ⟨g_2, hf⟩ := grd_e hf
  refine c_aldR B hw (i := 95) rfl g_2 dX1_gatherKeys_16 ?_
  refine r_topk (kV rfl g_2) hf (fun a_3 ha_3 hf => ?_)
  refine lv_astore_n (lv' := [(2, .ref (X.2.2 a_3)), (0, .ref (X.2.2 120)), (1, .int p1)]) hx hb dX1_gatherKeys_17 rfl hl (by decide) rfl (fun ls hl => ?_)
  refine lv_aload_n hx hb dX1_gatherKeys_18 rfl (lv_at hl 1 rfl) ?_
  refine lv_iconst (v := 0) hx hb dX1_gatherKeys_19 (by decide) ?_
  refine pt_X1_191 B hw (i := 120) rfl dX1_gatherKeys_20 hf (fun M_4 H locs hw hf => ?_)
  refine lv_iconst (v := 0) hx hb dX1_gatherKeys_23 (by decide) ?_
  refine lv_istore_n (lv' := [(3, .int 0), (2, .ref (X.2.2 a_3)), (0, .ref (X.2.2 120)), (1, .int p1)]) hx hb dX1_gatherKeys_24 rfl hl (by decide) rfl (fun ls hl => ?_)
  have hL_25 : ∀ (n_25 : Nat) (x3_5 : Int32) (M_6 : Mem) (H : Heap) (locs : List Loc) (ls : Array Slot), HW LC X M_6 s H locs → lv_has ls 5 [(0, .ref (X.2.2 120)), (1, .int p1), (2, .ref (X.2.2 a_3)), (3, .int x3_5)] → f_X1_gatherKeys_L25 fu p1 a_3 n_25 x3_5 M_6 = some rs → W p l e rm_X1_gatherKeys s m args below meth c H locs 0 0 Q (F0 m 25 ls []) := by
    intro n_25
    induction n_25 with
    | zero => intro x3_5 M_6 H locs ls hw hl hf; exact no_none hf
    | succ n_25 ih_25 =>
      intro x3_5 M_6 H locs ls hw hl hf
      rw [f_X1_gatherKeys_L25] at hf
      refine lv_iload_n hx hb dX1_gatherKeys_25 rfl (lv_at hl 3 rfl) ?_
      refine lv_aload_n hx hb dX1_gatherKeys_26 rfl (lv_at hl 2 rfl) ?_
      refine gt_X1_200 B hw (i := a_3) ha_3 dX1_gatherKeys_27 ?_
      refine lv_icmp_ge (tgt := 83) hx hb dX1_gatherKeys_30 (by decide) (fun c_7 => ?_) (fun c_7 => ?_)
      · have hf := it_e hf c_7
        cases hf
        subst hQ
        exact q_vret B hr hlk hw rfl dX1_gatherKeys_83
      · have hf := ie_e hf c_7
        refine lv_aload_n hx hb dX1_gatherKeys_33 rfl (lv_at hl 2 rfl) ?_
        refine lv_iload_n hx hb dX1_gatherKeys_34 rfl (lv_at hl 3 rfl) ?_
        refine lv_aload_n hx hb dX1_gatherKeys_35 rfl (lv_at hl 0 rfl) ?_
        refine gt_X1_27 B hw (i := 120) rfl dX1_gatherKeys_36 ?_
        refine gt_X1_134 B hw (i := 80) rfl dX1_gatherKeys_39 ?_
        refine lv_iload_n hx hb dX1_gatherKeys_42 rfl (lv_at hl 1 rfl) ?_
        obtain ⟨g_8, hf⟩ := grd_e hf
        refine c_iald B hw (i := 83) rfl g_8 dX1_gatherKeys_43 ?_
        obtain ⟨r_10, h_9, hf⟩ := bd_e hf
        refine q_callVi (M' := M_6) (i := a_3) (As := [.int x3_5, .int (M_6 83 p1.toNatClampNeg)]) (rest := []) B hw (c_X6_cellAt l X fu a_3 x3_5 (M_6 83 p1.toNatClampNeg) M_6 ha_3 r_10 h_9 _) cv_X1_203 (rc_6 B hw ha_3) rfl hl.1 rfl rfl ⟨Nat.le_of_ble_eq_true rfl, Nat.le_of_ble_eq_true rfl⟩ (Nat.le_of_ble_eq_true rfl) ⟨Nat.le_of_ble_eq_true rfl, Nat.le_of_ble_eq_true rfl⟩ dX1_gatherKeys_44 rfl (fun H locs hw => ?_)
        refine lv_istore (lv' := [(4, .int r_10), (0, .ref (X.2.2 120)), (1, .int p1), (2, .ref (X.2.2 a_3)), (3, .int x3_5)]) hx hb dX1_gatherKeys_47 hl (by decide) rfl (fun ls hl => ?_)
        refine lv_iload hx hb dX1_gatherKeys_49 (lv_at hl 0 rfl) ?_
        refine q_callNi (M' := M_6) (As := [.int r_10]) (rest := []) B hw (c_X10_isNumber l X r_10 _ rfl M_6 _) cn_X1_206 rfl hl.1 rfl rfl ⟨Nat.le_of_ble_eq_true rfl, Nat.le_of_ble_eq_true rfl⟩ (Nat.le_of_ble_eq_true rfl) ⟨Nat.le_of_ble_eq_true rfl, Nat.le_of_ble_eq_true rfl⟩ dX1_gatherKeys_51 rfl (fun H locs hw => ?_)
        refine lv_if_eq (tgt := 77) hx hb dX1_gatherKeys_54 (by decide) (fun c_11 => ?_) (fun c_11 => ?_)
        · have hf := it_e hf c_11
          refine r_iinc (v := (x3_5 + 1)) hx hb dX1_gatherKeys_77 hl (k := 4) rfl rfl (by decide) hf (fun x3_12 ls hl hf => ?_)
          have hl : lv_has ls 5 [(3, .int x3_12), (4, .int r_10), (0, .ref (X.2.2 120)), (1, .int p1), (2, .ref (X.2.2 a_3))] := hl
          refine lv_goto (tgt := 25) hx hb dX1_gatherKeys_80 (by decide) ?_
          exact ih_25 x3_12 M_6 _ _ _ hw (lv_sub hl [2, 3, 4, 0] rfl) hf
        · have hf := ie_e hf c_11
          refine lv_aload_n hx hb dX1_gatherKeys_57 rfl (lv_at hl 1 rfl) ?_
          refine lv_iload hx hb dX1_gatherKeys_58 (lv_at hl 0 rfl) ?_
          refine lv_iconst (v := 0) hx hb dX1_gatherKeys_60 (by decide) ?_
          refine lv_aload_n hx hb dX1_gatherKeys_61 rfl (lv_at hl 1 rfl) ?_
          refine gt_X1_191 B hw (i := 120) rfl dX1_gatherKeys_62 ?_
          obtain ⟨r_14, h_13, hf⟩ := bd_e hf
          refine q_callVi (M' := M_6) (i := 120) (As := [.int r_10, .int 0, .int (M_6 120 6)]) (rest := []) B hw (c_X1_isKey l X fu r_10 0 (M_6 120 6) M_6 r_14 h_13 _) cv_X1_209 (rc_1 B hw rfl) rfl hl.1 rfl rfl ⟨Nat.le_of_ble_eq_true rfl, Nat.le_of_ble_eq_true rfl⟩ (Nat.le_of_ble_eq_true rfl) ⟨Nat.le_of_ble_eq_true rfl, Nat.le_of_ble_eq_true rfl⟩ dX1_gatherKeys_65 rfl (fun H locs hw => ?_)
          refine lv_if_ne (tgt := 77) hx hb dX1_gatherKeys_68 (by decide) (fun c_15 => ?_) (fun c_15 => ?_)
          · have hf := ie_e hf c_15
            refine r_iinc (v := (x3_5 + 1)) hx hb dX1_gatherKeys_77 hl (k := 4) rfl rfl (by decide) hf (fun x3_16 ls hl hf => ?_)
            have hl : lv_has ls 5 [(3, .int x3_16), (4, .int r_10), (0, .ref (X.2.2 120)), (1, .int p1), (2, .ref (X.2.2 a_3))] := hl
            refine lv_goto (tgt := 25) hx hb dX1_gatherKeys_80 (by decide) ?_
            exact ih_25 x3_16 M_6 _ _ _ hw (lv_sub hl [2, 3, 4, 0] rfl) hf
          · have hf := it_e hf c_15
            refine lv_aload_n hx hb dX1_gatherKeys_71 rfl (lv_at hl 1 rfl) ?_
            refine lv_iload hx hb dX1_gatherKeys_72 (lv_at hl 0 rfl) ?_
            obtain ⟨M_18, h_17, hf⟩ := bd_e hf
            refine q_callVv (M' := M_18) (i := 120) (As := [.int r_10]) (rest := []) B hw (c_X1_addKey l X fu r_10 M_6 M_18 h_17 _) cv_X1_212 (rc_1 B hw rfl) rfl hl.1 rfl rfl ⟨Nat.le_of_ble_eq_true rfl, Nat.le_of_ble_eq_true rfl⟩ (Nat.le_of_ble_eq_true rfl) ⟨Nat.le_of_ble_eq_true rfl, Nat.le_of_ble_eq_true rfl⟩ dX1_gatherKeys_74 rfl (fun H locs hw => ?_)
            refine r_iinc (v := (x3_5 + 1)) hx hb dX1_gatherKeys_77 hl (k := 4) rfl rfl (by decide) hf (fun x3_19 ls hl hf => ?_)
            have hl : lv_has ls 5 [(3, .int x3_19), (4, .int r_10), (0, .ref (X.2.2 120)), (1, .int p1), (2, .ref (X.2.2 a_3))] := hl
            refine lv_goto (tgt := 25) hx hb dX1_gatherKeys_80 (by decide) ?_
            exact ih_25 x3_19 M_18 _ _ _ hw (lv_sub hl [2, 3, 4, 0] rfl) hf
  exact hL_25 fu 0 M_4 _ _ _ hw (lv_sub hl [2, 3, 1, 0] rfl) hf
abbrev rm_X1_bindCost : Room := { frames := 0, cells := 0, slots := 0, locals := 0 }
set_option maxRecDepth 100000 in
set_option maxHeartbeats 4000000 in
theorem c_X1_bindCost (l : Launch) (X : XT) (fu : Nat) (p1 : Int32) (M : Mem)  (rs : Int32) (hf : f_X1_bindCost fu p1 M = some rs) (sz : Nat) : Met l yX1_bindCost (wbig yX1_bindCost cX1_bindCost 3 (some .int)) rm_X1_bindCost (va_Pc [.ref (X.2.2 120), .int p1] (PW LC X M sz)) (QI LC X M rs sz) 0 0 (AX LC X sz) := by
  refine met_go (L := LC) (M := M) (by decide +kernel) (Nat.le_of_ble_eq_true rfl) ?_
  intro p e s m args below meth c hsz B hr hlk hw ls hl
  subst hsz
  have hx := B.hx
  have hb := B.hb
  obtain ⟨zFEES, zFREIGHTS, hZFEES, hTFEES, hZFREIGHTS, hTFREIGHTS⟩ := B.hN.2.2
  have hl : lv_has ls 3 [(0, .ref (X.2.2 120)), (1, .int p1)] := hl
  generalize hQ : MQ below _ args s 0 0 (AX LC X s.heap.size) = Q
  unfold f_X1_bindCost at hf
  refine lv_aload_n hx hb dX1_bindCost_0 rfl (lv_at hl 0 rfl) ?_
  refine gt_X1_191 B hw (i := 120) rfl dX1_bindCost_1 ?_
  refine lv_iconst (v := 4) hx hb dX1_bindCost_4 (by decide) ?_
  refine lv_iadd hx hb dX1_bindCost_5 ?_
  refine lv_iconst (v := 1) hx hb dX1_bindCost_6 (by decide) ?_
  refine lv_isub hx hb dX1_bindCost_7 ?_
  refine lv_iconst (v := 4) hx hb dX1_bindCost_8 (by decide) ?_
  refine lv_idiv hx hb dX1_bindCost_9 (by decide) ?_
  refine r_topn hf (fun x2_1 hf => ?_)
  refine lv_istore_n (lv' := [(2, .int x2_1), (0, .ref (X.2.2 120)), (1, .int p1)]) hx hb dX1_bindCost_10 rfl hl (by decide) rfl (fun ls hl => ?_)
  refine lv_iload_n hx hb dX1_bindCost_11 rfl (lv_at hl 0 rfl) ?_
  refine q_stat (own := RX1) (host := "QueryHarbor") B hw hZFEES (by decide +kernel) dX1_bindCost_12 ?_
  refine lv_iload_n hx hb dX1_bindCost_15 rfl (lv_at hl 2 rfl) ?_
  obtain ⟨g_2, hf⟩ := grd_e hf
  refine q_tab B hw hTFEES g_2 dX1_bindCost_16 ?_
  refine lv_imul hx hb dX1_bindCost_17 ?_
  refine lv_aload_n hx hb dX1_bindCost_18 rfl (lv_at hl 1 rfl) ?_
  refine gt_X1_191 B hw (i := 120) rfl dX1_bindCost_19 ?_
  refine q_stat (own := RX1) (host := "QueryHarbor") B hw hZFREIGHTS (by decide +kernel) dX1_bindCost_22 ?_
  refine lv_iload_n hx hb dX1_bindCost_25 rfl (lv_at hl 2 rfl) ?_
  refine q_tab B hw hTFREIGHTS g_2 dX1_bindCost_26 ?_
  refine lv_imul hx hb dX1_bindCost_27 ?_
  refine lv_iadd hx hb dX1_bindCost_28 ?_
  cases hf
  subst hQ
  exact q_iret B hr hlk hw rfl rfl dX1_bindCost_29
abbrev rm_X3_sweep : Room := { frames := 0, cells := 0, slots := 0, locals := 0 }
set_option maxRecDepth 100000 in
set_option maxHeartbeats 4000000 in
theorem c_X3_sweep (l : Launch) (X : XT) (fu : Nat) (M : Mem)  (rs : Mem) (hf : f_X3_sweep fu M = some rs) (sz : Nat) : Met l yX3_sweep (wbig yX3_sweep cX3_sweep 4 none) rm_X3_sweep (va_Pc [.ref (X.2.2 2)] (PW LC X M sz)) (QV LC X rs sz) 0 0 (AX LC X sz) := by
  refine met_go (L := LC) (M := M) (by decide +kernel) (Nat.le_of_ble_eq_true rfl) ?_
  intro p e s m args below meth c hsz B hr hlk hw ls hl
  subst hsz
  have hx := B.hx
  have hb := B.hb
  have hl : lv_has ls 4 [(0, .ref (X.2.2 2))] := hl
  generalize hQ : MQ below _ args s 0 0 (AX LC X s.heap.size) = Q
  unfold f_X3_sweep at hf
  refine lv_iconst (v := 0) hx hb dX3_sweep_0 (by decide) ?_
  refine lv_istore_n (lv' := [(1, .int 0), (0, .ref (X.2.2 2))]) hx hb dX3_sweep_1 rfl hl (by decide) rfl (fun ls hl => ?_)
  refine lv_iconst (v := 0) hx hb dX3_sweep_2 (by decide) ?_
  refine lv_istore_n (lv' := [(2, .int 0), (1, .int 0), (0, .ref (X.2.2 2))]) hx hb dX3_sweep_3 rfl hl (by decide) rfl (fun ls hl => ?_)
  refine jn_e hf (fun kk => ∀ (x1_2 : Int32) (M_3 : Mem) (H : Heap) (locs : List Loc) (ls : Array Slot), HW LC X M_3 s H locs → lv_has ls 4 [(0, .ref (X.2.2 2)), (1, .int x1_2)] → kk x1_2 M_3 = some rs → W p l e rm_X3_sweep s m args below meth c H locs 0 0 Q (F0 m 85 ls [])) ?_ (fun k85_1 J85_1 hf => ?_)
  · intro x1_2 M_3 H locs ls hw hl hf
    refine lv_aload_n hx hb dX3_sweep_85 rfl (lv_at hl 0 rfl) ?_
    refine lv_iload_n hx hb dX3_sweep_86 rfl (lv_at hl 1 rfl) ?_
    refine pt_X3_29 B hw (i := 2) rfl dX3_sweep_87 hf (fun M_4 H locs hw hf => ?_)
    cases hf
    subst hQ
    exact q_vret B hr hlk hw rfl dX3_sweep_90
  have hL_4 : ∀ (n_4 : Nat) (x1_5 : Int32) (x2_6 : Int32) (M_7 : Mem) (H : Heap) (locs : List Loc) (ls : Array Slot), HW LC X M_7 s H locs → lv_has ls 4 [(0, .ref (X.2.2 2)), (1, .int x1_5), (2, .int x2_6)] → f_X3_sweep_L4 fu k85_1 n_4 x1_5 x2_6 M_7 = some rs → W p l e rm_X3_sweep s m args below meth c H locs 0 0 Q (F0 m 4 ls []) := by
    intro n_4
    induction n_4 with
    | zero => intro x1_5 x2_6 M_7 H locs ls hw hl hf; exact no_none hf
    | succ n_4 ih_4 =>
      intro x1_5 x2_6 M_7 H locs ls hw hl hf
      rw [f_X3_sweep_L4] at hf
      refine lv_iload_n hx hb dX3_sweep_4 rfl (lv_at hl 2 rfl) ?_
      refine lv_aload_n hx hb dX3_sweep_5 rfl (lv_at hl 0 rfl) ?_
      refine gt_X3_29 B hw (i := 2) rfl dX3_sweep_6 ?_
      refine lv_icmp_ge (tgt := 85) hx hb dX3_sweep_9 (by decide) (fun c_8 => ?_) (fun c_8 => ?_)
      · have hf := it_e hf c_8
        exact J85_1 x1_5 M_7 _ _ _ hw (lv_sub hl [0, 1] rfl) hf
      · have hf := ie_e hf c_8
        refine lv_aload_n hx hb dX3_sweep_12 rfl (lv_at hl 0 rfl) ?_
        refine gt_X3_11 B hw (i := 2) rfl dX3_sweep_13 ?_
        refine lv_iload_n hx hb dX3_sweep_16 rfl (lv_at hl 2 rfl) ?_
        obtain ⟨g_9, hf⟩ := grd_e hf
        refine c_aldE B hw (i := 3) rfl g_9 dX3_sweep_17 ?_
        refine r_topr hf (fun e_10 hf => ?_)
        obtain ⟨he_10, hf⟩ := grd_e hf
        have he_10 := kb_e he_10
        refine lv_astore_n (lv' := [(3, .ref (X.2.2 e_10)), (0, .ref (X.2.2 2)), (1, .int x1_5), (2, .int x2_6)]) hx hb dX3_sweep_18 rfl hl (by decide) rfl (fun ls hl => ?_)
        refine lv_aload_n hx hb dX3_sweep_19 rfl (lv_at hl 0 rfl) ?_
        refine gt_X3_33 B hw (i := e_10) he_10 dX3_sweep_20 ?_
        refine lv_aload_n hx hb dX3_sweep_23 rfl (lv_at hl 1 rfl) ?_
        refine gt_X3_24 B hw (i := 2) rfl dX3_sweep_24 ?_
        refine gt_X3_36 B hw (i := 1) rfl dX3_sweep_27 ?_
        refine lv_icmp_le (tgt := 79) hx hb dX3_sweep_30 (by decide) (fun c_11 => ?_) (fun c_11 => ?_)
        · have hf := it_e hf c_11
          refine r_iinc (v := (x2_6 + 1)) hx hb dX3_sweep_79 hl (k := 3) rfl rfl (by decide) hf (fun x2_12 ls hl hf => ?_)
          have hl : lv_has ls 4 [(2, .int x2_12), (3, .ref (X.2.2 e_10)), (0, .ref (X.2.2 2)), (1, .int x1_5)] := hl
          refine lv_goto (tgt := 4) hx hb dX3_sweep_82 (by decide) ?_
          exact ih_4 x1_5 x2_12 M_7 _ _ _ hw (lv_sub hl [2, 3, 0] rfl) hf
        · have hf := ie_e hf c_11
          refine lv_aload_n hx hb dX3_sweep_33 rfl (lv_at hl 1 rfl) ?_
          refine gt_X3_24 B hw (i := 2) rfl dX3_sweep_34 ?_
          refine gt_X3_36 B hw (i := 1) rfl dX3_sweep_37 ?_
          refine lv_aload_n hx hb dX3_sweep_40 rfl (lv_at hl 0 rfl) ?_
          refine gt_X3_41 B hw (i := e_10) he_10 dX3_sweep_41 ?_
          refine lv_isub hx hb dX3_sweep_44 ?_
          refine lv_aload_n hx hb dX3_sweep_45 rfl (lv_at hl 1 rfl) ?_
          refine gt_X3_21 B hw (i := 2) rfl dX3_sweep_46 ?_
          refine lv_aload_n hx hb dX3_sweep_49 rfl (lv_at hl 0 rfl) ?_
          refine gt_X3_44 B hw (i := e_10) he_10 dX3_sweep_50 ?_
          obtain ⟨g_13, hf⟩ := grd_e hf
          refine c_iald B hw (i := 5) rfl g_13 dX3_sweep_53 ?_
          refine lv_icmp_gt (tgt := 79) hx hb dX3_sweep_54 (by decide) (fun c_14 => ?_) (fun c_14 => ?_)
          · have hf := it_e hf c_14
            refine r_iinc (v := (x2_6 + 1)) hx hb dX3_sweep_79 hl (k := 3) rfl rfl (by decide) hf (fun x2_15 ls hl hf => ?_)
            have hl : lv_has ls 4 [(2, .int x2_15), (3, .ref (X.2.2 e_10)), (0, .ref (X.2.2 2)), (1, .int x1_5)] := hl
            refine lv_goto (tgt := 4) hx hb dX3_sweep_82 (by decide) ?_
            exact ih_4 x1_5 x2_15 M_7 _ _ _ hw (lv_sub hl [2, 3, 0] rfl) hf
          · have hf := ie_e hf c_14
            refine lv_aload_n hx hb dX3_sweep_57 rfl (lv_at hl 1 rfl) ?_
            refine gt_X3_11 B hw (i := 2) rfl dX3_sweep_58 ?_
            refine lv_iload_n hx hb dX3_sweep_61 rfl (lv_at hl 3 rfl) ?_
            refine lv_aload_n hx hb dX3_sweep_62 rfl (lv_at hl 1 rfl) ?_
            refine gt_X3_11 B hw (i := 2) rfl dX3_sweep_63 ?_
            refine lv_iload_n hx hb dX3_sweep_66 rfl (lv_at hl 2 rfl) ?_
            obtain ⟨g_16, hf⟩ := grd_e hf
            refine c_aldE B hw (i := 3) rfl g_16 dX3_sweep_67 ?_
            refine r_topr hf (fun e_17 hf => ?_)
            obtain ⟨he_17, hf⟩ := grd_e hf
            have he_17 := kb_e he_17
            refine c_astE B hw (i := 3) (v := e_17) rfl he_17 g_9 dX3_sweep_68 hf (fun M_18 H locs hw hf => ?_)
            refine lv_aload_n hx hb dX3_sweep_69 rfl (lv_at hl 1 rfl) ?_
            refine gt_X3_11 B hw (i := 2) rfl dX3_sweep_70 ?_
            refine lv_iload_n hx hb dX3_sweep_73 rfl (lv_at hl 2 rfl) ?_
            refine lv_aload_n hx hb dX3_sweep_74 rfl (lv_at hl 0 rfl) ?_
            refine c_astE B hw (i := 3) (v := e_10) rfl he_10 g_16 dX3_sweep_75 hf (fun M_19 H locs hw hf => ?_)
            refine r_iinc (v := (x1_5 + 1)) hx hb dX3_sweep_76 hl (k := 2) rfl rfl (by decide) hf (fun x1_20 ls hl hf => ?_)
            have hl : lv_has ls 4 [(1, .int x1_20), (3, .ref (X.2.2 e_10)), (0, .ref (X.2.2 2)), (2, .int x2_6)] := hl
            refine r_iinc (v := (x2_6 + 1)) hx hb dX3_sweep_79 hl (k := 3) rfl rfl (by decide) hf (fun x2_21 ls hl hf => ?_)
            have hl : lv_has ls 4 [(2, .int x2_21), (1, .int x1_20), (3, .ref (X.2.2 e_10)), (0, .ref (X.2.2 2))] := hl
            refine lv_goto (tgt := 4) hx hb dX3_sweep_82 (by decide) ?_
            exact ih_4 x1_20 x2_21 M_19 _ _ _ hw (lv_sub hl [3, 1, 0] rfl) hf
  exact hL_4 fu 0 0 M _ _ _ hw (lv_sub hl [2, 1, 0] rfl) hf
abbrev rm_X8_goOnTo : Room := { frames := 1, cells := 0, slots := 0, locals := 23 }
set_option maxRecDepth 100000 in
set_option maxHeartbeats 4000000 in
theorem c_X8_goOnTo (l : Launch) (X : XT) (fu : Nat) (p1 : Int32) (M : Mem)  (rs : Mem) (hf : f_X8_goOnTo fu p1 M = some rs) (sz : Nat) : Met l yX8_goOnTo (wbig yX8_goOnTo cX8_goOnTo 2 none) rm_X8_goOnTo (va_Pc [.ref (X.2.2 48), .int p1] (PW LC X M sz)) (QV LC X rs sz) 0 0 (AX LC X sz) := by
  refine met_go (L := LC) (M := M) (by decide +kernel) (Nat.le_of_ble_eq_true rfl) ?_
  intro p e s m args below meth c hsz B hr hlk hw ls hl
  subst hsz
  have hx := B.hx
  have hb := B.hb
  have hl : lv_has ls 2 [(0, .ref (X.2.2 48)), (1, .int p1)] := hl
  generalize hQ : MQ below _ args s 0 0 (AX LC X s.heap.size) = Q
  unfold f_X8_goOnTo at hf
  refine lv_aload_n hx hb dX8_goOnTo_0 rfl (lv_at hl 0 rfl) ?_
  refine gt_X8_37 B hw (i := 48) rfl dX8_goOnTo_1 ?_
  refine lv_iload_n hx hb dX8_goOnTo_4 rfl (lv_at hl 1 rfl) ?_
  refine pt_X8_45 B hw (i := 1) rfl dX8_goOnTo_5 hf (fun M_1 H locs hw hf => ?_)
  refine lv_aload_n hx hb dX8_goOnTo_8 rfl (lv_at hl 0 rfl) ?_
  refine gt_X8_41 B hw (i := 48) rfl dX8_goOnTo_9 ?_
  obtain ⟨M_3, h_2, hf⟩ := bd_e hf
  refine q_callVv (M' := M_3) (i := 2) (As := []) (rest := []) B hw (c_X3_sweep l X fu M_1 M_3 h_2 _) cv_X8_51 (rc_3 B hw rfl) rfl hl.1 rfl rfl ⟨Nat.le_of_ble_eq_true rfl, Nat.le_of_ble_eq_true rfl⟩ (Nat.le_of_ble_eq_true rfl) ⟨Nat.le_of_ble_eq_true rfl, Nat.le_of_ble_eq_true rfl⟩ dX8_goOnTo_12 rfl (fun H locs hw => ?_)
  cases hf
  subst hQ
  exact q_vret B hr hlk hw rfl dX8_goOnTo_15
abbrev rm_X8_awaitQuota : Room := { frames := 2, cells := 0, slots := 0, locals := 44 }
set_option maxRecDepth 100000 in
set_option maxHeartbeats 4000000 in
theorem c_X8_awaitQuota (l : Launch) (X : XT) (fu : Nat) (p1 : Int32) (M : Mem)  (rs : Mem) (hf : f_X8_awaitQuota fu p1 M = some rs) (sz : Nat) : Met l yX8_awaitQuota (wbig yX8_awaitQuota cX8_awaitQuota 3 none) rm_X8_awaitQuota (va_Pc [.ref (X.2.2 48), .int p1] (PW LC X M sz)) (QV LC X rs sz) 0 0 (AX LC X sz) := by
  refine met_go (L := LC) (M := M) (by decide +kernel) (Nat.le_of_ble_eq_true rfl) ?_
  intro p e s m args below meth c hsz B hr hlk hw ls hl
  subst hsz
  have hx := B.hx
  have hb := B.hb
  have hl : lv_has ls 3 [(0, .ref (X.2.2 48)), (1, .int p1)] := hl
  generalize hQ : MQ below _ args s 0 0 (AX LC X s.heap.size) = Q
  unfold f_X8_awaitQuota at hf
  refine lv_aload_n hx hb dX8_awaitQuota_0 rfl (lv_at hl 0 rfl) ?_
  refine gt_X8_37 B hw (i := 48) rfl dX8_awaitQuota_1 ?_
  refine gt_X8_45 B hw (i := 1) rfl dX8_awaitQuota_4 ?_
  refine lv_bipush (v := 10) hx hb dX8_awaitQuota_7 (by decide) ?_
  refine lv_idiv hx hb dX8_awaitQuota_9 (by decide) ?_
  refine r_topn hf (fun x2_1 hf => ?_)
  refine lv_istore_n (lv' := [(2, .int x2_1), (0, .ref (X.2.2 48)), (1, .int p1)]) hx hb dX8_awaitQuota_10 rfl hl (by decide) rfl (fun ls hl => ?_)
  refine lv_aload_n hx hb dX8_awaitQuota_11 rfl (lv_at hl 1 rfl) ?_
  refine gt_X8_31 B hw (i := 48) rfl dX8_awaitQuota_12 ?_
  refine lv_iload_n hx hb dX8_awaitQuota_15 rfl (lv_at hl 2 rfl) ?_
  obtain ⟨g_2, hf⟩ := grd_e hf
  refine c_iald B hw (i := 55) rfl g_2 dX8_awaitQuota_16 ?_
  refine lv_iload_n hx hb dX8_awaitQuota_17 rfl (lv_at hl 0 rfl) ?_
  refine lv_icmp_ne (tgt := 46) hx hb dX8_awaitQuota_18 (by decide) (fun c_3 => ?_) (fun c_3 => ?_)
  · have hf := ie_e hf c_3
    cases hf
    subst hQ
    exact q_vret B hr hlk hw rfl dX8_awaitQuota_46
  · have hf := it_e hf c_3
    refine lv_aload_n hx hb dX8_awaitQuota_21 rfl (lv_at hl 1 rfl) ?_
    refine gt_X8_34 B hw (i := 48) rfl dX8_awaitQuota_22 ?_
    refine lv_iload_n hx hb dX8_awaitQuota_25 rfl (lv_at hl 2 rfl) ?_
    refine c_iald B hw (i := 56) rfl g_2 dX8_awaitQuota_26 ?_
    refine lv_aload_n hx hb dX8_awaitQuota_27 rfl (lv_at hl 1 rfl) ?_
    refine gt_X8_15 B hw (i := 48) rfl dX8_awaitQuota_28 ?_
    refine lv_iload_n hx hb dX8_awaitQuota_31 rfl (lv_at hl 2 rfl) ?_
    refine c_iald B hw (i := 50) rfl g_2 dX8_awaitQuota_32 ?_
    refine lv_icmp_lt (tgt := 46) hx hb dX8_awaitQuota_33 (by decide) (fun c_4 => ?_) (fun c_4 => ?_)
    · have hf := it_e hf c_4
      cases hf
      subst hQ
      exact q_vret B hr hlk hw rfl dX8_awaitQuota_46
    · have hf := ie_e hf c_4
      refine lv_aload_n hx hb dX8_awaitQuota_36 rfl (lv_at hl 1 rfl) ?_
      refine lv_iload_n hx hb dX8_awaitQuota_37 rfl (lv_at hl 0 rfl) ?_
      refine lv_iconst (v := 1) hx hb dX8_awaitQuota_38 (by decide) ?_
      refine lv_iadd hx hb dX8_awaitQuota_39 ?_
      refine lv_bipush (v := 10) hx hb dX8_awaitQuota_40 (by decide) ?_
      refine lv_imul hx hb dX8_awaitQuota_42 ?_
      obtain ⟨M_6, h_5, hf⟩ := bd_e hf
      refine q_callVv (M' := M_6) (i := 48) (As := [.int ((x2_1 + 1) * 10)]) (rest := []) B hw (c_X8_goOnTo l X fu ((x2_1 + 1) * 10) M M_6 h_5 _) cv_X8_56 (rc_8 B hw rfl) rfl hl.1 rfl rfl ⟨Nat.le_of_ble_eq_true rfl, Nat.le_of_ble_eq_true rfl⟩ (Nat.le_of_ble_eq_true rfl) ⟨Nat.le_of_ble_eq_true rfl, Nat.le_of_ble_eq_true rfl⟩ dX8_awaitQuota_43 rfl (fun H locs hw => ?_)
      cases hf
      subst hQ
      exact q_vret B hr hlk hw rfl dX8_awaitQuota_46
