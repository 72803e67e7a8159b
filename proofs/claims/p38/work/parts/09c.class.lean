abbrev rm_X8_attempt : Room := { frames := 2, cells := 0, slots := 0, locals := 44 }
set_option maxRecDepth 100000 in
set_option maxHeartbeats 4000000 in
theorem c_X8_attempt (l : Launch) (X : XT) (fu : Nat) (p1 : Int32) (M : Mem)  (rs : (Int32 × Mem)) (hf : f_X8_attempt fu p1 M = some rs) (sz : Nat) : Met l yX8_attempt (wbig yX8_attempt cX8_attempt 3 (some .boolean)) rm_X8_attempt (va_Pc [.ref (X.2.2 48), .int p1] (PW LC X M sz)) (QI LC X rs.2 rs.1 sz) 0 0 (AX LC X sz) := by
  refine met_go (L := LC) (M := M) (by decide +kernel) (Nat.le_of_ble_eq_true rfl) ?_
  intro p e s m args below meth c hsz B hr hlk hw ls hl
  subst hsz
  have hx := B.hx
  have hb := B.hb
  have hl : lv_has ls 3 [(0, .ref (X.2.2 48)), (1, .int p1)] := hl
  generalize hQ : MQ below _ args s 0 0 (AX LC X s.heap.size) = Q
  unfold f_X8_attempt at hf
  refine lv_aload_n hx hb dX8_attempt_0 rfl (lv_at hl 0 rfl) ?_
  refine gt_X8_37 B hw (i := 48) rfl dX8_attempt_1 ?_
  refine gt_X8_45 B hw (i := 1) rfl dX8_attempt_4 ?_
  refine lv_bipush (v := 10) hx hb dX8_attempt_7 (by decide) ?_
  refine lv_idiv hx hb dX8_attempt_9 (by decide) ?_
  refine r_topn hf (fun x2_1 hf => ?_)
  refine lv_istore_n (lv' := [(2, .int x2_1), (0, .ref (X.2.2 48)), (1, .int p1)]) hx hb dX8_attempt_10 rfl hl (by decide) rfl (fun ls hl => ?_)
  refine lv_aload_n hx hb dX8_attempt_11 rfl (lv_at hl 1 rfl) ?_
  refine gt_X8_31 B hw (i := 48) rfl dX8_attempt_12 ?_
  refine lv_iload_n hx hb dX8_attempt_15 rfl (lv_at hl 2 rfl) ?_
  obtain ⟨g_2, hf⟩ := grd_e hf
  refine c_iald B hw (i := 55) rfl g_2 dX8_attempt_16 ?_
  refine lv_iload_n hx hb dX8_attempt_17 rfl (lv_at hl 0 rfl) ?_
  refine jn_e hf (fun kk => ∀ (M_4 : Mem) (H : Heap) (locs : List Loc) (ls : Array Slot), HW LC X M_4 s H locs → lv_has ls 3 [(0, .ref (X.2.2 48)), (1, .int p1)] → kk M_4 = some rs → W p l e rm_X8_attempt s m args below meth c H locs 0 0 Q (F0 m 35 ls [])) ?_ (fun k35_3 J35_3 hf => ?_)
  · intro M_4 H locs ls hw hl hf
    refine lv_aload_n hx hb dX8_attempt_35 rfl (lv_at hl 0 rfl) ?_
    refine gt_X8_34 B hw (i := 48) rfl dX8_attempt_36 ?_
    refine lv_iload_n hx hb dX8_attempt_39 rfl (lv_at hl 1 rfl) ?_
    refine lv_dup2_11 hx hb dX8_attempt_40 rfl rfl ?_
    refine c_iald B hw (i := 56) rfl g_2 dX8_attempt_41 ?_
    refine lv_iconst (v := 1) hx hb dX8_attempt_42 (by decide) ?_
    refine lv_iadd hx hb dX8_attempt_43 ?_
    refine c_iast B hw (i := 56) rfl g_2 dX8_attempt_44 hf (fun M_5 H locs hw hf => ?_)
    refine lv_aload_n hx hb dX8_attempt_45 rfl (lv_at hl 0 rfl) ?_
    refine lv_aload_n hx hb dX8_attempt_46 rfl (lv_at hl 0 rfl) ?_
    refine gt_X8_37 B hw (i := 48) rfl dX8_attempt_47 ?_
    refine gt_X8_45 B hw (i := 1) rfl dX8_attempt_50 ?_
    refine lv_aload_n hx hb dX8_attempt_53 rfl (lv_at hl 0 rfl) ?_
    refine gt_X8_9 B hw (i := 48) rfl dX8_attempt_54 ?_
    refine lv_iload_n hx hb dX8_attempt_57 rfl (lv_at hl 1 rfl) ?_
    refine c_iald B hw (i := 49) rfl g_2 dX8_attempt_58 ?_
    refine lv_iadd hx hb dX8_attempt_59 ?_
    obtain ⟨M_7, h_6, hf⟩ := bd_e hf
    refine q_callVv (M' := M_7) (i := 48) (As := [.int ((M_5 1 0) + (M_5 49 p1.toNatClampNeg))]) (rest := []) B hw (c_X8_goOnTo l X fu ((M_5 1 0) + (M_5 49 p1.toNatClampNeg)) M_5 M_7 h_6 _) cv_X8_56 (rc_8 B hw rfl) rfl hl.1 rfl rfl ⟨Nat.le_of_ble_eq_true rfl, Nat.le_of_ble_eq_true rfl⟩ (Nat.le_of_ble_eq_true rfl) ⟨Nat.le_of_ble_eq_true rfl, Nat.le_of_ble_eq_true rfl⟩ dX8_attempt_60 rfl (fun H locs hw => ?_)
    refine lv_aload_n hx hb dX8_attempt_63 rfl (lv_at hl 0 rfl) ?_
    refine gt_X8_21 B hw (i := 48) rfl dX8_attempt_64 ?_
    refine lv_iload_n hx hb dX8_attempt_67 rfl (lv_at hl 1 rfl) ?_
    refine c_iald B hw (i := 52) rfl g_2 dX8_attempt_68 ?_
    refine lv_if_le (tgt := 84) hx hb dX8_attempt_69 (by decide) (fun c_8 => ?_) (fun c_8 => ?_)
    · have hf := it_e hf c_8
      refine lv_iconst (v := 1) hx hb dX8_attempt_84 (by decide) ?_
      cases hf
      subst hQ
      exact q_zret B hr hlk rfl hw rfl rfl dX8_attempt_85
    · have hf := ie_e hf c_8
      refine lv_aload_n hx hb dX8_attempt_72 rfl (lv_at hl 0 rfl) ?_
      refine gt_X8_21 B hw (i := 48) rfl dX8_attempt_73 ?_
      refine lv_iload_n hx hb dX8_attempt_76 rfl (lv_at hl 1 rfl) ?_
      refine lv_dup2_11 hx hb dX8_attempt_77 rfl rfl ?_
      refine c_iald B hw (i := 52) rfl g_2 dX8_attempt_78 ?_
      refine lv_iconst (v := 1) hx hb dX8_attempt_79 (by decide) ?_
      refine lv_isub hx hb dX8_attempt_80 ?_
      refine c_iast B hw (i := 52) rfl g_2 dX8_attempt_81 hf (fun M_9 H locs hw hf => ?_)
      refine lv_iconst (v := 0) hx hb dX8_attempt_82 (by decide) ?_
      cases hf
      subst hQ
      exact q_zret B hr hlk rfl hw rfl rfl dX8_attempt_83
  refine lv_icmp_eq (tgt := 35) hx hb dX8_attempt_18 (by decide) (fun c_10 => ?_) (fun c_10 => ?_)
  · have hf := it_e hf c_10
    exact J35_3 M _ _ _ hw (lv_sub hl [1, 2] rfl) hf
  · have hf := ie_e hf c_10
    refine lv_aload_n hx hb dX8_attempt_21 rfl (lv_at hl 1 rfl) ?_
    refine gt_X8_31 B hw (i := 48) rfl dX8_attempt_22 ?_
    refine lv_iload_n hx hb dX8_attempt_25 rfl (lv_at hl 2 rfl) ?_
    refine lv_iload_n hx hb dX8_attempt_26 rfl (lv_at hl 0 rfl) ?_
    refine c_iast B hw (i := 55) rfl g_2 dX8_attempt_27 hf (fun M_11 H locs hw hf => ?_)
    refine lv_aload_n hx hb dX8_attempt_28 rfl (lv_at hl 1 rfl) ?_
    refine gt_X8_34 B hw (i := 48) rfl dX8_attempt_29 ?_
    refine lv_iload_n hx hb dX8_attempt_32 rfl (lv_at hl 2 rfl) ?_
    refine lv_iconst (v := 0) hx hb dX8_attempt_33 (by decide) ?_
    refine c_iast B hw (i := 56) rfl g_2 dX8_attempt_34 hf (fun M_12 H locs hw hf => ?_)
    exact J35_3 M_12 _ _ _ hw (lv_sub hl [1, 2] rfl) hf
abbrev rm_X1_request : Room := { frames := 3, cells := 0, slots := 0, locals := 66 }
set_option maxRecDepth 100000 in
set_option maxHeartbeats 4000000 in
theorem c_X1_request (l : Launch) (X : XT) (fu : Nat) (p1 : Int32) (M : Mem)  (rs : (Int32 × Mem)) (hf : f_X1_request fu p1 M = some rs) (sz : Nat) : Met l yX1_request (wbig yX1_request cX1_request 3 (some .boolean)) rm_X1_request (va_Pc [.ref (X.2.2 120), .int p1] (PW LC X M sz)) (QI LC X rs.2 rs.1 sz) 0 0 (AX LC X sz) := by
  refine met_go (L := LC) (M := M) (by decide +kernel) (Nat.le_of_ble_eq_true rfl) ?_
  intro p e s m args below meth c hsz B hr hlk hw ls hl
  subst hsz
  have hx := B.hx
  have hb := B.hb
  obtain ⟨zFEES, zFREIGHTS, hZFEES, hTFEES, hZFREIGHTS, hTFREIGHTS⟩ := B.hN.2.2
  have hl : lv_has ls 3 [(0, .ref (X.2.2 120)), (1, .int p1)] := hl
  generalize hQ : MQ below _ args s 0 0 (AX LC X s.heap.size) = Q
  unfold f_X1_request at hf
  refine lv_iconst (v := 0) hx hb dX1_request_0 (by decide) ?_
  refine lv_istore_n (lv' := [(2, .int 0), (0, .ref (X.2.2 120)), (1, .int p1)]) hx hb dX1_request_1 rfl hl (by decide) rfl (fun ls hl => ?_)
  have hL_2 : ∀ (n_2 : Nat) (x2_1 : Int32) (M_2 : Mem) (H : Heap) (locs : List Loc) (ls : Array Slot), HW LC X M_2 s H locs → lv_has ls 3 [(0, .ref (X.2.2 120)), (1, .int p1), (2, .int x2_1)] → f_X1_request_L2 fu p1 n_2 x2_1 M_2 = some rs → W p l e rm_X1_request s m args below meth c H locs 0 0 Q (F0 m 2 ls []) := by
    intro n_2
    induction n_2 with
    | zero => intro x2_1 M_2 H locs ls hw hl hf; exact no_none hf
    | succ n_2 ih_2 =>
      intro x2_1 M_2 H locs ls hw hl hf
      rw [f_X1_request_L2] at hf
      refine lv_iload_n hx hb dX1_request_2 rfl (lv_at hl 2 rfl) ?_
      refine lv_iconst (v := 3) hx hb dX1_request_3 (by decide) ?_
      refine lv_icmp_ge (tgt := 83) hx hb dX1_request_4 (by decide) (fun c_3 => ?_) (fun c_3 => ?_)
      · have hf := it_e hf c_3
        refine lv_iconst (v := 0) hx hb dX1_request_83 (by decide) ?_
        cases hf
        subst hQ
        exact q_zret B hr hlk rfl hw rfl rfl dX1_request_84
      · have hf := ie_e hf c_3
        refine lv_aload_n hx hb dX1_request_7 rfl (lv_at hl 0 rfl) ?_
        refine gt_X1_15 B hw (i := 120) rfl dX1_request_8 ?_
        refine lv_iload_n hx hb dX1_request_11 rfl (lv_at hl 1 rfl) ?_
        obtain ⟨M_5, h_4, hf⟩ := bd_e hf
        refine q_callVv (M' := M_5) (i := 48) (As := [.int p1]) (rest := []) B hw (c_X8_awaitQuota l X fu p1 M_2 M_5 h_4 _) cv_X1_229 (rc_8 B hw rfl) rfl hl.1 rfl rfl ⟨Nat.le_of_ble_eq_true rfl, Nat.le_of_ble_eq_true rfl⟩ (Nat.le_of_ble_eq_true rfl) ⟨Nat.le_of_ble_eq_true rfl, Nat.le_of_ble_eq_true rfl⟩ dX1_request_12 rfl (fun H locs hw => ?_)
        refine lv_aload_n hx hb dX1_request_15 rfl (lv_at hl 0 rfl) ?_
        refine gt_X1_15 B hw (i := 120) rfl dX1_request_16 ?_
        refine gt_X1_232 B hw (i := 48) rfl dX1_request_19 ?_
        refine gt_X1_236 B hw (i := 1) rfl dX1_request_22 ?_
        refine lv_aload_n hx hb dX1_request_25 rfl (lv_at hl 0 rfl) ?_
        refine gt_X1_39 B hw (i := 120) rfl dX1_request_26 ?_
        refine lv_icmp_le (tgt := 34) hx hb dX1_request_29 (by decide) (fun c_6 => ?_) (fun c_6 => ?_)
        · have hf := it_e hf c_6
          refine lv_aload_n hx hb dX1_request_34 rfl (lv_at hl 0 rfl) ?_
          refine gt_X1_31 B hw (i := 120) rfl dX1_request_35 ?_
          refine lv_dup hx hb dX1_request_38 rfl ?_
          refine gt_X1_241 B hw (i := 90) rfl dX1_request_39 ?_
          refine lv_iconst (v := 1) hx hb dX1_request_42 (by decide) ?_
          refine lv_iadd hx hb dX1_request_43 ?_
          refine pt_X1_241 B hw (i := 90) rfl dX1_request_44 hf (fun M_7 H locs hw hf => ?_)
          refine lv_aload_n hx hb dX1_request_47 rfl (lv_at hl 0 rfl) ?_
          refine gt_X1_31 B hw (i := 120) rfl dX1_request_48 ?_
          refine lv_dup hx hb dX1_request_51 rfl ?_
          refine gt_X1_137 B hw (i := 90) rfl dX1_request_52 ?_
          refine q_stat (own := RX1) (host := "QueryHarbor") B hw hZFEES (by decide +kernel) dX1_request_55 ?_
          refine lv_iload_n hx hb dX1_request_58 rfl (lv_at hl 1 rfl) ?_
          obtain ⟨g_8, hf⟩ := grd_e hf
          refine q_tab B hw hTFEES g_8 dX1_request_59 ?_
          refine lv_iadd hx hb dX1_request_60 ?_
          refine pt_X1_137 B hw (i := 90) rfl dX1_request_61 hf (fun M_9 H locs hw hf => ?_)
          refine lv_aload_n hx hb dX1_request_64 rfl (lv_at hl 0 rfl) ?_
          refine gt_X1_15 B hw (i := 120) rfl dX1_request_65 ?_
          refine lv_iload_n hx hb dX1_request_68 rfl (lv_at hl 1 rfl) ?_
          obtain ⟨r_11, M_12, h_10, hf⟩ := bm_e hf
          refine q_callVi (M' := M_12) (i := 48) (As := [.int p1]) (rest := []) B hw (c_X8_attempt l X fu p1 M_9 (r_11, M_12) h_10 _) cv_X1_244 (rc_8 B hw rfl) rfl hl.1 rfl rfl ⟨Nat.le_of_ble_eq_true rfl, Nat.le_of_ble_eq_true rfl⟩ (Nat.le_of_ble_eq_true rfl) ⟨Nat.le_of_ble_eq_true rfl, Nat.le_of_ble_eq_true rfl⟩ dX1_request_69 rfl (fun H locs hw => ?_)
          refine lv_if_eq (tgt := 77) hx hb dX1_request_72 (by decide) (fun c_13 => ?_) (fun c_13 => ?_)
          · have hf := it_e hf c_13
            refine r_iinc (v := (x2_1 + 1)) hx hb dX1_request_77 hl (k := 2) rfl rfl (by decide) hf (fun x2_14 ls hl hf => ?_)
            have hl : lv_has ls 3 [(2, .int x2_14), (0, .ref (X.2.2 120)), (1, .int p1)] := hl
            refine lv_goto (tgt := 2) hx hb dX1_request_80 (by decide) ?_
            exact ih_2 x2_14 M_12 _ _ _ hw (lv_sub hl [1, 2, 0] rfl) hf
          · have hf := ie_e hf c_13
            refine lv_iconst (v := 1) hx hb dX1_request_75 (by decide) ?_
            cases hf
            subst hQ
            exact q_zret B hr hlk rfl hw rfl rfl dX1_request_76
        · have hf := ie_e hf c_6
          refine lv_iconst (v := 0) hx hb dX1_request_32 (by decide) ?_
          cases hf
          subst hQ
          exact q_zret B hr hlk rfl hw rfl rfl dX1_request_33
  exact hL_2 fu 0 M _ _ _ hw (lv_sub hl [1, 2, 0] rfl) hf
abbrev rm_X1_open : Room := { frames := 0, cells := 0, slots := 0, locals := 0 }
set_option maxRecDepth 100000 in
set_option maxHeartbeats 4000000 in
theorem c_X1_open (l : Launch) (X : XT) (fu : Nat) (p1 : Int32) (M : Mem)  (rs : Mem) (hf : f_X1_open fu p1 M = some rs) (sz : Nat) : Met l yX1_open (wbig yX1_open cX1_open 2 none) rm_X1_open (va_Pc [.ref (X.2.2 120), .int p1] (PW LC X M sz)) (QV LC X rs sz) 0 0 (AX LC X sz) := by
  refine met_go (L := LC) (M := M) (by decide +kernel) (Nat.le_of_ble_eq_true rfl) ?_
  intro p e s m args below meth c hsz B hr hlk hw ls hl
  subst hsz
  have hx := B.hx
  have hb := B.hb
  have hl : lv_has ls 2 [(0, .ref (X.2.2 120)), (1, .int p1)] := hl
  generalize hQ : MQ below _ args s 0 0 (AX LC X s.heap.size) = Q
  unfold f_X1_open at hf
  refine lv_aload_n hx hb dX1_open_0 rfl (lv_at hl 0 rfl) ?_
  refine gt_X1_31 B hw (i := 120) rfl dX1_open_1 ?_
  refine lv_dup hx hb dX1_open_4 rfl ?_
  refine gt_X1_57 B hw (i := 90) rfl dX1_open_5 ?_
  refine lv_iconst (v := 1) hx hb dX1_open_8 (by decide) ?_
  refine lv_iload_n hx hb dX1_open_9 rfl (lv_at hl 1 rfl) ?_
  refine lv_ishl hx hb dX1_open_10 ?_
  refine lv_ior hx hb dX1_open_11 ?_
  refine pt_X1_57 B hw (i := 90) rfl dX1_open_12 hf (fun M_1 H locs hw hf => ?_)
  cases hf
  subst hQ
  exact q_vret B hr hlk hw rfl dX1_open_15
abbrev rm_X4_sentHold : Room := { frames := 2, cells := 0, slots := 0, locals := 44 }
set_option maxRecDepth 100000 in
set_option maxHeartbeats 4000000 in
theorem c_X4_sentHold (l : Launch) (X : XT) (fu : Nat) (p1 : Int32) (a2 : Nat) (p3 : Int32) (M : Mem) (ha2 : kC a2 = (6, 0)) (rs : Int32) (hf : f_X4_sentHold fu p1 a2 p3 M = some rs) (sz : Nat) : Met l yX4_sentHold (wbig yX4_sentHold cX4_sentHold 5 (some .boolean)) rm_X4_sentHold (va_Pc [.ref (X.2.2 80), .int p1, .ref (X.2.2 a2), .int p3] (PW LC X M sz)) (QI LC X M rs sz) 0 0 (AX LC X sz) := by
  refine met_go (L := LC) (M := M) (by decide +kernel) (Nat.le_of_ble_eq_true rfl) ?_
  intro p e s m args below meth c hsz B hr hlk hw ls hl
  subst hsz
  have hx := B.hx
  have hb := B.hb
  have hl : lv_has ls 5 [(0, .ref (X.2.2 80)), (1, .int p1), (2, .ref (X.2.2 a2)), (3, .int p3)] := hl
  generalize hQ : MQ below _ args s 0 0 (AX LC X s.heap.size) = Q
  unfold f_X4_sentHold at hf
  refine lv_iconst (v := 0) hx hb dX4_sentHold_0 (by decide) ?_
  refine lv_istore (lv' := [(4, .int 0), (0, .ref (X.2.2 80)), (1, .int p1), (2, .ref (X.2.2 a2)), (3, .int p3)]) hx hb dX4_sentHold_1 hl (by decide) rfl (fun ls hl => ?_)
  have hL_3 : ∀ (n_3 : Nat) (x4_1 : Int32) (H : Heap) (locs : List Loc) (ls : Array Slot), HW LC X M s H locs → lv_has ls 5 [(0, .ref (X.2.2 80)), (1, .int p1), (2, .ref (X.2.2 a2)), (3, .int p3), (4, .int x4_1)] → f_X4_sentHold_L3 fu p1 a2 p3 M n_3 x4_1 = some rs → W p l e rm_X4_sentHold s m args below meth c H locs 0 0 Q (F0 m 3 ls []) := by
    intro n_3
    induction n_3 with
    | zero => intro x4_1 H locs ls hw hl hf; exact no_none hf
    | succ n_3 ih_3 =>
      intro x4_1 H locs ls hw hl hf
      rw [f_X4_sentHold_L3] at hf
      refine lv_iload hx hb dX4_sentHold_3 (lv_at hl 4 rfl) ?_
      refine lv_aload_n hx hb dX4_sentHold_5 rfl (lv_at hl 0 rfl) ?_
      refine gt_X4_59 B hw (i := 80) rfl dX4_sentHold_6 ?_
      refine lv_icmp_ge (tgt := 62) hx hb dX4_sentHold_9 (by decide) (fun c_2 => ?_) (fun c_2 => ?_)
      · have hf := it_e hf c_2
        refine lv_iconst (v := 1) hx hb dX4_sentHold_62 (by decide) ?_
        cases hf
        subst hQ
        exact q_zret B hr hlk rfl hw rfl rfl dX4_sentHold_63
      · have hf := ie_e hf c_2
        refine lv_aload_n hx hb dX4_sentHold_12 rfl (lv_at hl 0 rfl) ?_
        refine lv_iload hx hb dX4_sentHold_13 (lv_at hl 4 rfl) ?_
        refine lv_iload_n hx hb dX4_sentHold_15 rfl (lv_at hl 1 rfl) ?_
        obtain ⟨r_4, h_3, hf⟩ := bd_e hf
        refine q_callVi (M' := M) (i := 80) (As := [.int x4_1, .int p1]) (rest := []) B hw (c_X4_isSent l X fu x4_1 p1 M r_4 h_3 _) cv_X4_70 (rc_4 B hw rfl) rfl hl.1 rfl rfl ⟨Nat.le_of_ble_eq_true rfl, Nat.le_of_ble_eq_true rfl⟩ (Nat.le_of_ble_eq_true rfl) ⟨Nat.le_of_ble_eq_true rfl, Nat.le_of_ble_eq_true rfl⟩ dX4_sentHold_16 rfl (fun H locs hw => ?_)
        refine lv_if_eq (tgt := 56) hx hb dX4_sentHold_19 (by decide) (fun c_5 => ?_) (fun c_5 => ?_)
        · have hf := it_e hf c_5
          refine r_iinc (v := (x4_1 + 1)) hx hb dX4_sentHold_56 hl (k := 4) rfl rfl (by decide) hf (fun x4_6 ls hl hf => ?_)
          have hl : lv_has ls 5 [(4, .int x4_6), (0, .ref (X.2.2 80)), (1, .int p1), (2, .ref (X.2.2 a2)), (3, .int p3)] := hl
          refine lv_goto (tgt := 3) hx hb dX4_sentHold_59 (by decide) ?_
          exact ih_3 x4_6 _ _ _ hw (lv_sub hl [1, 2, 3, 4, 0] rfl) hf
        · have hf := ie_e hf c_5
          refine lv_aload_n hx hb dX4_sentHold_22 rfl (lv_at hl 0 rfl) ?_
          refine gt_X4_27 B hw (i := 80) rfl dX4_sentHold_23 ?_
          refine lv_iload hx hb dX4_sentHold_26 (lv_at hl 4 rfl) ?_
          obtain ⟨g_7, hf⟩ := grd_e hf
          refine c_iald B hw (i := 86) rfl g_7 dX4_sentHold_28 ?_
          refine lv_aload_n hx hb dX4_sentHold_29 rfl (lv_at hl 0 rfl) ?_
          refine gt_X4_30 B hw (i := 80) rfl dX4_sentHold_30 ?_
          refine lv_iload hx hb dX4_sentHold_33 (lv_at hl 4 rfl) ?_
          refine c_iald B hw (i := 87) rfl g_7 dX4_sentHold_35 ?_
          refine lv_aload_n hx hb dX4_sentHold_36 rfl (lv_at hl 2 rfl) ?_
          refine lv_iload_n hx hb dX4_sentHold_37 rfl (lv_at hl 3 rfl) ?_
          refine lv_aload_n hx hb dX4_sentHold_38 rfl (lv_at hl 0 rfl) ?_
          refine gt_X4_24 B hw (i := 80) rfl dX4_sentHold_39 ?_
          refine lv_iload hx hb dX4_sentHold_42 (lv_at hl 4 rfl) ?_
          refine c_iald B hw (i := 85) rfl g_7 dX4_sentHold_44 ?_
          obtain ⟨r_9, h_8, hf⟩ := bd_e hf
          refine q_callVi (M' := M) (i := a2) (As := [.int p3, .int (M 85 x4_1.toNatClampNeg)]) (rest := [.int (M 87 x4_1.toNatClampNeg), .int (M 86 x4_1.toNatClampNeg)]) B hw (c_X6_cellAt l X fu a2 p3 (M 85 x4_1.toNatClampNeg) M ha2 r_9 h_8 _) cv_X4_74 (rc_6 B hw ha2) rfl hl.1 rfl rfl ⟨Nat.le_of_ble_eq_true rfl, Nat.le_of_ble_eq_true rfl⟩ (Nat.le_of_ble_eq_true rfl) ⟨Nat.le_of_ble_eq_true rfl, Nat.le_of_ble_eq_true rfl⟩ dX4_sentHold_45 rfl (fun H locs hw => ?_)
          refine q_callNi (M' := M) (As := [.int (M 86 x4_1.toNatClampNeg), .int (M 87 x4_1.toNatClampNeg), .int r_9]) (rest := []) B hw (c_X10_holdsFor l X (M 86 x4_1.toNatClampNeg) (M 87 x4_1.toNatClampNeg) r_9 _ rfl M _) cn_X4_80 rfl hl.1 rfl rfl ⟨Nat.le_of_ble_eq_true rfl, Nat.le_of_ble_eq_true rfl⟩ (Nat.le_of_ble_eq_true rfl) ⟨Nat.le_of_ble_eq_true rfl, Nat.le_of_ble_eq_true rfl⟩ dX4_sentHold_48 rfl (fun H locs hw => ?_)
          refine lv_if_ne (tgt := 56) hx hb dX4_sentHold_51 (by decide) (fun c_10 => ?_) (fun c_10 => ?_)
          · have hf := ie_e hf c_10
            refine r_iinc (v := (x4_1 + 1)) hx hb dX4_sentHold_56 hl (k := 4) rfl rfl (by decide) hf (fun x4_11 ls hl hf => ?_)
            have hl : lv_has ls 5 [(4, .int x4_11), (0, .ref (X.2.2 80)), (1, .int p1), (2, .ref (X.2.2 a2)), (3, .int p3)] := hl
            refine lv_goto (tgt := 3) hx hb dX4_sentHold_59 (by decide) ?_
            exact ih_3 x4_11 _ _ _ hw (lv_sub hl [1, 2, 3, 4, 0] rfl) hf
          · have hf := it_e hf c_10
            refine lv_iconst (v := 0) hx hb dX4_sentHold_54 (by decide) ?_
            cases hf
            subst hQ
            exact q_zret B hr hlk rfl hw rfl rfl dX4_sentHold_55
  exact hL_3 fu 0 _ _ _ hw (lv_sub hl [1, 2, 3, 4, 0] rfl) hf
abbrev rm_X6_makePlace : Room := { frames := 1, cells := 0, slots := 0, locals := 23 }
set_option maxRecDepth 100000 in
set_option maxHeartbeats 4000000 in
theorem c_X6_makePlace (l : Launch) (X : XT) (fu : Nat) (a0 : Nat) (p1 : Int32) (M : Mem) (ha0 : kC a0 = (6, 0)) (rs : (Int32 × Mem)) (hf : f_X6_makePlace fu a0 p1 M = some rs) (sz : Nat) : Met l yX6_makePlace (wbig yX6_makePlace cX6_makePlace 3 (some .int)) rm_X6_makePlace (va_Pc [.ref (X.2.2 a0), .int p1] (PW LC X M sz)) (QI LC X rs.2 rs.1 sz) 0 0 (AX LC X sz) := by
  refine met_go (L := LC) (M := M) (by decide +kernel) (Nat.le_of_ble_eq_true rfl) ?_
  intro p e s m args below meth c hsz B hr hlk hw ls hl
  subst hsz
  have hx := B.hx
  have hb := B.hb
  have hl : lv_has ls 3 [(0, .ref (X.2.2 a0)), (1, .int p1)] := hl
  generalize hQ : MQ below _ args s 0 0 (AX LC X s.heap.size) = Q
  unfold f_X6_makePlace at hf
  refine lv_aload_n hx hb dX6_makePlace_0 rfl (lv_at hl 0 rfl) ?_
  refine gt_X6_18 B hw (i := a0) ha0 dX6_makePlace_1 ?_
  refine lv_bipush (v := 12) hx hb dX6_makePlace_4 (by decide) ?_
  refine lv_icmp_lt (tgt := 11) hx hb dX6_makePlace_6 (by decide) (fun c_1 => ?_) (fun c_1 => ?_)
  · have hf := it_e hf c_1
    refine lv_aload_n hx hb dX6_makePlace_11 rfl (lv_at hl 0 rfl) ?_
    refine gt_X6_18 B hw (i := a0) ha0 dX6_makePlace_12 ?_
    refine r_topn hf (fun x2_2 hf => ?_)
    refine lv_istore_n (lv' := [(2, .int x2_2), (0, .ref (X.2.2 a0)), (1, .int p1)]) hx hb dX6_makePlace_15 rfl hl (by decide) rfl (fun ls hl => ?_)
    refine lv_aload_n hx hb dX6_makePlace_16 rfl (lv_at hl 1 rfl) ?_
    refine lv_dup hx hb dX6_makePlace_17 rfl ?_
    refine gt_X6_18 B hw (i := a0) ha0 dX6_makePlace_18 ?_
    refine lv_iconst (v := 1) hx hb dX6_makePlace_21 (by decide) ?_
    refine lv_iadd hx hb dX6_makePlace_22 ?_
    refine pt_X6_18 B hw (i := a0) ha0 dX6_makePlace_23 hf (fun M_3 H locs hw hf => ?_)
    refine jn_e hf (fun kk => ∀ (x2_5 : Int32) (M_6 : Mem) (H : Heap) (locs : List Loc) (ls : Array Slot), HW LC X M_6 s H locs → lv_has ls 3 [(0, .ref (X.2.2 a0)), (1, .int p1), (2, .int x2_5)] → kk x2_5 M_6 = some rs → W p l e rm_X6_makePlace s m args below meth c H locs 0 0 Q (F0 m 56 ls [])) ?_ (fun k56_4 J56_4 hf => ?_)
    · intro x2_5 M_6 H locs ls hw hl hf
      refine lv_aload_n hx hb dX6_makePlace_56 rfl (lv_at hl 0 rfl) ?_
      refine gt_X6_9 B hw (i := a0) ha0 dX6_makePlace_57 ?_
      refine lv_iload_n hx hb dX6_makePlace_60 rfl (lv_at hl 2 rfl) ?_
      refine lv_iload_n hx hb dX6_makePlace_61 rfl (lv_at hl 1 rfl) ?_
      obtain ⟨g_7, hf⟩ := grd_e hf
      refine c_iast B hw (i := (a0 + 1)) (kR1 ha0) g_7 dX6_makePlace_62 hf (fun M_8 H locs hw hf => ?_)
      refine lv_iload_n hx hb dX6_makePlace_63 rfl (lv_at hl 2 rfl) ?_
      cases hf
      subst hQ
      exact q_iret B hr hlk hw rfl rfl dX6_makePlace_64
    have hL_26 : ∀ (n_26 : Nat) (x2_9 : Int32) (M_10 : Mem) (H : Heap) (locs : List Loc) (ls : Array Slot), HW LC X M_10 s H locs → lv_has ls 3 [(0, .ref (X.2.2 a0)), (1, .int p1), (2, .int x2_9)] → f_X6_makePlace_L26 fu a0 p1 k56_4 n_26 x2_9 M_10 = some rs → W p l e rm_X6_makePlace s m args below meth c H locs 0 0 Q (F0 m 26 ls []) := by
      intro n_26
      induction n_26 with
      | zero => intro x2_9 M_10 H locs ls hw hl hf; exact no_none hf
      | succ n_26 ih_26 =>
        intro x2_9 M_10 H locs ls hw hl hf
        rw [f_X6_makePlace_L26] at hf
        refine lv_iload_n hx hb dX6_makePlace_26 rfl (lv_at hl 2 rfl) ?_
        refine lv_if_le (tgt := 56) hx hb dX6_makePlace_27 (by decide) (fun c_11 => ?_) (fun c_11 => ?_)
        · have hf := it_e hf c_11
          exact J56_4 x2_9 M_10 _ _ _ hw (lv_sub hl [0, 1, 2] rfl) hf
        · have hf := ie_e hf c_11
          refine lv_aload_n hx hb dX6_makePlace_30 rfl (lv_at hl 0 rfl) ?_
          refine gt_X6_9 B hw (i := a0) ha0 dX6_makePlace_31 ?_
          refine lv_iload_n hx hb dX6_makePlace_34 rfl (lv_at hl 2 rfl) ?_
          refine lv_iconst (v := 1) hx hb dX6_makePlace_35 (by decide) ?_
          refine lv_isub hx hb dX6_makePlace_36 ?_
          obtain ⟨g_12, hf⟩ := grd_e hf
          refine c_iald B hw (i := (a0 + 1)) (kR1 ha0) g_12 dX6_makePlace_37 ?_
          refine lv_iload_n hx hb dX6_makePlace_38 rfl (lv_at hl 1 rfl) ?_
          refine lv_icmp_le (tgt := 56) hx hb dX6_makePlace_39 (by decide) (fun c_13 => ?_) (fun c_13 => ?_)
          · have hf := it_e hf c_13
            exact J56_4 x2_9 M_10 _ _ _ hw (lv_sub hl [0, 1, 2] rfl) hf
          · have hf := ie_e hf c_13
            refine lv_aload_n hx hb dX6_makePlace_42 rfl (lv_at hl 0 rfl) ?_
            refine lv_iload_n hx hb dX6_makePlace_43 rfl (lv_at hl 2 rfl) ?_
            refine lv_iconst (v := 1) hx hb dX6_makePlace_44 (by decide) ?_
            refine lv_isub hx hb dX6_makePlace_45 ?_
            refine lv_iload_n hx hb dX6_makePlace_46 rfl (lv_at hl 2 rfl) ?_
            obtain ⟨M_15, h_14, hf⟩ := bd_e hf
            refine q_callVv (M' := M_15) (i := a0) (As := [.int (x2_9 - 1), .int x2_9]) (rest := []) B hw (c_X6_moveRow l X fu a0 (x2_9 - 1) x2_9 M_10 ha0 M_15 h_14 _) cv_X6_30 (rc_6 B hw ha0) rfl hl.1 rfl rfl ⟨Nat.le_of_ble_eq_true rfl, Nat.le_of_ble_eq_true rfl⟩ (Nat.le_of_ble_eq_true rfl) ⟨Nat.le_of_ble_eq_true rfl, Nat.le_of_ble_eq_true rfl⟩ dX6_makePlace_47 rfl (fun H locs hw => ?_)
            refine r_iinc (v := (x2_9 + (-1))) hx hb dX6_makePlace_50 hl (k := 2) rfl rfl (by decide) hf (fun x2_16 ls hl hf => ?_)
            have hl : lv_has ls 3 [(2, .int x2_16), (0, .ref (X.2.2 a0)), (1, .int p1)] := hl
            refine lv_goto (tgt := 26) hx hb dX6_makePlace_53 (by decide) ?_
            exact ih_26 x2_16 M_15 _ _ _ hw (lv_sub hl [1, 2, 0] rfl) hf
    exact hL_26 fu x2_2 M_3 _ _ _ hw (lv_sub hl [1, 2, 0] rfl) hf
  · have hf := ie_e hf c_1
    refine lv_iconst (v := (-1)) hx hb dX6_makePlace_9 (by decide) ?_
    cases hf
    subst hQ
    exact q_iret B hr hlk hw rfl rfl dX6_makePlace_10
abbrev rm_X6_putCell : Room := { frames := 1, cells := 0, slots := 0, locals := 22 }
set_option maxRecDepth 100000 in
set_option maxHeartbeats 4000000 in
theorem c_X6_putCell (l : Launch) (X : XT) (fu : Nat) (a0 : Nat) (p1 : Int32) (p2 : Int32) (p3 : Int32) (M : Mem) (ha0 : kC a0 = (6, 0)) (rs : Mem) (hf : f_X6_putCell fu a0 p1 p2 p3 M = some rs) (sz : Nat) : Met l yX6_putCell (wbig yX6_putCell cX6_putCell 4 none) rm_X6_putCell (va_Pc [.ref (X.2.2 a0), .int p1, .int p2, .int p3] (PW LC X M sz)) (QV LC X rs sz) 0 0 (AX LC X sz) := by
  refine met_go (L := LC) (M := M) (by decide +kernel) (Nat.le_of_ble_eq_true rfl) ?_
  intro p e s m args below meth c hsz B hr hlk hw ls hl
  subst hsz
  have hx := B.hx
  have hb := B.hb
  have hl : lv_has ls 4 [(0, .ref (X.2.2 a0)), (1, .int p1), (2, .int p2), (3, .int p3)] := hl
  generalize hQ : MQ below _ args s 0 0 (AX LC X s.heap.size) = Q
  unfold f_X6_putCell at hf
  refine lv_aload_n hx hb dX6_putCell_0 rfl (lv_at hl 0 rfl) ?_
  refine lv_iload_n hx hb dX6_putCell_1 rfl (lv_at hl 1 rfl) ?_
  refine lv_iload_n hx hb dX6_putCell_2 rfl (lv_at hl 2 rfl) ?_
  obtain ⟨r_2, h_1, hf⟩ := bd_e hf
  refine q_callVi (M' := M) (i := a0) (As := [.int p1, .int p2]) (rest := []) B hw (c_X6_isCell l X fu a0 p1 p2 M ha0 r_2 h_1 _) cv_X6_26 (rc_6 B hw ha0) rfl hl.1 rfl rfl ⟨Nat.le_of_ble_eq_true rfl, Nat.le_of_ble_eq_true rfl⟩ (Nat.le_of_ble_eq_true rfl) ⟨Nat.le_of_ble_eq_true rfl, Nat.le_of_ble_eq_true rfl⟩ dX6_putCell_3 rfl (fun H locs hw => ?_)
  refine lv_if_eq (tgt := 20) hx hb dX6_putCell_6 (by decide) (fun c_3 => ?_) (fun c_3 => ?_)
  · have hf := it_e hf c_3
    cases hf
    subst hQ
    exact q_vret B hr hlk hw rfl dX6_putCell_20
  · have hf := ie_e hf c_3
    refine lv_aload_n hx hb dX6_putCell_9 rfl (lv_at hl 0 rfl) ?_
    refine gt_X6_15 B hw (i := a0) ha0 dX6_putCell_10 ?_
    refine lv_iload_n hx hb dX6_putCell_13 rfl (lv_at hl 1 rfl) ?_
    refine lv_iconst (v := 4) hx hb dX6_putCell_14 (by decide) ?_
    refine lv_imul hx hb dX6_putCell_15 ?_
    refine lv_iload_n hx hb dX6_putCell_16 rfl (lv_at hl 2 rfl) ?_
    refine lv_iadd hx hb dX6_putCell_17 ?_
    refine lv_iload_n hx hb dX6_putCell_18 rfl (lv_at hl 3 rfl) ?_
    obtain ⟨g_4, hf⟩ := grd_e hf
    refine c_iast B hw (i := (a0 + 2)) (kR2 ha0) g_4 dX6_putCell_19 hf (fun M_5 H locs hw hf => ?_)
    cases hf
    subst hQ
    exact q_vret B hr hlk hw rfl dX6_putCell_20
abbrev rm_X6_takeRow : Room := { frames := 2, cells := 0, slots := 0, locals := 45 }
set_option maxRecDepth 100000 in
set_option maxHeartbeats 4000000 in
theorem c_X6_takeRow (l : Launch) (X : XT) (fu : Nat) (a0 : Nat) (a1 : Nat) (p2 : Int32) (M : Mem) (ha0 : kC a0 = (6, 0)) (ha1 : kC a1 = (6, 0)) (rs : Mem) (hf : f_X6_takeRow fu a0 a1 p2 M = some rs) (sz : Nat) : Met l yX6_takeRow (wbig yX6_takeRow cX6_takeRow 5 none) rm_X6_takeRow (va_Pc [.ref (X.2.2 a0), .ref (X.2.2 a1), .int p2] (PW LC X M sz)) (QV LC X rs sz) 0 0 (AX LC X sz) := by
  refine met_go (L := LC) (M := M) (by decide +kernel) (Nat.le_of_ble_eq_true rfl) ?_
  intro p e s m args below meth c hsz B hr hlk hw ls hl
  subst hsz
  have hx := B.hx
  have hb := B.hb
  have hl : lv_has ls 5 [(0, .ref (X.2.2 a0)), (1, .ref (X.2.2 a1)), (2, .int p2)] := hl
  generalize hQ : MQ below _ args s 0 0 (AX LC X s.heap.size) = Q
  unfold f_X6_takeRow at hf
  refine lv_iload_n hx hb dX6_takeRow_0 rfl (lv_at hl 2 rfl) ?_
  refine lv_if_lt (tgt := 12) hx hb dX6_takeRow_1 (by decide) (fun c_1 => ?_) (fun c_1 => ?_)
  · have hf := it_e hf c_1
    cases hf
    subst hQ
    exact q_vret B hr hlk hw rfl dX6_takeRow_12
  · have hf := ie_e hf c_1
    refine lv_iload_n hx hb dX6_takeRow_4 rfl (lv_at hl 2 rfl) ?_
    refine lv_aload_n hx hb dX6_takeRow_5 rfl (lv_at hl 1 rfl) ?_
    refine gt_X6_18 B hw (i := a1) ha1 dX6_takeRow_6 ?_
    refine lv_icmp_lt (tgt := 13) hx hb dX6_takeRow_9 (by decide) (fun c_2 => ?_) (fun c_2 => ?_)
    · have hf := it_e hf c_2
      refine lv_aload_n hx hb dX6_takeRow_13 rfl (lv_at hl 0 rfl) ?_
      refine lv_aload_n hx hb dX6_takeRow_14 rfl (lv_at hl 1 rfl) ?_
      refine gt_X6_9 B hw (i := a1) ha1 dX6_takeRow_15 ?_
      refine lv_iload_n hx hb dX6_takeRow_18 rfl (lv_at hl 2 rfl) ?_
      obtain ⟨g_3, hf⟩ := grd_e hf
      refine c_iald B hw (i := (a1 + 1)) (kR1 ha1) g_3 dX6_takeRow_19 ?_
      obtain ⟨r_5, M_6, h_4, hf⟩ := bm_e hf
      refine q_callVi (M' := M_6) (i := a0) (As := [.int (M (a1 + 1) p2.toNatClampNeg)]) (rest := []) B hw (c_X6_makePlace l X fu a0 (M (a1 + 1) p2.toNatClampNeg) M ha0 (r_5, M_6) h_4 _) cv_X6_34 (rc_6 B hw ha0) rfl hl.1 rfl rfl ⟨Nat.le_of_ble_eq_true rfl, Nat.le_of_ble_eq_true rfl⟩ (Nat.le_of_ble_eq_true rfl) ⟨Nat.le_of_ble_eq_true rfl, Nat.le_of_ble_eq_true rfl⟩ dX6_takeRow_20 rfl (fun H locs hw => ?_)
      refine lv_istore_n (lv' := [(3, .int r_5), (0, .ref (X.2.2 a0)), (1, .ref (X.2.2 a1)), (2, .int p2)]) hx hb dX6_takeRow_23 rfl hl (by decide) rfl (fun ls hl => ?_)
      refine lv_iconst (v := 0) hx hb dX6_takeRow_24 (by decide) ?_
      refine lv_istore (lv' := [(4, .int 0), (3, .int r_5), (0, .ref (X.2.2 a0)), (1, .ref (X.2.2 a1)), (2, .int p2)]) hx hb dX6_takeRow_25 hl (by decide) rfl (fun ls hl => ?_)
      have hL_27 : ∀ (n_27 : Nat) (x4_7 : Int32) (M_8 : Mem) (H : Heap) (locs : List Loc) (ls : Array Slot), HW LC X M_8 s H locs → lv_has ls 5 [(0, .ref (X.2.2 a0)), (1, .ref (X.2.2 a1)), (2, .int p2), (3, .int r_5), (4, .int x4_7)] → f_X6_takeRow_L27 fu a0 a1 p2 r_5 n_27 x4_7 M_8 = some rs → W p l e rm_X6_takeRow s m args below meth c H locs 0 0 Q (F0 m 27 ls []) := by
        intro n_27
        induction n_27 with
        | zero => intro x4_7 M_8 H locs ls hw hl hf; exact no_none hf
        | succ n_27 ih_27 =>
          intro x4_7 M_8 H locs ls hw hl hf
          rw [f_X6_takeRow_L27] at hf
          refine lv_iload hx hb dX6_takeRow_27 (lv_at hl 4 rfl) ?_
          refine lv_iconst (v := 4) hx hb dX6_takeRow_29 (by decide) ?_
          refine lv_icmp_ge (tgt := 53) hx hb dX6_takeRow_30 (by decide) (fun c_9 => ?_) (fun c_9 => ?_)
          · have hf := it_e hf c_9
            cases hf
            subst hQ
            exact q_vret B hr hlk hw rfl dX6_takeRow_53
          · have hf := ie_e hf c_9
            refine lv_aload_n hx hb dX6_takeRow_33 rfl (lv_at hl 0 rfl) ?_
            refine lv_iload_n hx hb dX6_takeRow_34 rfl (lv_at hl 3 rfl) ?_
            refine lv_iload hx hb dX6_takeRow_35 (lv_at hl 4 rfl) ?_
            refine lv_aload_n hx hb dX6_takeRow_37 rfl (lv_at hl 1 rfl) ?_
            refine lv_iload_n hx hb dX6_takeRow_38 rfl (lv_at hl 2 rfl) ?_
            refine lv_iload hx hb dX6_takeRow_39 (lv_at hl 4 rfl) ?_
            obtain ⟨r_11, h_10, hf⟩ := bd_e hf
            refine q_callVi (M' := M_8) (i := a1) (As := [.int p2, .int x4_7]) (rest := [.int x4_7, .int r_5, .ref (X.2.2 a0)]) B hw (c_X6_cellAt l X fu a1 p2 x4_7 M_8 ha1 r_11 h_10 _) cv_X6_37 (rc_6 B hw ha1) rfl hl.1 rfl rfl ⟨Nat.le_of_ble_eq_true rfl, Nat.le_of_ble_eq_true rfl⟩ (Nat.le_of_ble_eq_true rfl) ⟨Nat.le_of_ble_eq_true rfl, Nat.le_of_ble_eq_true rfl⟩ dX6_takeRow_41 rfl (fun H locs hw => ?_)
            obtain ⟨M_13, h_12, hf⟩ := bd_e hf
            refine q_callVv (M' := M_13) (i := a0) (As := [.int r_5, .int x4_7, .int r_11]) (rest := []) B hw (c_X6_putCell l X fu a0 r_5 x4_7 r_11 M_8 ha0 M_13 h_12 _) cv_X6_41 (rc_6 B hw ha0) rfl hl.1 rfl rfl ⟨Nat.le_of_ble_eq_true rfl, Nat.le_of_ble_eq_true rfl⟩ (Nat.le_of_ble_eq_true rfl) ⟨Nat.le_of_ble_eq_true rfl, Nat.le_of_ble_eq_true rfl⟩ dX6_takeRow_44 rfl (fun H locs hw => ?_)
            refine r_iinc (v := (x4_7 + 1)) hx hb dX6_takeRow_47 hl (k := 4) rfl rfl (by decide) hf (fun x4_14 ls hl hf => ?_)
            have hl : lv_has ls 5 [(4, .int x4_14), (0, .ref (X.2.2 a0)), (1, .ref (X.2.2 a1)), (2, .int p2), (3, .int r_5)] := hl
            refine lv_goto (tgt := 27) hx hb dX6_takeRow_50 (by decide) ?_
            exact ih_27 x4_14 M_13 _ _ _ hw (lv_sub hl [1, 2, 3, 4, 0] rfl) hf
      exact hL_27 fu 0 M_6 _ _ _ hw (lv_sub hl [2, 3, 4, 1, 0] rfl) hf
    · have hf := ie_e hf c_2
      cases hf
      subst hQ
      exact q_vret B hr hlk hw rfl dX6_takeRow_12
abbrev rm_X1_receive : Room := { frames := 3, cells := 0, slots := 0, locals := 69 }
set_option maxRecDepth 100000 in
set_option maxHeartbeats 4000000 in
theorem c_X1_receive (l : Launch) (X : XT) (fu : Nat) (p1 : Int32) (p2 : Int32) (p3 : Int32) (p4 : Int32) (M : Mem)  (rs : (Int32 × Mem)) (hf : f_X1_receive fu p1 p2 p3 p4 M = some rs) (sz : Nat) : Met l yX1_receive (wbig yX1_receive cX1_receive 10 (some .boolean)) rm_X1_receive (va_Pc [.ref (X.2.2 120), .int p1, .int p2, .int p3, .int p4] (PW LC X M sz)) (QI LC X rs.2 rs.1 sz) 0 0 (AX LC X sz) := by
  refine met_go (L := LC) (M := M) (by decide +kernel) (Nat.le_of_ble_eq_true rfl) ?_
  intro p e s m args below meth c hsz B hr hlk hw ls hl
  subst hsz
  have hx := B.hx
  have hb := B.hb
  obtain ⟨zFEES, zFREIGHTS, hZFEES, hTFEES, hZFREIGHTS, hTFREIGHTS⟩ := B.hN.2.2
  have hl : lv_has ls 10 [(0, .ref (X.2.2 120)), (1, .int p1), (2, .int p2), (3, .int p3), (4, .int p4)] := hl
  generalize hQ : MQ below _ args s 0 0 (AX LC X s.heap.size) = Q
  unfold f_X1_receive at hf
  refine lv_aload_n hx hb dX1_receive_0 rfl (lv_at hl 0 rfl) ?_
  refine gt_X1_27 B hw (i := 120) rfl dX1_receive_1 ?_
  refine gt_X1_80 B hw (i := 80) rfl dX1_receive_4 ?_
  refine lv_iload_n hx hb dX1_receive_7 rfl (lv_at hl 1 rfl) ?_
  obtain ⟨g_1, hf⟩ := grd_e hf
  refine c_iald B hw (i := 81) rfl g_1 dX1_receive_8 ?_
  refine r_topn hf (fun x5_2 hf => ?_)
  refine lv_istore (lv' := [(5, .int x5_2), (0, .ref (X.2.2 120)), (1, .int p1), (2, .int p2), (3, .int p3), (4, .int p4)]) hx hb dX1_receive_9 hl (by decide) rfl (fun ls hl => ?_)
  refine lv_iload hx hb dX1_receive_11 (lv_at hl 0 rfl) ?_
  refine q_callNi (M' := M) (As := [.int x5_2]) (rest := []) B hw (c_X10_storeOf l X x5_2 _ rfl M _) cn_X1_128 rfl hl.1 rfl rfl ⟨Nat.le_of_ble_eq_true rfl, Nat.le_of_ble_eq_true rfl⟩ (Nat.le_of_ble_eq_true rfl) ⟨Nat.le_of_ble_eq_true rfl, Nat.le_of_ble_eq_true rfl⟩ dX1_receive_13 rfl (fun H locs hw => ?_)
  refine r_topn hf (fun x6_3 hf => ?_)
  refine lv_istore (lv' := [(6, .int x6_3), (5, .int x5_2), (0, .ref (X.2.2 120)), (1, .int p1), (2, .int p2), (3, .int p3), (4, .int p4)]) hx hb dX1_receive_16 hl (by decide) rfl (fun ls hl => ?_)
  refine lv_aload_n hx hb dX1_receive_18 rfl (lv_at hl 2 rfl) ?_
  refine gt_X1_19 B hw (i := 120) rfl dX1_receive_19 ?_
  refine gt_X1_247 B hw (i := 57) rfl dX1_receive_22 ?_
  refine lv_iload hx hb dX1_receive_25 (lv_at hl 1 rfl) ?_
  obtain ⟨g_4, hf⟩ := grd_e hf
  refine c_aldR B hw (i := 61) rfl g_4 dX1_receive_27 ?_
  refine r_topk (kV rfl g_4) hf (fun a_5 ha_5 hf => ?_)
  refine lv_astore (lv' := [(7, .ref (X.2.2 a_5)), (6, .int x6_3), (5, .int x5_2), (0, .ref (X.2.2 120)), (1, .int p1), (2, .int p2), (3, .int p3), (4, .int p4)]) hx hb dX1_receive_28 hl (by decide) rfl (fun ls hl => ?_)
  refine lv_iconst (v := 0) hx hb dX1_receive_30 (by decide) ?_
  refine lv_istore (lv' := [(8, .int 0), (7, .ref (X.2.2 a_5)), (6, .int x6_3), (5, .int x5_2), (0, .ref (X.2.2 120)), (1, .int p1), (2, .int p2), (3, .int p3), (4, .int p4)]) hx hb dX1_receive_31 hl (by decide) rfl (fun ls hl => ?_)
  refine lv_iconst (v := 0) hx hb dX1_receive_33 (by decide) ?_
  refine lv_istore (lv' := [(9, .int 0), (8, .int 0), (7, .ref (X.2.2 a_5)), (6, .int x6_3), (5, .int x5_2), (0, .ref (X.2.2 120)), (1, .int p1), (2, .int p2), (3, .int p3), (4, .int p4)]) hx hb dX1_receive_34 hl (by decide) rfl (fun ls hl => ?_)
  refine jn_e hf (fun kk => ∀ (M_7 : Mem) (H : Heap) (locs : List Loc) (ls : Array Slot), HW LC X M_7 s H locs → lv_has ls 10 [(0, .ref (X.2.2 120)), (1, .int p1)] → kk M_7 = some rs → W p l e rm_X1_receive s m args below meth c H locs 0 0 Q (F0 m 166 ls [])) ?_ (fun k166_6 J166_6 hf => ?_)
  · intro M_7 H locs ls hw hl hf
    refine lv_aload_n hx hb dX1_receive_166 rfl (lv_at hl 0 rfl) ?_
    refine gt_X1_31 B hw (i := 120) rfl dX1_receive_167 ?_
    refine gt_X1_57 B hw (i := 90) rfl dX1_receive_170 ?_
    refine lv_iconst (v := 1) hx hb dX1_receive_173 (by decide) ?_
    refine lv_iload_n hx hb dX1_receive_174 rfl (lv_at hl 1 rfl) ?_
    refine lv_ishl hx hb dX1_receive_175 ?_
    refine lv_iand hx hb dX1_receive_176 ?_
    refine lv_if_ne (tgt := 184) hx hb dX1_receive_177 (by decide) (fun c_8 => ?_) (fun c_8 => ?_)
    · have hf := ie_e hf c_8
      refine lv_iconst (v := 0) hx hb dX1_receive_184 (by decide) ?_
      cases hf
      subst hQ
      exact q_zret B hr hlk rfl hw rfl rfl dX1_receive_185
    · have hf := it_e hf c_8
      refine lv_iconst (v := 1) hx hb dX1_receive_180 (by decide) ?_
      refine lv_goto (tgt := 185) hx hb dX1_receive_181 (by decide) ?_
      cases hf
      subst hQ
      exact q_zret B hr hlk rfl hw rfl rfl dX1_receive_185
  refine jn_e hf (fun kk => ∀ (M_10 : Mem) (H : Heap) (locs : List Loc) (ls : Array Slot), HW LC X M_10 s H locs → lv_has ls 10 [(0, .ref (X.2.2 120)), (1, .int p1)] → kk M_10 = some rs → W p l e rm_X1_receive s m args below meth c H locs 0 0 Q (F0 m 102 ls [])) ?_ (fun k102_9 J102_9 hf => ?_)
  · intro M_10 H locs ls hw hl hf
    refine lv_aload_n hx hb dX1_receive_102 rfl (lv_at hl 0 rfl) ?_
    refine lv_iload_n hx hb dX1_receive_103 rfl (lv_at hl 1 rfl) ?_
    obtain ⟨M_12, h_11, hf⟩ := bd_e hf
    refine q_callVv (M' := M_12) (i := 120) (As := [.int p1]) (rest := []) B hw (c_X1_open l X fu p1 M_10 M_12 h_11 _) cv_X1_218 (rc_1 B hw rfl) rfl hl.1 rfl rfl ⟨Nat.le_of_ble_eq_true rfl, Nat.le_of_ble_eq_true rfl⟩ (Nat.le_of_ble_eq_true rfl) ⟨Nat.le_of_ble_eq_true rfl, Nat.le_of_ble_eq_true rfl⟩ dX1_receive_104 rfl (fun H locs hw => ?_)
    refine lv_goto (tgt := 166) hx hb dX1_receive_107 (by decide) ?_
    exact J166_6 M_12 _ _ _ hw (lv_sub hl [0, 1] rfl) hf
  have hL_36 : ∀ (n_36 : Nat) (x8_13 : Int32) (x9_14 : Int32) (M_15 : Mem) (H : Heap) (locs : List Loc) (ls : Array Slot), HW LC X M_15 s H locs → lv_has ls 10 [(0, .ref (X.2.2 120)), (1, .int p1), (2, .int p2), (3, .int p3), (4, .int p4), (6, .int x6_3), (7, .ref (X.2.2 a_5)), (8, .int x8_13), (9, .int x9_14)] → f_X1_receive_L36 fu p1 p2 p3 p4 x6_3 a_5 k166_6 k102_9 n_36 x8_13 x9_14 M_15 = some rs → W p l e rm_X1_receive s m args below meth c H locs 0 0 Q (F0 m 36 ls []) := by
    intro n_36
    induction n_36 with
    | zero => intro x8_13 x9_14 M_15 H locs ls hw hl hf; exact no_none hf
    | succ n_36 ih_36 =>
      intro x8_13 x9_14 M_15 H locs ls hw hl hf
      rw [f_X1_receive_L36] at hf
      refine lv_iload hx hb dX1_receive_36 (lv_at hl 8 rfl) ?_
      refine lv_aload hx hb dX1_receive_38 (lv_at hl 6 rfl) ?_
      refine gt_X1_200 B hw (i := a_5) ha_5 dX1_receive_40 ?_
      refine lv_icmp_ge (tgt := 166) hx hb dX1_receive_43 (by decide) (fun c_16 => ?_) (fun c_16 => ?_)
      · have hf := it_e hf c_16
        exact J166_6 M_15 _ _ _ hw (lv_sub hl [0, 1] rfl) hf
      · have hf := ie_e hf c_16
        refine lv_aload_n hx hb dX1_receive_46 rfl (lv_at hl 0 rfl) ?_
        refine gt_X1_27 B hw (i := 120) rfl dX1_receive_47 ?_
        refine lv_iload_n hx hb dX1_receive_50 rfl (lv_at hl 1 rfl) ?_
        refine lv_aload hx hb dX1_receive_51 (lv_at hl 6 rfl) ?_
        refine lv_iload hx hb dX1_receive_53 (lv_at hl 8 rfl) ?_
        obtain ⟨r_18, h_17, hf⟩ := bd_e hf
        refine q_callVi (M' := M_15) (i := 80) (As := [.int p1, .ref (X.2.2 a_5), .int x9_14]) (rest := []) B hw (c_X4_sentHold l X fu p1 a_5 x9_14 M_15 ha_5 r_18 h_17 _) cv_X1_248 (rc_4 B hw rfl) rfl hl.1 rfl rfl ⟨Nat.le_of_ble_eq_true rfl, Nat.le_of_ble_eq_true rfl⟩ (Nat.le_of_ble_eq_true rfl) ⟨Nat.le_of_ble_eq_true rfl, Nat.le_of_ble_eq_true rfl⟩ dX1_receive_55 rfl (fun H locs hw => ?_)
        refine lv_if_eq (tgt := 160) hx hb dX1_receive_58 (by decide) (fun c_19 => ?_) (fun c_19 => ?_)
        · have hf := it_e hf c_19
          refine r_iinc (v := (x9_14 + 1)) hx hb dX1_receive_160 hl (k := 8) rfl rfl (by decide) hf (fun x9_20 ls hl hf => ?_)
          have hl : lv_has ls 10 [(9, .int x9_20), (0, .ref (X.2.2 120)), (1, .int p1), (2, .int p2), (3, .int p3), (4, .int p4), (6, .int x6_3), (7, .ref (X.2.2 a_5)), (8, .int x8_13)] := hl
          refine lv_goto (tgt := 36) hx hb dX1_receive_163 (by decide) ?_
          exact ih_36 x8_13 x9_20 M_15 _ _ _ hw (lv_sub hl [1, 2, 3, 4, 5, 6, 7, 8, 0] rfl) hf
        · have hf := ie_e hf c_19
          refine lv_iload_n hx hb dX1_receive_61 rfl (lv_at hl 2 rfl) ?_
          refine lv_iconst (v := (-1)) hx hb dX1_receive_62 (by decide) ?_
          refine jn_e hf (fun kk => ∀ (_ : Unit) (H : Heap) (locs : List Loc) (ls : Array Slot), HW LC X M_15 s H locs → lv_has ls 10 [(0, .ref (X.2.2 120)), (1, .int p1), (2, .int p2), (3, .int p3), (4, .int p4), (6, .int x6_3), (7, .ref (X.2.2 a_5)), (8, .int x8_13), (9, .int x9_14)] → kk () = some rs → W p l e rm_X1_receive s m args below meth c H locs 0 0 Q (F0 m 87 ls [])) ?_ (fun k87_21 J87_21 hf => ?_)
          · intro _ H locs ls hw hl hf
            refine lv_iload hx hb dX1_receive_87 (lv_at hl 7 rfl) ?_
            refine lv_aload_n hx hb dX1_receive_89 rfl (lv_at hl 0 rfl) ?_
            refine gt_X1_15 B hw (i := 120) rfl dX1_receive_90 ?_
            refine gt_X1_252 B hw (i := 48) rfl dX1_receive_93 ?_
            refine lv_iload hx hb dX1_receive_96 (lv_at hl 5 rfl) ?_
            obtain ⟨g_22, hf⟩ := grd_e hf
            refine c_iald B hw (i := 51) rfl g_22 dX1_receive_98 ?_
            refine lv_icmp_lt (tgt := 110) hx hb dX1_receive_99 (by decide) (fun c_23 => ?_) (fun c_23 => ?_)
            · have hf := it_e hf c_23
              refine lv_aload_n hx hb dX1_receive_110 rfl (lv_at hl 0 rfl) ?_
              refine gt_X1_31 B hw (i := 120) rfl dX1_receive_111 ?_
              refine gt_X1_88 B hw (i := 90) rfl dX1_receive_114 ?_
              refine lv_iload_n hx hb dX1_receive_117 rfl (lv_at hl 1 rfl) ?_
              obtain ⟨g_24, hf⟩ := grd_e hf
              refine c_aldR B hw (i := 95) rfl g_24 dX1_receive_118 ?_
              refine r_topk (kV rfl g_24) hf (fun a_25 ha_25 hf => ?_)
              refine lv_aload hx hb dX1_receive_119 (lv_at hl 6 rfl) ?_
              refine lv_iload hx hb dX1_receive_121 (lv_at hl 8 rfl) ?_
              obtain ⟨M_27, h_26, hf⟩ := bd_e hf
              refine q_callVv (M' := M_27) (i := a_25) (As := [.ref (X.2.2 a_5), .int x9_14]) (rest := []) B hw (c_X6_takeRow l X fu a_25 a_5 x9_14 M_15 ha_25 ha_5 M_27 h_26 _) cv_X1_255 (rc_6 B hw ha_25) rfl hl.1 rfl rfl ⟨Nat.le_of_ble_eq_true rfl, Nat.le_of_ble_eq_true rfl⟩ (Nat.le_of_ble_eq_true rfl) ⟨Nat.le_of_ble_eq_true rfl, Nat.le_of_ble_eq_true rfl⟩ dX1_receive_123 rfl (fun H locs hw => ?_)
              refine lv_aload_n hx hb dX1_receive_126 rfl (lv_at hl 0 rfl) ?_
              refine gt_X1_31 B hw (i := 120) rfl dX1_receive_127 ?_
              refine lv_dup hx hb dX1_receive_130 rfl ?_
              refine gt_X1_259 B hw (i := 90) rfl dX1_receive_131 ?_
              refine lv_iconst (v := 1) hx hb dX1_receive_134 (by decide) ?_
              refine lv_iadd hx hb dX1_receive_135 ?_
              refine pt_X1_259 B hw (i := 90) rfl dX1_receive_136 hf (fun M_28 H locs hw hf => ?_)
              refine lv_aload_n hx hb dX1_receive_139 rfl (lv_at hl 0 rfl) ?_
              refine gt_X1_31 B hw (i := 120) rfl dX1_receive_140 ?_
              refine lv_dup hx hb dX1_receive_143 rfl ?_
              refine gt_X1_137 B hw (i := 90) rfl dX1_receive_144 ?_
              refine q_stat (own := RX1) (host := "QueryHarbor") B hw hZFREIGHTS (by decide +kernel) dX1_receive_147 ?_
              refine lv_iload hx hb dX1_receive_150 (lv_at hl 5 rfl) ?_
              refine q_tab B hw hTFREIGHTS g_22 dX1_receive_152 ?_
              refine lv_iadd hx hb dX1_receive_153 ?_
              refine pt_X1_137 B hw (i := 90) rfl dX1_receive_154 hf (fun M_29 H locs hw hf => ?_)
              refine r_iinc (v := (x8_13 + 1)) hx hb dX1_receive_157 hl (k := 7) rfl rfl (by decide) hf (fun x8_30 ls hl hf => ?_)
              have hl : lv_has ls 10 [(8, .int x8_30), (0, .ref (X.2.2 120)), (1, .int p1), (2, .int p2), (3, .int p3), (4, .int p4), (6, .int x6_3), (7, .ref (X.2.2 a_5)), (9, .int x9_14)] := hl
              refine r_iinc (v := (x9_14 + 1)) hx hb dX1_receive_160 hl (k := 8) rfl rfl (by decide) hf (fun x9_31 ls hl hf => ?_)
              have hl : lv_has ls 10 [(9, .int x9_31), (8, .int x8_30), (0, .ref (X.2.2 120)), (1, .int p1), (2, .int p2), (3, .int p3), (4, .int p4), (6, .int x6_3), (7, .ref (X.2.2 a_5))] := hl
              refine lv_goto (tgt := 36) hx hb dX1_receive_163 (by decide) ?_
              exact ih_36 x8_30 x9_31 M_29 _ _ _ hw (lv_sub hl [2, 3, 4, 5, 6, 7, 8, 1, 0] rfl) hf
            · have hf := ie_e hf c_23
              exact J102_9 M_15 _ _ _ hw (lv_sub hl [0, 1] rfl) hf
          refine lv_icmp_eq (tgt := 87) hx hb dX1_receive_63 (by decide) (fun c_32 => ?_) (fun c_32 => ?_)
          · have hf := it_e hf c_32
            exact J87_21 () _ _ _ hw (lv_sub hl [0, 1, 2, 3, 4, 5, 6, 7, 8] rfl) hf
          · have hf := ie_e hf c_32
            refine lv_aload_n hx hb dX1_receive_66 rfl (lv_at hl 0 rfl) ?_
            refine lv_aload hx hb dX1_receive_67 (lv_at hl 6 rfl) ?_
            refine lv_iload hx hb dX1_receive_69 (lv_at hl 8 rfl) ?_
            refine lv_iload_n hx hb dX1_receive_71 rfl (lv_at hl 2 rfl) ?_
            obtain ⟨r_34, h_33, hf⟩ := bd_e hf
            refine q_callVi (M' := M_15) (i := a_5) (As := [.int x9_14, .int p2]) (rest := [.ref (X.2.2 120)]) B hw (c_X6_cellAt l X fu a_5 x9_14 p2 M_15 ha_5 r_34 h_33 _) cv_X1_203 (rc_6 B hw ha_5) rfl hl.1 rfl rfl ⟨Nat.le_of_ble_eq_true rfl, Nat.le_of_ble_eq_true rfl⟩ (Nat.le_of_ble_eq_true rfl) ⟨Nat.le_of_ble_eq_true rfl, Nat.le_of_ble_eq_true rfl⟩ dX1_receive_72 rfl (fun H locs hw => ?_)
            refine lv_iload_n hx hb dX1_receive_75 rfl (lv_at hl 3 rfl) ?_
            refine lv_iload hx hb dX1_receive_76 (lv_at hl 4 rfl) ?_
            obtain ⟨r_36, h_35, hf⟩ := bd_e hf
            refine q_callVi (M' := M_15) (i := 120) (As := [.int r_34, .int p3, .int p4]) (rest := []) B hw (c_X1_isKey l X fu r_34 p3 p4 M_15 r_36 h_35 _) cv_X1_209 (rc_1 B hw rfl) rfl hl.1 rfl rfl ⟨Nat.le_of_ble_eq_true rfl, Nat.le_of_ble_eq_true rfl⟩ (Nat.le_of_ble_eq_true rfl) ⟨Nat.le_of_ble_eq_true rfl, Nat.le_of_ble_eq_true rfl⟩ dX1_receive_78 rfl (fun H locs hw => ?_)
            refine lv_if_ne (tgt := 87) hx hb dX1_receive_81 (by decide) (fun c_37 => ?_) (fun c_37 => ?_)
            · have hf := ie_e hf c_37
              exact J87_21 () _ _ _ hw (lv_sub hl [0, 1, 2, 3, 4, 5, 6, 7, 8] rfl) hf
            · have hf := it_e hf c_37
              refine lv_goto (tgt := 160) hx hb dX1_receive_84 (by decide) ?_
              refine r_iinc (v := (x9_14 + 1)) hx hb dX1_receive_160 hl (k := 8) rfl rfl (by decide) hf (fun x9_38 ls hl hf => ?_)
              have hl : lv_has ls 10 [(9, .int x9_38), (0, .ref (X.2.2 120)), (1, .int p1), (2, .int p2), (3, .int p3), (4, .int p4), (6, .int x6_3), (7, .ref (X.2.2 a_5)), (8, .int x8_13)] := hl
              refine lv_goto (tgt := 36) hx hb dX1_receive_163 (by decide) ?_
              exact ih_36 x8_13 x9_38 M_15 _ _ _ hw (lv_sub hl [1, 2, 3, 4, 5, 6, 7, 8, 0] rfl) hf
  exact hL_36 fu 0 0 M _ _ _ hw (lv_sub hl [5, 6, 7, 8, 9, 3, 2, 1, 0] rfl) hf
abbrev rm_X1_bind : Room := { frames := 4, cells := 0, slots := 0, locals := 98 }
set_option maxRecDepth 100000 in
set_option maxHeartbeats 4000000 in
theorem c_X1_bind (l : Launch) (X : XT) (fu : Nat) (p1 : Int32) (p2 : Int32) (p3 : Int32) (M : Mem)  (rs : (Int32 × Mem)) (hf : f_X1_bind fu p1 p2 p3 M = some rs) (sz : Nat) : Met l yX1_bind (wbig yX1_bind cX1_bind 7 (some .int)) rm_X1_bind (va_Pc [.ref (X.2.2 120), .int p1, .int p2, .int p3] (PW LC X M sz)) (QI LC X rs.2 rs.1 sz) 0 0 (AX LC X sz) := by
  refine met_go (L := LC) (M := M) (by decide +kernel) (Nat.le_of_ble_eq_true rfl) ?_
  intro p e s m args below meth c hsz B hr hlk hw ls hl
  subst hsz
  have hx := B.hx
  have hb := B.hb
  have hl : lv_has ls 7 [(0, .ref (X.2.2 120)), (1, .int p1), (2, .int p2), (3, .int p3)] := hl
  generalize hQ : MQ below _ args s 0 0 (AX LC X s.heap.size) = Q
  unfold f_X1_bind at hf
  refine lv_aload_n hx hb dX1_bind_0 rfl (lv_at hl 0 rfl) ?_
  refine gt_X1_27 B hw (i := 120) rfl dX1_bind_1 ?_
  refine gt_X1_80 B hw (i := 80) rfl dX1_bind_4 ?_
  refine lv_iload_n hx hb dX1_bind_7 rfl (lv_at hl 1 rfl) ?_
  obtain ⟨g_1, hf⟩ := grd_e hf
  refine c_iald B hw (i := 81) rfl g_1 dX1_bind_8 ?_
  refine q_callNi (M' := M) (As := [.int (M 81 p1.toNatClampNeg)]) (rest := []) B hw (c_X10_storeOf l X (M 81 p1.toNatClampNeg) _ rfl M _) cn_X1_128 rfl hl.1 rfl rfl ⟨Nat.le_of_ble_eq_true rfl, Nat.le_of_ble_eq_true rfl⟩ (Nat.le_of_ble_eq_true rfl) ⟨Nat.le_of_ble_eq_true rfl, Nat.le_of_ble_eq_true rfl⟩ dX1_bind_9 rfl (fun H locs hw => ?_)
  refine r_topn hf (fun x4_2 hf => ?_)
  refine lv_istore (lv' := [(4, .int x4_2), (0, .ref (X.2.2 120)), (1, .int p1), (2, .int p2), (3, .int p3)]) hx hb dX1_bind_12 hl (by decide) rfl (fun ls hl => ?_)
  refine lv_iconst (v := 0) hx hb dX1_bind_14 (by decide) ?_
  refine lv_istore (lv' := [(5, .int 0), (4, .int x4_2), (0, .ref (X.2.2 120)), (1, .int p1), (2, .int p2), (3, .int p3)]) hx hb dX1_bind_15 hl (by decide) rfl (fun ls hl => ?_)
  have hL_17 : ∀ (n_17 : Nat) (x5_3 : Int32) (M_4 : Mem) (H : Heap) (locs : List Loc) (ls : Array Slot), HW LC X M_4 s H locs → lv_has ls 7 [(0, .ref (X.2.2 120)), (1, .int p1), (2, .int p2), (3, .int p3), (4, .int x4_2), (5, .int x5_3)] → f_X1_bind_L17 fu p1 p2 p3 x4_2 n_17 x5_3 M_4 = some rs → W p l e rm_X1_bind s m args below meth c H locs 0 0 Q (F0 m 17 ls []) := by
    intro n_17
    induction n_17 with
    | zero => intro x5_3 M_4 H locs ls hw hl hf; exact no_none hf
    | succ n_17 ih_17 =>
      intro x5_3 M_4 H locs ls hw hl hf
      rw [f_X1_bind_L17] at hf
      refine lv_iload hx hb dX1_bind_17 (lv_at hl 5 rfl) ?_
      refine lv_aload_n hx hb dX1_bind_19 rfl (lv_at hl 0 rfl) ?_
      refine gt_X1_191 B hw (i := 120) rfl dX1_bind_20 ?_
      refine lv_icmp_ge (tgt := 94) hx hb dX1_bind_23 (by decide) (fun c_5 => ?_) (fun c_5 => ?_)
      · have hf := it_e hf c_5
        refine lv_iconst (v := 1) hx hb dX1_bind_94 (by decide) ?_
        cases hf
        subst hQ
        exact q_iret B hr hlk hw rfl rfl dX1_bind_95
      · have hf := ie_e hf c_5
        refine lv_aload_n hx hb dX1_bind_26 rfl (lv_at hl 0 rfl) ?_
        refine lv_iload hx hb dX1_bind_27 (lv_at hl 4 rfl) ?_
        obtain ⟨r_7, M_8, h_6, hf⟩ := bm_e hf
        refine q_callVi (M' := M_8) (i := 120) (As := [.int x4_2]) (rest := []) B hw (c_X1_request l X fu x4_2 M_4 (r_7, M_8) h_6 _) cv_X1_215 (rc_1 B hw rfl) rfl hl.1 rfl rfl ⟨Nat.le_of_ble_eq_true rfl, Nat.le_of_ble_eq_true rfl⟩ (Nat.le_of_ble_eq_true rfl) ⟨Nat.le_of_ble_eq_true rfl, Nat.le_of_ble_eq_true rfl⟩ dX1_bind_29 rfl (fun H locs hw => ?_)
        refine lv_if_ne (tgt := 42) hx hb dX1_bind_32 (by decide) (fun c_9 => ?_) (fun c_9 => ?_)
        · have hf := ie_e hf c_9
          refine lv_iload hx hb dX1_bind_42 (lv_at hl 5 rfl) ?_
          refine lv_iconst (v := 4) hx hb dX1_bind_44 (by decide) ?_
          refine lv_iadd hx hb dX1_bind_45 ?_
          refine lv_aload_n hx hb dX1_bind_46 rfl (lv_at hl 0 rfl) ?_
          refine gt_X1_191 B hw (i := 120) rfl dX1_bind_47 ?_
          refine q_min B hl.1 (big_at 982 (by decide +kernel) (by decide +kernel)) (big_at 678 (by decide +kernel) (by decide +kernel)) (big_at 18 (by decide +kernel) (by decide +kernel)) (big_at 679 (by decide +kernel) (by decide +kernel)) (Nat.le_of_ble_eq_true rfl) (Nat.le_of_ble_eq_true rfl) (Nat.zero_le _) (Nat.zero_le _) dX1_bind_50 ?_
          refine r_topn hf (fun x6_10 hf => ?_)
          refine lv_istore (lv' := [(6, .int x6_10), (0, .ref (X.2.2 120)), (1, .int p1), (2, .int p2), (3, .int p3), (4, .int x4_2), (5, .int x5_3)]) hx hb dX1_bind_53 hl (by decide) rfl (fun ls hl => ?_)
          refine lv_aload_n hx hb dX1_bind_55 rfl (lv_at hl 1 rfl) ?_
          refine lv_iload_n hx hb dX1_bind_56 rfl (lv_at hl 2 rfl) ?_
          refine lv_iload_n hx hb dX1_bind_57 rfl (lv_at hl 3 rfl) ?_
          refine lv_iload hx hb dX1_bind_58 (lv_at hl 6 rfl) ?_
          refine lv_iload hx hb dX1_bind_60 (lv_at hl 0 rfl) ?_
          obtain ⟨r_12, M_13, h_11, hf⟩ := bm_e hf
          refine q_callVi (M' := M_13) (i := 120) (As := [.int p1, .int p2, .int x5_3, .int x6_10]) (rest := []) B hw (c_X1_receive l X fu p1 p2 x5_3 x6_10 M_8 (r_12, M_13) h_11 _) cv_X1_221 (rc_1 B hw rfl) rfl hl.1 rfl rfl ⟨Nat.le_of_ble_eq_true rfl, Nat.le_of_ble_eq_true rfl⟩ (Nat.le_of_ble_eq_true rfl) ⟨Nat.le_of_ble_eq_true rfl, Nat.le_of_ble_eq_true rfl⟩ dX1_bind_62 rfl (fun H locs hw => ?_)
          refine lv_pop hx hb dX1_bind_65 rfl ?_
          refine lv_iload hx hb dX1_bind_66 (lv_at hl 0 rfl) ?_
          refine lv_aload_n hx hb dX1_bind_68 rfl (lv_at hl 1 rfl) ?_
          refine gt_X1_191 B hw (i := 120) rfl dX1_bind_69 ?_
          refine lv_icmp_ge (tgt := 88) hx hb dX1_bind_72 (by decide) (fun c_14 => ?_) (fun c_14 => ?_)
          · have hf := it_e hf c_14
            refine r_iinc (v := (x5_3 + 4)) hx hb dX1_bind_88 hl (k := 6) rfl rfl (by decide) hf (fun x5_15 ls hl hf => ?_)
            have hl : lv_has ls 7 [(5, .int x5_15), (6, .int x6_10), (0, .ref (X.2.2 120)), (1, .int p1), (2, .int p2), (3, .int p3), (4, .int x4_2)] := hl
            refine lv_goto (tgt := 17) hx hb dX1_bind_91 (by decide) ?_
            exact ih_17 x5_15 M_13 _ _ _ hw (lv_sub hl [2, 3, 4, 5, 6, 0] rfl) hf
          · have hf := ie_e hf c_14
            refine lv_aload_n hx hb dX1_bind_75 rfl (lv_at hl 1 rfl) ?_
            refine gt_X1_31 B hw (i := 120) rfl dX1_bind_76 ?_
            refine gt_X1_137 B hw (i := 90) rfl dX1_bind_79 ?_
            refine lv_iload_n hx hb dX1_bind_82 rfl (lv_at hl 4 rfl) ?_
            refine lv_icmp_lt (tgt := 88) hx hb dX1_bind_83 (by decide) (fun c_16 => ?_) (fun c_16 => ?_)
            · have hf := it_e hf c_16
              refine r_iinc (v := (x5_3 + 4)) hx hb dX1_bind_88 hl (k := 6) rfl rfl (by decide) hf (fun x5_17 ls hl hf => ?_)
              have hl : lv_has ls 7 [(5, .int x5_17), (6, .int x6_10), (0, .ref (X.2.2 120)), (1, .int p1), (2, .int p2), (3, .int p3), (4, .int x4_2)] := hl
              refine lv_goto (tgt := 17) hx hb dX1_bind_91 (by decide) ?_
              exact ih_17 x5_17 M_13 _ _ _ hw (lv_sub hl [2, 3, 4, 5, 6, 0] rfl) hf
            · have hf := ie_e hf c_16
              refine lv_iconst (v := 2) hx hb dX1_bind_86 (by decide) ?_
              cases hf
              subst hQ
              exact q_iret B hr hlk hw rfl rfl dX1_bind_87
        · have hf := it_e hf c_9
          refine lv_aload_n hx hb dX1_bind_35 rfl (lv_at hl 0 rfl) ?_
          refine lv_iload_n hx hb dX1_bind_36 rfl (lv_at hl 1 rfl) ?_
          obtain ⟨M_19, h_18, hf⟩ := bd_e hf
          refine q_callVv (M' := M_19) (i := 120) (As := [.int p1]) (rest := []) B hw (c_X1_open l X fu p1 M_8 M_19 h_18 _) cv_X1_218 (rc_1 B hw rfl) rfl hl.1 rfl rfl ⟨Nat.le_of_ble_eq_true rfl, Nat.le_of_ble_eq_true rfl⟩ (Nat.le_of_ble_eq_true rfl) ⟨Nat.le_of_ble_eq_true rfl, Nat.le_of_ble_eq_true rfl⟩ dX1_bind_37 rfl (fun H locs hw => ?_)
          refine lv_iconst (v := 1) hx hb dX1_bind_40 (by decide) ?_
          cases hf
          subst hQ
          exact q_iret B hr hlk hw rfl rfl dX1_bind_41
  exact hL_17 fu 0 M _ _ _ hw (lv_sub hl [2, 3, 4, 5, 1, 0] rfl) hf
abbrev rm_X3_nextEntry : Room := { frames := 0, cells := 0, slots := 0, locals := 0 }
set_option maxRecDepth 100000 in
set_option maxHeartbeats 4000000 in
theorem c_X3_nextEntry (l : Launch) (X : XT) (fu : Nat) (M : Mem)  (rs : (Option Nat × Mem)) (hf : f_X3_nextEntry fu M = some rs) (sz : Nat) : Met l yX3_nextEntry (wbig yX3_nextEntry cX3_nextEntry 3 (some (.object "QueryHarbor$Entry"))) rm_X3_nextEntry (va_Pc [.ref (X.2.2 2)] (PW LC X M sz)) (QQ LC X rs.2 rs.1 sz) 0 0 (AX LC X sz) := by
  refine met_go (L := LC) (M := M) (by decide +kernel) (Nat.le_of_ble_eq_true rfl) ?_
  intro p e s m args below meth c hsz B hr hlk hw ls hl
  subst hsz
  have hx := B.hx
  have hb := B.hb
  have hl : lv_has ls 3 [(0, .ref (X.2.2 2))] := hl
  generalize hQ : MQ below _ args s 0 0 (AX LC X s.heap.size) = Q
  unfold f_X3_nextEntry at hf
  refine lv_aload_n hx hb dX3_nextEntry_0 rfl (lv_at hl 0 rfl) ?_
  refine gt_X3_29 B hw (i := 2) rfl dX3_nextEntry_1 ?_
  refine lv_bipush (v := 6) hx hb dX3_nextEntry_4 (by decide) ?_
  refine lv_icmp_ge (tgt := 31) hx hb dX3_nextEntry_6 (by decide) (fun c_1 => ?_) (fun c_1 => ?_)
  · have hf := it_e hf c_1
    refine lv_aload_n hx hb dX3_nextEntry_31 rfl (lv_at hl 0 rfl) ?_
    refine gt_X3_11 B hw (i := 2) rfl dX3_nextEntry_32 ?_
    refine lv_iconst (v := 0) hx hb dX3_nextEntry_35 (by decide) ?_
    refine c_aldE B hw (i := 3) rfl (by decide) dX3_nextEntry_36 ?_
    refine r_topr hf (fun e_2 hf => ?_)
    obtain ⟨he_2, hf⟩ := grd_e hf
    have he_2 := kb_e he_2
    refine lv_astore_n (lv' := [(1, .ref (X.2.2 e_2)), (0, .ref (X.2.2 2))]) hx hb dX3_nextEntry_37 rfl hl (by decide) rfl (fun ls hl => ?_)
    refine lv_iconst (v := 1) hx hb dX3_nextEntry_38 (by decide) ?_
    refine lv_istore_n (lv' := [(2, .int 1), (1, .ref (X.2.2 e_2)), (0, .ref (X.2.2 2))]) hx hb dX3_nextEntry_39 rfl hl (by decide) rfl (fun ls hl => ?_)
    refine jn_e hf (fun kk => ∀ (M_4 : Mem) (H : Heap) (locs : List Loc) (ls : Array Slot), HW LC X M_4 s H locs → lv_has ls 3 [(0, .ref (X.2.2 2)), (1, .ref (X.2.2 e_2))] → kk M_4 = some rs → W p l e rm_X3_nextEntry s m args below meth c H locs 0 0 Q (F0 m 66 ls [])) ?_ (fun k66_3 J66_3 hf => ?_)
    · intro M_4 H locs ls hw hl hf
      refine lv_aload_n hx hb dX3_nextEntry_66 rfl (lv_at hl 0 rfl) ?_
      refine gt_X3_11 B hw (i := 2) rfl dX3_nextEntry_67 ?_
      refine lv_iconst (v := 5) hx hb dX3_nextEntry_70 (by decide) ?_
      refine lv_aload_n hx hb dX3_nextEntry_71 rfl (lv_at hl 1 rfl) ?_
      refine c_astE B hw (i := 3) (v := e_2) rfl he_2 (by decide) dX3_nextEntry_72 hf (fun M_5 H locs hw hf => ?_)
      refine lv_aload_n hx hb dX3_nextEntry_73 rfl (lv_at hl 1 rfl) ?_
      cases hf
      subst hQ
      exact q_qret B hr hlk hw rfl rfl rfl dX3_nextEntry_74
    have hL_40 : ∀ (n_40 : Nat) (x2_6 : Int32) (M_7 : Mem) (H : Heap) (locs : List Loc) (ls : Array Slot), HW LC X M_7 s H locs → lv_has ls 3 [(0, .ref (X.2.2 2)), (1, .ref (X.2.2 e_2)), (2, .int x2_6)] → f_X3_nextEntry_L40 fu k66_3 n_40 x2_6 M_7 = some rs → W p l e rm_X3_nextEntry s m args below meth c H locs 0 0 Q (F0 m 40 ls []) := by
      intro n_40
      induction n_40 with
      | zero => intro x2_6 M_7 H locs ls hw hl hf; exact no_none hf
      | succ n_40 ih_40 =>
        intro x2_6 M_7 H locs ls hw hl hf
        rw [f_X3_nextEntry_L40] at hf
        refine lv_iload_n hx hb dX3_nextEntry_40 rfl (lv_at hl 2 rfl) ?_
        refine lv_bipush (v := 6) hx hb dX3_nextEntry_41 (by decide) ?_
        refine lv_icmp_ge (tgt := 66) hx hb dX3_nextEntry_43 (by decide) (fun c_8 => ?_) (fun c_8 => ?_)
        · have hf := it_e hf c_8
          exact J66_3 M_7 _ _ _ hw (lv_sub hl [0, 1] rfl) hf
        · have hf := ie_e hf c_8
          refine lv_aload_n hx hb dX3_nextEntry_46 rfl (lv_at hl 0 rfl) ?_
          refine gt_X3_11 B hw (i := 2) rfl dX3_nextEntry_47 ?_
          refine lv_iload_n hx hb dX3_nextEntry_50 rfl (lv_at hl 2 rfl) ?_
          refine lv_iconst (v := 1) hx hb dX3_nextEntry_51 (by decide) ?_
          refine lv_isub hx hb dX3_nextEntry_52 ?_
          refine lv_aload_n hx hb dX3_nextEntry_53 rfl (lv_at hl 0 rfl) ?_
          refine gt_X3_11 B hw (i := 2) rfl dX3_nextEntry_54 ?_
          refine lv_iload_n hx hb dX3_nextEntry_57 rfl (lv_at hl 2 rfl) ?_
          obtain ⟨g_9, hf⟩ := grd_e hf
          refine c_aldE B hw (i := 3) rfl g_9 dX3_nextEntry_58 ?_
          refine r_topr hf (fun e_10 hf => ?_)
          obtain ⟨he_10, hf⟩ := grd_e hf
          have he_10 := kb_e he_10
          obtain ⟨g_11, hf⟩ := grd_e hf
          refine c_astE B hw (i := 3) (v := e_10) rfl he_10 g_11 dX3_nextEntry_59 hf (fun M_12 H locs hw hf => ?_)
          refine r_iinc (v := (x2_6 + 1)) hx hb dX3_nextEntry_60 hl (k := 2) rfl rfl (by decide) hf (fun x2_13 ls hl hf => ?_)
          have hl : lv_has ls 3 [(2, .int x2_13), (0, .ref (X.2.2 2)), (1, .ref (X.2.2 e_2))] := hl
          refine lv_goto (tgt := 40) hx hb dX3_nextEntry_63 (by decide) ?_
          exact ih_40 x2_13 M_12 _ _ _ hw (lv_sub hl [1, 2, 0] rfl) hf
    exact hL_40 fu 1 M _ _ _ hw (lv_sub hl [2, 1, 0] rfl) hf
  · have hf := ie_e hf c_1
    refine lv_aload_n hx hb dX3_nextEntry_9 rfl (lv_at hl 0 rfl) ?_
    refine lv_dup hx hb dX3_nextEntry_10 rfl ?_
    refine gt_X3_29 B hw (i := 2) rfl dX3_nextEntry_11 ?_
    refine lv_iconst (v := 1) hx hb dX3_nextEntry_14 (by decide) ?_
    refine lv_iadd hx hb dX3_nextEntry_15 ?_
    refine pt_X3_29 B hw (i := 2) rfl dX3_nextEntry_16 hf (fun M_14 H locs hw hf => ?_)
    refine lv_aload_n hx hb dX3_nextEntry_19 rfl (lv_at hl 0 rfl) ?_
    refine gt_X3_11 B hw (i := 2) rfl dX3_nextEntry_20 ?_
    refine lv_aload_n hx hb dX3_nextEntry_23 rfl (lv_at hl 0 rfl) ?_
    refine gt_X3_29 B hw (i := 2) rfl dX3_nextEntry_24 ?_
    refine lv_iconst (v := 1) hx hb dX3_nextEntry_27 (by decide) ?_
    refine lv_isub hx hb dX3_nextEntry_28 ?_
    obtain ⟨g_15, hf⟩ := grd_e hf
    refine c_aldE B hw (i := 3) rfl g_15 dX3_nextEntry_29 ?_
    refine r_topr hf (fun e_16 hf => ?_)
    obtain ⟨he_16, hf⟩ := grd_e hf
    have he_16 := kb_e he_16
    cases hf
    subst hQ
    exact q_qret B hr hlk hw rfl rfl rfl dX3_nextEntry_30
abbrev rm_X5_keepConditions : Room := { frames := 2, cells := 0, slots := 0, locals := 44 }
set_option maxRecDepth 100000 in
set_option maxHeartbeats 4000000 in
theorem c_X5_keepConditions (l : Launch) (X : XT) (fu : Nat) (a0 : Nat) (p2 : Int32) (M : Mem) (ha0 : kC a0 = (5, 0)) (rs : Mem) (hf : f_X5_keepConditions fu a0 p2 M = some rs) (sz : Nat) : Met l yX5_keepConditions (wbig yX5_keepConditions cX5_keepConditions 4 none) rm_X5_keepConditions (va_Pc [.ref (X.2.2 a0), .ref (X.2.2 80), .int p2] (PW LC X M sz)) (QV LC X rs sz) 0 0 (AX LC X sz) := by
  refine met_go (L := LC) (M := M) (by decide +kernel) (Nat.le_of_ble_eq_true rfl) ?_
  intro p e s m args below meth c hsz B hr hlk hw ls hl
  subst hsz
  have hx := B.hx
  have hb := B.hb
  have hl : lv_has ls 4 [(0, .ref (X.2.2 a0)), (1, .ref (X.2.2 80)), (2, .int p2)] := hl
  generalize hQ : MQ below _ args s 0 0 (AX LC X s.heap.size) = Q
  unfold f_X5_keepConditions at hf
  refine lv_aload_n hx hb dX5_keepConditions_0 rfl (lv_at hl 0 rfl) ?_
  refine lv_iconst (v := 0) hx hb dX5_keepConditions_1 (by decide) ?_
  refine pt_X5_28 B hw (i := a0) ha0 dX5_keepConditions_2 hf (fun M_1 H locs hw hf => ?_)
  refine lv_iconst (v := 0) hx hb dX5_keepConditions_5 (by decide) ?_
  refine lv_istore_n (lv' := [(3, .int 0), (0, .ref (X.2.2 a0)), (1, .ref (X.2.2 80)), (2, .int p2)]) hx hb dX5_keepConditions_6 rfl hl (by decide) rfl (fun ls hl => ?_)
  have hL_7 : ∀ (n_7 : Nat) (x3_2 : Int32) (M_3 : Mem) (H : Heap) (locs : List Loc) (ls : Array Slot), HW LC X M_3 s H locs → lv_has ls 4 [(0, .ref (X.2.2 a0)), (1, .ref (X.2.2 80)), (2, .int p2), (3, .int x3_2)] → f_X5_keepConditions_L7 fu a0 p2 n_7 x3_2 M_3 = some rs → W p l e rm_X5_keepConditions s m args below meth c H locs 0 0 Q (F0 m 7 ls []) := by
    intro n_7
    induction n_7 with
    | zero => intro x3_2 M_3 H locs ls hw hl hf; exact no_none hf
    | succ n_7 ih_7 =>
      intro x3_2 M_3 H locs ls hw hl hf
      rw [f_X5_keepConditions_L7] at hf
      refine lv_iload_n hx hb dX5_keepConditions_7 rfl (lv_at hl 3 rfl) ?_
      refine lv_aload_n hx hb dX5_keepConditions_8 rfl (lv_at hl 1 rfl) ?_
      refine gt_X5_32 B hw (i := 80) rfl dX5_keepConditions_9 ?_
      refine lv_icmp_ge (tgt := 85) hx hb dX5_keepConditions_12 (by decide) (fun c_4 => ?_) (fun c_4 => ?_)
      · have hf := it_e hf c_4
        cases hf
        subst hQ
        exact q_vret B hr hlk hw rfl dX5_keepConditions_85
      · have hf := ie_e hf c_4
        refine lv_aload_n hx hb dX5_keepConditions_15 rfl (lv_at hl 1 rfl) ?_
        refine lv_iload_n hx hb dX5_keepConditions_16 rfl (lv_at hl 3 rfl) ?_
        refine lv_iload_n hx hb dX5_keepConditions_17 rfl (lv_at hl 2 rfl) ?_
        obtain ⟨r_6, h_5, hf⟩ := bd_e hf
        refine q_callVi (M' := M_3) (i := 80) (As := [.int x3_2, .int p2]) (rest := []) B hw (c_X4_isSent l X fu x3_2 p2 M_3 r_6 h_5 _) cv_X5_35 (rc_4 B hw rfl) rfl hl.1 rfl rfl ⟨Nat.le_of_ble_eq_true rfl, Nat.le_of_ble_eq_true rfl⟩ (Nat.le_of_ble_eq_true rfl) ⟨Nat.le_of_ble_eq_true rfl, Nat.le_of_ble_eq_true rfl⟩ dX5_keepConditions_18 rfl (fun H locs hw => ?_)
        refine lv_if_eq (tgt := 79) hx hb dX5_keepConditions_21 (by decide) (fun c_7 => ?_) (fun c_7 => ?_)
        · have hf := it_e hf c_7
          refine r_iinc (v := (x3_2 + 1)) hx hb dX5_keepConditions_79 hl (k := 3) rfl rfl (by decide) hf (fun x3_8 ls hl hf => ?_)
          have hl : lv_has ls 4 [(3, .int x3_8), (0, .ref (X.2.2 a0)), (1, .ref (X.2.2 80)), (2, .int p2)] := hl
          refine lv_goto (tgt := 7) hx hb dX5_keepConditions_82 (by decide) ?_
          exact ih_7 x3_8 M_3 _ _ _ hw (lv_sub hl [1, 2, 3, 0] rfl) hf
        · have hf := ie_e hf c_7
          refine lv_aload_n hx hb dX5_keepConditions_24 rfl (lv_at hl 0 rfl) ?_
          refine gt_X5_18 B hw (i := a0) ha0 dX5_keepConditions_25 ?_
          refine lv_aload_n hx hb dX5_keepConditions_28 rfl (lv_at hl 0 rfl) ?_
          refine gt_X5_28 B hw (i := a0) ha0 dX5_keepConditions_29 ?_
          refine lv_aload_n hx hb dX5_keepConditions_32 rfl (lv_at hl 1 rfl) ?_
          refine gt_X5_39 B hw (i := 80) rfl dX5_keepConditions_33 ?_
          refine lv_iload_n hx hb dX5_keepConditions_36 rfl (lv_at hl 3 rfl) ?_
          obtain ⟨g_9, hf⟩ := grd_e hf
          refine c_iald B hw (i := 85) rfl g_9 dX5_keepConditions_37 ?_
          obtain ⟨g_10, hf⟩ := grd_e hf
          refine c_iast B hw (i := (a0 + 4)) (kE4 ha0) g_10 dX5_keepConditions_38 hf (fun M_11 H locs hw hf => ?_)
          refine lv_aload_n hx hb dX5_keepConditions_39 rfl (lv_at hl 0 rfl) ?_
          refine gt_X5_22 B hw (i := a0) ha0 dX5_keepConditions_40 ?_
          refine lv_aload_n hx hb dX5_keepConditions_43 rfl (lv_at hl 0 rfl) ?_
          refine gt_X5_28 B hw (i := a0) ha0 dX5_keepConditions_44 ?_
          refine lv_aload_n hx hb dX5_keepConditions_47 rfl (lv_at hl 1 rfl) ?_
          refine gt_X5_42 B hw (i := 80) rfl dX5_keepConditions_48 ?_
          refine lv_iload_n hx hb dX5_keepConditions_51 rfl (lv_at hl 3 rfl) ?_
          refine c_iald B hw (i := 86) rfl g_9 dX5_keepConditions_52 ?_
          obtain ⟨g_12, hf⟩ := grd_e hf
          refine c_iast B hw (i := (a0 + 5)) (kE5 ha0) g_12 dX5_keepConditions_53 hf (fun M_13 H locs hw hf => ?_)
          refine lv_aload_n hx hb dX5_keepConditions_54 rfl (lv_at hl 0 rfl) ?_
          refine gt_X5_25 B hw (i := a0) ha0 dX5_keepConditions_55 ?_
          refine lv_aload_n hx hb dX5_keepConditions_58 rfl (lv_at hl 0 rfl) ?_
          refine gt_X5_28 B hw (i := a0) ha0 dX5_keepConditions_59 ?_
          refine lv_aload_n hx hb dX5_keepConditions_62 rfl (lv_at hl 1 rfl) ?_
          refine gt_X5_45 B hw (i := 80) rfl dX5_keepConditions_63 ?_
          refine lv_iload_n hx hb dX5_keepConditions_66 rfl (lv_at hl 3 rfl) ?_
          refine c_iald B hw (i := 87) rfl g_9 dX5_keepConditions_67 ?_
          obtain ⟨g_14, hf⟩ := grd_e hf
          refine c_iast B hw (i := (a0 + 6)) (kE6 ha0) g_14 dX5_keepConditions_68 hf (fun M_15 H locs hw hf => ?_)
          refine lv_aload_n hx hb dX5_keepConditions_69 rfl (lv_at hl 0 rfl) ?_
          refine lv_dup hx hb dX5_keepConditions_70 rfl ?_
          refine gt_X5_28 B hw (i := a0) ha0 dX5_keepConditions_71 ?_
          refine lv_iconst (v := 1) hx hb dX5_keepConditions_74 (by decide) ?_
          refine lv_iadd hx hb dX5_keepConditions_75 ?_
          refine pt_X5_28 B hw (i := a0) ha0 dX5_keepConditions_76 hf (fun M_16 H locs hw hf => ?_)
          refine r_iinc (v := (x3_2 + 1)) hx hb dX5_keepConditions_79 hl (k := 3) rfl rfl (by decide) hf (fun x3_17 ls hl hf => ?_)
          have hl : lv_has ls 4 [(3, .int x3_17), (0, .ref (X.2.2 a0)), (1, .ref (X.2.2 80)), (2, .int p2)] := hl
          refine lv_goto (tgt := 7) hx hb dX5_keepConditions_82 (by decide) ?_
          exact ih_7 x3_17 M_16 _ _ _ hw (lv_sub hl [1, 2, 3, 0] rfl) hf
  exact hL_7 fu 0 M_1 _ _ _ hw (lv_sub hl [1, 2, 3, 0] rfl) hf
abbrev rm_X3_keep : Room := { frames := 3, cells := 0, slots := 0, locals := 67 }
set_option maxRecDepth 100000 in
set_option maxHeartbeats 4000000 in
theorem c_X3_keep (l : Launch) (X : XT) (fu : Nat) (p2 : Int32) (a3 : Nat) (p4 : Int32) (M : Mem) (ha3 : kC a3 = (6, 0)) (rs : Mem) (hf : f_X3_keep fu p2 a3 p4 M = some rs) (sz : Nat) : Met l yX3_keep (wbig yX3_keep cX3_keep 6 none) rm_X3_keep (va_Pc [.ref (X.2.2 2), .ref (X.2.2 80), .int p2, .ref (X.2.2 a3), .int p4] (PW LC X M sz)) (QV LC X rs sz) 0 0 (AX LC X sz) := by
  refine met_go (L := LC) (M := M) (by decide +kernel) (Nat.le_of_ble_eq_true rfl) ?_
  intro p e s m args below meth c hsz B hr hlk hw ls hl
  subst hsz
  have hx := B.hx
  have hb := B.hb
  have hl : lv_has ls 6 [(0, .ref (X.2.2 2)), (1, .ref (X.2.2 80)), (2, .int p2), (3, .ref (X.2.2 a3)), (4, .int p4)] := hl
  generalize hQ : MQ below _ args s 0 0 (AX LC X s.heap.size) = Q
  unfold f_X3_keep at hf
  refine lv_aload_n hx hb dX3_keep_0 rfl (lv_at hl 0 rfl) ?_
  obtain ⟨r_2, M_3, h_1, hf⟩ := bm_e hf
  refine q_callVq (M' := M_3) (i := 2) (As := []) (rest := []) B hw (c_X3_nextEntry l X fu M (r_2, M_3) h_1 _) cv_X3_71 (rc_3 B hw rfl) rfl hl.1 rfl rfl ⟨Nat.le_of_ble_eq_true rfl, Nat.le_of_ble_eq_true rfl⟩ (Nat.le_of_ble_eq_true rfl) ⟨Nat.le_of_ble_eq_true rfl, Nat.le_of_ble_eq_true rfl⟩ dX3_keep_1 rfl (fun H locs hw => ?_)
  cases r_2 with
  | none =>
    have hf : _ = some rs := hf
    exact no_none hf
  | some e_4 =>
    obtain ⟨he_4, hf⟩ := grd_e (show grd _ _ = some rs from hf)
    have he_4 := kb_e he_4
    refine lv_astore (lv' := [(5, .ref (X.2.2 e_4)), (0, .ref (X.2.2 2)), (1, .ref (X.2.2 80)), (2, .int p2), (3, .ref (X.2.2 a3)), (4, .int p4)]) hx hb dX3_keep_4 hl (by decide) rfl (fun ls hl => ?_)
    refine lv_aload hx hb dX3_keep_6 (lv_at hl 0 rfl) ?_
    refine lv_aload_n hx hb dX3_keep_8 rfl (lv_at hl 2 rfl) ?_
    refine gt_X3_62 B hw (i := 80) rfl dX3_keep_9 ?_
    refine lv_iload_n hx hb dX3_keep_12 rfl (lv_at hl 3 rfl) ?_
    obtain ⟨g_5, hf⟩ := grd_e hf
    refine c_iald B hw (i := 81) rfl g_5 dX3_keep_13 ?_
    refine pt_X3_47 B hw (i := e_4) he_4 dX3_keep_14 hf (fun M_6 H locs hw hf => ?_)
    refine lv_aload hx hb dX3_keep_17 (lv_at hl 0 rfl) ?_
    refine lv_aload hx hb dX3_keep_19 (lv_at hl 0 rfl) ?_
    refine gt_X3_47 B hw (i := e_4) he_4 dX3_keep_21 ?_
    refine q_callNi (M' := M_6) (As := [.int (M_6 e_4 5)]) (rest := [.ref (X.2.2 e_4)]) B hw (c_X10_storeOf l X (M_6 e_4 5) _ rfl M_6 _) cn_X3_75 rfl hl.1 rfl rfl ⟨Nat.le_of_ble_eq_true rfl, Nat.le_of_ble_eq_true rfl⟩ (Nat.le_of_ble_eq_true rfl) ⟨Nat.le_of_ble_eq_true rfl, Nat.le_of_ble_eq_true rfl⟩ dX3_keep_24 rfl (fun H locs hw => ?_)
    refine pt_X3_44 B hw (i := e_4) he_4 dX3_keep_27 hf (fun M_7 H locs hw hf => ?_)
    refine lv_aload hx hb dX3_keep_30 (lv_at hl 0 rfl) ?_
    refine lv_aload_n hx hb dX3_keep_32 rfl (lv_at hl 1 rfl) ?_
    refine gt_X3_24 B hw (i := 2) rfl dX3_keep_33 ?_
    refine gt_X3_36 B hw (i := 1) rfl dX3_keep_36 ?_
    refine pt_X3_41 B hw (i := e_4) he_4 dX3_keep_39 hf (fun M_8 H locs hw hf => ?_)
    refine lv_aload hx hb dX3_keep_42 (lv_at hl 0 rfl) ?_
    refine lv_iload hx hb dX3_keep_44 (lv_at hl 5 rfl) ?_
    refine pt_X3_79 B hw (i := e_4) he_4 dX3_keep_46 hf (fun M_9 H locs hw hf => ?_)
    refine lv_aload hx hb dX3_keep_49 (lv_at hl 0 rfl) ?_
    refine lv_ldc (own := RX3) (v := 2147483647) hx hb B.hown (B.hts _ (big_at 1082 (by decide +kernel) (by decide +kernel))) dX3_keep_51 ?_
    refine pt_X3_50 B hw (i := e_4) he_4 dX3_keep_53 hf (fun M_10 H locs hw hf => ?_)
    refine lv_aload hx hb dX3_keep_56 (lv_at hl 0 rfl) ?_
    refine lv_ldc (own := RX3) (v := 2147483647) hx hb B.hown (B.hts _ (big_at 1082 (by decide +kernel) (by decide +kernel))) dX3_keep_58 ?_
    refine pt_X3_33 B hw (i := e_4) he_4 dX3_keep_60 hf (fun M_11 H locs hw hf => ?_)
    refine lv_aload hx hb dX3_keep_63 (lv_at hl 0 rfl) ?_
    refine gt_X3_83 B hw (i := e_4) he_4 dX3_keep_65 ?_
    refine lv_aload_n hx hb dX3_keep_68 rfl (lv_at hl 4 rfl) ?_
    obtain ⟨M_13, h_12, hf⟩ := bd_e hf
    refine q_callVv (M' := M_13) (i := (e_4 + 1)) (As := [.ref (X.2.2 a3)]) (rest := []) B hw (c_X6_copy l X fu (e_4 + 1) a3 M_11 (kE1 he_4) ha3 M_13 h_12 _) cv_X3_87 (rc_6 B hw (kE1 he_4)) rfl hl.1 rfl rfl ⟨Nat.le_of_ble_eq_true rfl, Nat.le_of_ble_eq_true rfl⟩ (Nat.le_of_ble_eq_true rfl) ⟨Nat.le_of_ble_eq_true rfl, Nat.le_of_ble_eq_true rfl⟩ dX3_keep_69 rfl (fun H locs hw => ?_)
    refine lv_aload hx hb dX3_keep_72 (lv_at hl 0 rfl) ?_
    refine lv_aload_n hx hb dX3_keep_74 rfl (lv_at hl 2 rfl) ?_
    refine lv_iload_n hx hb dX3_keep_75 rfl (lv_at hl 3 rfl) ?_
    obtain ⟨M_15, h_14, hf⟩ := bd_e hf
    refine q_callVv (M' := M_15) (i := e_4) (As := [.ref (X.2.2 80), .int p2]) (rest := []) B hw (c_X5_keepConditions l X fu e_4 p2 M_13 he_4 M_15 h_14 _) cv_X3_93 (rc_5 B hw he_4) rfl hl.1 rfl rfl ⟨Nat.le_of_ble_eq_true rfl, Nat.le_of_ble_eq_true rfl⟩ (Nat.le_of_ble_eq_true rfl) ⟨Nat.le_of_ble_eq_true rfl, Nat.le_of_ble_eq_true rfl⟩ dX3_keep_76 rfl (fun H locs hw => ?_)
    cases hf
    subst hQ
    exact q_vret B hr hlk hw rfl dX3_keep_79
abbrev rm_X1_scan : Room := { frames := 4, cells := 0, slots := 0, locals := 98 }
set_option maxRecDepth 100000 in
set_option maxHeartbeats 4000000 in
theorem c_X1_scan (l : Launch) (X : XT) (fu : Nat) (p1 : Int32) (M : Mem)  (rs : Mem) (hf : f_X1_scan fu p1 M = some rs) (sz : Nat) : Met l yX1_scan (wbig yX1_scan cX1_scan 3 none) rm_X1_scan (va_Pc [.ref (X.2.2 120), .int p1] (PW LC X M sz)) (QV LC X rs sz) 0 0 (AX LC X sz) := by
  refine met_go (L := LC) (M := M) (by decide +kernel) (Nat.le_of_ble_eq_true rfl) ?_
  intro p e s m args below meth c hsz B hr hlk hw ls hl
  subst hsz
  have hx := B.hx
  have hb := B.hb
  have hl : lv_has ls 3 [(0, .ref (X.2.2 120)), (1, .int p1)] := hl
  generalize hQ : MQ below _ args s 0 0 (AX LC X s.heap.size) = Q
  unfold f_X1_scan at hf
  refine lv_aload_n hx hb dX1_scan_0 rfl (lv_at hl 0 rfl) ?_
  refine gt_X1_27 B hw (i := 120) rfl dX1_scan_1 ?_
  refine gt_X1_80 B hw (i := 80) rfl dX1_scan_4 ?_
  refine lv_iload_n hx hb dX1_scan_7 rfl (lv_at hl 1 rfl) ?_
  obtain ⟨g_1, hf⟩ := grd_e hf
  refine c_iald B hw (i := 81) rfl g_1 dX1_scan_8 ?_
  refine r_topn hf (fun x2_2 hf => ?_)
  refine lv_istore_n (lv' := [(2, .int x2_2), (0, .ref (X.2.2 120)), (1, .int p1)]) hx hb dX1_scan_9 rfl hl (by decide) rfl (fun ls hl => ?_)
  refine lv_aload_n hx hb dX1_scan_10 rfl (lv_at hl 1 rfl) ?_
  refine gt_X1_31 B hw (i := 120) rfl dX1_scan_11 ?_
  refine gt_X1_88 B hw (i := 90) rfl dX1_scan_14 ?_
  refine lv_iload_n hx hb dX1_scan_17 rfl (lv_at hl 2 rfl) ?_
  refine c_aldR B hw (i := 95) rfl g_1 dX1_scan_18 ?_
  refine r_topk (kV rfl g_1) hf (fun a_3 ha_3 hf => ?_)
  refine lv_iconst (v := 0) hx hb dX1_scan_19 (by decide) ?_
  refine pt_X1_200 B hw (i := a_3) ha_3 dX1_scan_20 hf (fun M_4 H locs hw hf => ?_)
  refine lv_aload_n hx hb dX1_scan_23 rfl (lv_at hl 1 rfl) ?_
  refine gt_X1_31 B hw (i := 120) rfl dX1_scan_24 ?_
  refine lv_dup hx hb dX1_scan_27 rfl ?_
  refine gt_X1_57 B hw (i := 90) rfl dX1_scan_28 ?_
  refine lv_iconst (v := 1) hx hb dX1_scan_31 (by decide) ?_
  refine lv_iload_n hx hb dX1_scan_32 rfl (lv_at hl 2 rfl) ?_
  refine lv_ishl hx hb dX1_scan_33 ?_
  refine lv_iconst (v := (-1)) hx hb dX1_scan_34 (by decide) ?_
  refine lv_ixor hx hb dX1_scan_35 ?_
  refine lv_iand hx hb dX1_scan_36 ?_
  refine pt_X1_57 B hw (i := 90) rfl dX1_scan_37 hf (fun M_5 H locs hw hf => ?_)
  refine lv_aload_n hx hb dX1_scan_40 rfl (lv_at hl 1 rfl) ?_
  refine lv_iload_n hx hb dX1_scan_41 rfl (lv_at hl 0 rfl) ?_
  refine q_callNi (M' := M_5) (As := [.int x2_2]) (rest := [.ref (X.2.2 120)]) B hw (c_X10_storeOf l X x2_2 _ rfl M_5 _) cn_X1_128 rfl hl.1 rfl rfl ⟨Nat.le_of_ble_eq_true rfl, Nat.le_of_ble_eq_true rfl⟩ (Nat.le_of_ble_eq_true rfl) ⟨Nat.le_of_ble_eq_true rfl, Nat.le_of_ble_eq_true rfl⟩ dX1_scan_42 rfl (fun H locs hw => ?_)
  obtain ⟨r_7, M_8, h_6, hf⟩ := bm_e hf
  refine q_callVi (M' := M_8) (i := 120) (As := [.int (f_X10_storeOf x2_2)]) (rest := []) B hw (c_X1_request l X fu (f_X10_storeOf x2_2) M_5 (r_7, M_8) h_6 _) cv_X1_215 (rc_1 B hw rfl) rfl hl.1 rfl rfl ⟨Nat.le_of_ble_eq_true rfl, Nat.le_of_ble_eq_true rfl⟩ (Nat.le_of_ble_eq_true rfl) ⟨Nat.le_of_ble_eq_true rfl, Nat.le_of_ble_eq_true rfl⟩ dX1_scan_45 rfl (fun H locs hw => ?_)
  refine lv_if_ne (tgt := 59) hx hb dX1_scan_48 (by decide) (fun c_9 => ?_) (fun c_9 => ?_)
  · have hf := ie_e hf c_9
    refine lv_aload_n hx hb dX1_scan_59 rfl (lv_at hl 1 rfl) ?_
    refine lv_iload_n hx hb dX1_scan_60 rfl (lv_at hl 2 rfl) ?_
    refine lv_iconst (v := (-1)) hx hb dX1_scan_61 (by decide) ?_
    refine lv_iconst (v := 0) hx hb dX1_scan_62 (by decide) ?_
    refine lv_iconst (v := 0) hx hb dX1_scan_63 (by decide) ?_
    obtain ⟨r_11, M_12, h_10, hf⟩ := bm_e hf
    refine q_callVi (M' := M_12) (i := 120) (As := [.int p1, .int (-1), .int 0, .int 0]) (rest := []) B hw (c_X1_receive l X fu p1 (-1) 0 0 M_8 (r_11, M_12) h_10 _) cv_X1_221 (rc_1 B hw rfl) rfl hl.1 rfl rfl ⟨Nat.le_of_ble_eq_true rfl, Nat.le_of_ble_eq_true rfl⟩ (Nat.le_of_ble_eq_true rfl) ⟨Nat.le_of_ble_eq_true rfl, Nat.le_of_ble_eq_true rfl⟩ dX1_scan_64 rfl (fun H locs hw => ?_)
    refine lv_if_eq (tgt := 132) hx hb dX1_scan_67 (by decide) (fun c_13 => ?_) (fun c_13 => ?_)
    · have hf := it_e hf c_13
      cases hf
      subst hQ
      exact q_vret B hr hlk hw rfl dX1_scan_132
    · have hf := ie_e hf c_13
      refine lv_aload_n hx hb dX1_scan_70 rfl (lv_at hl 1 rfl) ?_
      refine gt_X1_27 B hw (i := 120) rfl dX1_scan_71 ?_
      refine lv_iload_n hx hb dX1_scan_74 rfl (lv_at hl 2 rfl) ?_
      obtain ⟨r_15, h_14, hf⟩ := bd_e hf
      refine q_callVi (M' := M_12) (i := 80) (As := [.int p1]) (rest := []) B hw (c_X4_sentOf l X fu p1 M_12 r_15 h_14 _) cv_X1_178 (rc_4 B hw rfl) rfl hl.1 rfl rfl ⟨Nat.le_of_ble_eq_true rfl, Nat.le_of_ble_eq_true rfl⟩ (Nat.le_of_ble_eq_true rfl) ⟨Nat.le_of_ble_eq_true rfl, Nat.le_of_ble_eq_true rfl⟩ dX1_scan_75 rfl (fun H locs hw => ?_)
      refine jn_e hf (fun kk => ∀ (M_17 : Mem) (H : Heap) (locs : List Loc) (ls : Array Slot), HW LC X M_17 s H locs → lv_has ls 3 [(0, .ref (X.2.2 120)), (1, .int p1), (2, .int x2_2)] → kk M_17 = some rs → W p l e rm_X1_scan s m args below meth c H locs 0 0 Q (F0 m 102 ls [])) ?_ (fun k102_16 J102_16 hf => ?_)
      · intro M_17 H locs ls hw hl hf
        refine lv_aload_n hx hb dX1_scan_102 rfl (lv_at hl 0 rfl) ?_
        refine gt_X1_23 B hw (i := 120) rfl dX1_scan_103 ?_
        refine lv_aload_n hx hb dX1_scan_106 rfl (lv_at hl 0 rfl) ?_
        refine gt_X1_27 B hw (i := 120) rfl dX1_scan_107 ?_
        refine lv_iload_n hx hb dX1_scan_110 rfl (lv_at hl 1 rfl) ?_
        refine lv_aload_n hx hb dX1_scan_111 rfl (lv_at hl 0 rfl) ?_
        refine gt_X1_31 B hw (i := 120) rfl dX1_scan_112 ?_
        refine gt_X1_88 B hw (i := 90) rfl dX1_scan_115 ?_
        refine lv_iload_n hx hb dX1_scan_118 rfl (lv_at hl 1 rfl) ?_
        refine c_aldR B hw (i := 95) rfl g_1 dX1_scan_119 ?_
        refine r_topk (kV rfl g_1) hf (fun a_18 ha_18 hf => ?_)
        refine lv_aload_n hx hb dX1_scan_120 rfl (lv_at hl 0 rfl) ?_
        refine gt_X1_19 B hw (i := 120) rfl dX1_scan_121 ?_
        refine gt_X1_112 B hw (i := 57) rfl dX1_scan_124 ?_
        refine lv_iload_n hx hb dX1_scan_127 rfl (lv_at hl 2 rfl) ?_
        obtain ⟨g_19, hf⟩ := grd_e hf
        refine c_iald B hw (i := 60) rfl g_19 dX1_scan_128 ?_
        obtain ⟨M_21, h_20, hf⟩ := bd_e hf
        refine q_callVv (M' := M_21) (i := 2) (As := [.ref (X.2.2 80), .int p1, .ref (X.2.2 a_18), .int (M_17 60 x2_2.toNatClampNeg)]) (rest := []) B hw (c_X3_keep l X fu p1 a_18 (M_17 60 x2_2.toNatClampNeg) M_17 ha_18 M_21 h_20 _) cv_X1_225 (rc_3 B hw rfl) rfl hl.1 rfl rfl ⟨Nat.le_of_ble_eq_true rfl, Nat.le_of_ble_eq_true rfl⟩ (Nat.le_of_ble_eq_true rfl) ⟨Nat.le_of_ble_eq_true rfl, Nat.le_of_ble_eq_true rfl⟩ dX1_scan_129 rfl (fun H locs hw => ?_)
        cases hf
        subst hQ
        exact q_vret B hr hlk hw rfl dX1_scan_132
      refine lv_if_ne (tgt := 102) hx hb dX1_scan_78 (by decide) (fun c_22 => ?_) (fun c_22 => ?_)
      · have hf := ie_e hf c_22
        exact J102_16 M_12 _ _ _ hw (lv_sub hl [1, 2, 0] rfl) hf
      · have hf := it_e hf c_22
        refine lv_aload_n hx hb dX1_scan_81 rfl (lv_at hl 1 rfl) ?_
        refine gt_X1_19 B hw (i := 120) rfl dX1_scan_82 ?_
        refine gt_X1_175 B hw (i := 57) rfl dX1_scan_85 ?_
        refine lv_iload_n hx hb dX1_scan_88 rfl (lv_at hl 0 rfl) ?_
        refine lv_aload_n hx hb dX1_scan_89 rfl (lv_at hl 1 rfl) ?_
        refine gt_X1_31 B hw (i := 120) rfl dX1_scan_90 ?_
        refine gt_X1_88 B hw (i := 90) rfl dX1_scan_93 ?_
        refine lv_iload_n hx hb dX1_scan_96 rfl (lv_at hl 2 rfl) ?_
        refine c_aldR B hw (i := 95) rfl g_1 dX1_scan_97 ?_
        refine r_topk (kV rfl g_1) hf (fun a_23 ha_23 hf => ?_)
        refine gt_X1_200 B hw (i := a_23) ha_23 dX1_scan_98 ?_
        obtain ⟨g_24, hf⟩ := grd_e hf
        refine c_iast B hw (i := 59) rfl g_24 dX1_scan_101 hf (fun M_25 H locs hw hf => ?_)
        exact J102_16 M_25 _ _ _ hw (lv_sub hl [1, 2, 0] rfl) hf
  · have hf := it_e hf c_9
    refine lv_aload_n hx hb dX1_scan_51 rfl (lv_at hl 1 rfl) ?_
    refine lv_iload_n hx hb dX1_scan_52 rfl (lv_at hl 2 rfl) ?_
    obtain ⟨M_27, h_26, hf⟩ := bd_e hf
    refine q_callVv (M' := M_27) (i := 120) (As := [.int p1]) (rest := []) B hw (c_X1_open l X fu p1 M_8 M_27 h_26 _) cv_X1_218 (rc_1 B hw rfl) rfl hl.1 rfl rfl ⟨Nat.le_of_ble_eq_true rfl, Nat.le_of_ble_eq_true rfl⟩ (Nat.le_of_ble_eq_true rfl) ⟨Nat.le_of_ble_eq_true rfl, Nat.le_of_ble_eq_true rfl⟩ dX1_scan_53 rfl (fun H locs hw => ?_)
    refine lv_goto (tgt := 132) hx hb dX1_scan_56 (by decide) ?_
    cases hf
    subst hQ
    exact q_vret B hr hlk hw rfl dX1_scan_132
