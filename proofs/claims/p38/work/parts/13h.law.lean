abbrev rm_L_holds : Room := { frames := 1, cells := 0, slots := 0, locals := 20 }
set_option maxRecDepth 100000 in
set_option maxHeartbeats 8000000 in
theorem c_L_holds (l : Launch) (ex : List (Nat × Nat)) (X : XT) (p0 : Int32) (p1 : Int32) (p2 : Int32)  (rs : Int32) (hf : f_L_holds p0 p1 p2 = rs) (M : Mem) (sz : Nat) : Met l yL_holds (wbig yL_holds cL_holds 3 (some .boolean)) rm_L_holds (va_Pc [.int p0, .int p1, .int p2] (PW (LW ex) X M sz)) (QI (LW ex) X M rs sz) 0 0 (AX (LW ex) X sz) := by
  refine met_go (L := (LW ex)) (M := M) (by decide +kernel) (Nat.le_of_ble_eq_true rfl) ?_
  intro p e s m args below meth c hsz B hr hlk hw ls hl
  subst hsz
  have hx := B.hx
  have hb := B.hb
  have hl : lv_has ls 3 [(0, .int p0), (1, .int p1), (2, .int p2)] := hl
  generalize hQ : MQ below _ args s 0 0 (AX (LW ex) X s.heap.size) = Q
  unfold f_L_holds at hf
  refine lv_iload_n hx hb dL_holds_0 rfl (lv_at hl 0 rfl) ?_
  refine lv_iconst (v := 3) hx hb dL_holds_1 (by decide) ?_
  refine lv_icmp_ne (tgt := 20) hx hb dL_holds_2 (by decide) (fun c_1 => ?_) (fun c_1 => ?_)
  · have hf := ie_e hf c_1
    refine lv_iload_n hx hb dL_holds_20 rfl (lv_at hl 0 rfl) ?_
    refine lv_iconst (v := 4) hx hb dL_holds_21 (by decide) ?_
    refine lv_icmp_ne (tgt := 40) hx hb dL_holds_22 (by decide) (fun c_2 => ?_) (fun c_2 => ?_)
    · have hf := ie_e hf c_2
      refine lv_iload_n hx hb dL_holds_40 rfl (lv_at hl 2 rfl) ?_
      refine q_callSi (M' := M) (As := [.int p2]) (rest := []) B hw (c_L_isNumber l _ X p2 _ rfl M _) cs_L_109 rfl hl.1 rfl rfl ⟨(Nat.le_of_ble_eq_true rfl), (Nat.le_of_ble_eq_true rfl)⟩ (Nat.le_of_ble_eq_true rfl) ⟨(Nat.le_of_ble_eq_true rfl), (Nat.le_of_ble_eq_true rfl)⟩ dL_holds_41 rfl (fun H locs hw => ?_)
      refine lv_if_eq (tgt := 81) hx hb dL_holds_44 (by decide) (fun c_4 => ?_) (fun c_4 => ?_)
      · have hf := it_e hf c_4
        refine lv_iconst (v := 0) hx hb dL_holds_81 (by decide) ?_
        subst hf
        subst hQ
        exact q_zret B hr hlk rfl hw rfl rfl dL_holds_82
      · have hf := ie_e hf c_4
        refine lv_iload_n hx hb dL_holds_47 rfl (lv_at hl 0 rfl) ?_
        refine lv_if_ne (tgt := 59) hx hb dL_holds_48 (by decide) (fun c_5 => ?_) (fun c_5 => ?_)
        · have hf := ie_e hf c_5
          refine lv_iload_n hx hb dL_holds_59 rfl (lv_at hl 0 rfl) ?_
          refine lv_iconst (v := 1) hx hb dL_holds_60 (by decide) ?_
          refine lv_icmp_ne (tgt := 72) hx hb dL_holds_61 (by decide) (fun c_6 => ?_) (fun c_6 => ?_)
          · have hf := ie_e hf c_6
            refine lv_iload_n hx hb dL_holds_72 rfl (lv_at hl 2 rfl) ?_
            refine lv_iload_n hx hb dL_holds_73 rfl (lv_at hl 1 rfl) ?_
            refine lv_icmp_le (tgt := 81) hx hb dL_holds_74 (by decide) (fun c_7 => ?_) (fun c_7 => ?_)
            · have hf := it_e hf c_7
              refine lv_iconst (v := 0) hx hb dL_holds_81 (by decide) ?_
              subst hf
              subst hQ
              exact q_zret B hr hlk rfl hw rfl rfl dL_holds_82
            · have hf := ie_e hf c_7
              refine lv_iconst (v := 1) hx hb dL_holds_77 (by decide) ?_
              refine lv_goto (tgt := 82) hx hb dL_holds_78 (by decide) ?_
              subst hf
              subst hQ
              exact q_zret B hr hlk rfl hw rfl rfl dL_holds_82
          · have hf := it_e hf c_6
            refine lv_iload_n hx hb dL_holds_64 rfl (lv_at hl 2 rfl) ?_
            refine lv_iload_n hx hb dL_holds_65 rfl (lv_at hl 1 rfl) ?_
            refine lv_icmp_ge (tgt := 81) hx hb dL_holds_66 (by decide) (fun c_8 => ?_) (fun c_8 => ?_)
            · have hf := it_e hf c_8
              refine lv_iconst (v := 0) hx hb dL_holds_81 (by decide) ?_
              subst hf
              subst hQ
              exact q_zret B hr hlk rfl hw rfl rfl dL_holds_82
            · have hf := ie_e hf c_8
              refine lv_goto (tgt := 77) hx hb dL_holds_69 (by decide) ?_
              refine lv_iconst (v := 1) hx hb dL_holds_77 (by decide) ?_
              refine lv_goto (tgt := 82) hx hb dL_holds_78 (by decide) ?_
              subst hf
              subst hQ
              exact q_zret B hr hlk rfl hw rfl rfl dL_holds_82
        · have hf := it_e hf c_5
          refine lv_iload_n hx hb dL_holds_51 rfl (lv_at hl 2 rfl) ?_
          refine lv_iload_n hx hb dL_holds_52 rfl (lv_at hl 1 rfl) ?_
          refine lv_icmp_ne (tgt := 81) hx hb dL_holds_53 (by decide) (fun c_9 => ?_) (fun c_9 => ?_)
          · have hf := ie_e hf c_9
            refine lv_iconst (v := 0) hx hb dL_holds_81 (by decide) ?_
            subst hf
            subst hQ
            exact q_zret B hr hlk rfl hw rfl rfl dL_holds_82
          · have hf := it_e hf c_9
            refine lv_goto (tgt := 77) hx hb dL_holds_56 (by decide) ?_
            refine lv_iconst (v := 1) hx hb dL_holds_77 (by decide) ?_
            refine lv_goto (tgt := 82) hx hb dL_holds_78 (by decide) ?_
            subst hf
            subst hQ
            exact q_zret B hr hlk rfl hw rfl rfl dL_holds_82
    · have hf := it_e hf c_2
      refine lv_iload_n hx hb dL_holds_25 rfl (lv_at hl 2 rfl) ?_
      refine lv_sipush (v := 5001) hx hb dL_holds_26 (by decide) ?_
      refine lv_icmp_ne (tgt := 36) hx hb dL_holds_29 (by decide) (fun c_10 => ?_) (fun c_10 => ?_)
      · have hf := ie_e hf c_10
        refine lv_iconst (v := 0) hx hb dL_holds_36 (by decide) ?_
        refine lv_goto (tgt := 82) hx hb dL_holds_37 (by decide) ?_
        subst hf
        subst hQ
        exact q_zret B hr hlk rfl hw rfl rfl dL_holds_82
      · have hf := it_e hf c_10
        refine lv_iconst (v := 1) hx hb dL_holds_32 (by decide) ?_
        refine lv_goto (tgt := 82) hx hb dL_holds_33 (by decide) ?_
        subst hf
        subst hQ
        exact q_zret B hr hlk rfl hw rfl rfl dL_holds_82
  · have hf := it_e hf c_1
    refine lv_iload_n hx hb dL_holds_5 rfl (lv_at hl 2 rfl) ?_
    refine lv_sipush (v := 5000) hx hb dL_holds_6 (by decide) ?_
    refine lv_icmp_ne (tgt := 16) hx hb dL_holds_9 (by decide) (fun c_11 => ?_) (fun c_11 => ?_)
    · have hf := ie_e hf c_11
      refine lv_iconst (v := 0) hx hb dL_holds_16 (by decide) ?_
      refine lv_goto (tgt := 82) hx hb dL_holds_17 (by decide) ?_
      subst hf
      subst hQ
      exact q_zret B hr hlk rfl hw rfl rfl dL_holds_82
    · have hf := it_e hf c_11
      refine lv_iconst (v := 1) hx hb dL_holds_12 (by decide) ?_
      refine lv_goto (tgt := 82) hx hb dL_holds_13 (by decide) ?_
      subst hf
      subst hQ
      exact q_zret B hr hlk rfl hw rfl rfl dL_holds_82
theorem isb_f_L_holds (p0 : Int32) (p1 : Int32) (p2 : Int32) : isb (f_L_holds p0 p1 p2) = true := by
  unfold f_L_holds
  try simp only [jn, nm]
  repeat' first | apply isb_ite | exact isb_0 | exact isb_1 | apply isb_f_L_isNumber
abbrev rm_L_done : Room := { frames := 0, cells := 0, slots := 0, locals := 0 }
set_option maxRecDepth 100000 in
set_option maxHeartbeats 8000000 in
theorem c_L_done (l : Launch) (ex : List (Nat × Nat)) (X : XT) (p0 : Int32) (p1 : Int32) (p2 : Int32)  (rs : Int32) (hf : f_L_done p0 p1 p2 = rs) (M : Mem) (sz : Nat) : Met l yL_done (wbig yL_done cL_done 3 (some .boolean)) rm_L_done (va_Pc [.int p0, .int p1, .int p2] (PW (LW ex) X M sz)) (QI (LW ex) X M rs sz) 0 0 (AX (LW ex) X sz) := by
  refine met_go (L := (LW ex)) (M := M) (by decide +kernel) (Nat.le_of_ble_eq_true rfl) ?_
  intro p e s m args below meth c hsz B hr hlk hw ls hl
  subst hsz
  have hx := B.hx
  have hb := B.hb
  have hl : lv_has ls 3 [(0, .int p0), (1, .int p1), (2, .int p2)] := hl
  generalize hQ : MQ below _ args s 0 0 (AX (LW ex) X s.heap.size) = Q
  unfold f_L_done at hf
  refine lv_iload_n hx hb dL_done_0 rfl (lv_at hl 0 rfl) ?_
  refine lv_if_ne (tgt := 17) hx hb dL_done_1 (by decide) (fun c_1 => ?_) (fun c_1 => ?_)
  · have hf := ie_e hf c_1
    refine lv_iload_n hx hb dL_done_17 rfl (lv_at hl 0 rfl) ?_
    refine lv_iconst (v := 1) hx hb dL_done_18 (by decide) ?_
    refine lv_icmp_ne (tgt := 39) hx hb dL_done_19 (by decide) (fun c_2 => ?_) (fun c_2 => ?_)
    · have hf := ie_e hf c_2
      refine lv_iload_n hx hb dL_done_39 rfl (lv_at hl 2 rfl) ?_
      refine lv_if_eq (tgt := 57) hx hb dL_done_40 (by decide) (fun c_3 => ?_) (fun c_3 => ?_)
      · have hf := it_e hf c_3
        refine lv_iconst (v := 1) hx hb dL_done_57 (by decide) ?_
        refine lv_goto (tgt := 62) hx hb dL_done_58 (by decide) ?_
        subst hf
        subst hQ
        exact q_zret B hr hlk rfl hw rfl rfl dL_done_62
      · have hf := ie_e hf c_3
        refine lv_iload_n hx hb dL_done_43 rfl (lv_at hl 2 rfl) ?_
        refine lv_iconst (v := 4) hx hb dL_done_44 (by decide) ?_
        refine lv_icmp_eq (tgt := 57) hx hb dL_done_45 (by decide) (fun c_4 => ?_) (fun c_4 => ?_)
        · have hf := it_e hf c_4
          refine lv_iconst (v := 1) hx hb dL_done_57 (by decide) ?_
          refine lv_goto (tgt := 62) hx hb dL_done_58 (by decide) ?_
          subst hf
          subst hQ
          exact q_zret B hr hlk rfl hw rfl rfl dL_done_62
        · have hf := ie_e hf c_4
          refine lv_iload_n hx hb dL_done_48 rfl (lv_at hl 2 rfl) ?_
          refine lv_iconst (v := 3) hx hb dL_done_49 (by decide) ?_
          refine lv_icmp_ge (tgt := 61) hx hb dL_done_50 (by decide) (fun c_5 => ?_) (fun c_5 => ?_)
          · have hf := it_e hf c_5
            refine lv_iconst (v := 0) hx hb dL_done_61 (by decide) ?_
            subst hf
            subst hQ
            exact q_zret B hr hlk rfl hw rfl rfl dL_done_62
          · have hf := ie_e hf c_5
            refine lv_iload_n hx hb dL_done_53 rfl (lv_at hl 1 rfl) ?_
            refine lv_if_ne (tgt := 61) hx hb dL_done_54 (by decide) (fun c_6 => ?_) (fun c_6 => ?_)
            · have hf := ie_e hf c_6
              refine lv_iconst (v := 0) hx hb dL_done_61 (by decide) ?_
              subst hf
              subst hQ
              exact q_zret B hr hlk rfl hw rfl rfl dL_done_62
            · have hf := it_e hf c_6
              refine lv_iconst (v := 1) hx hb dL_done_57 (by decide) ?_
              refine lv_goto (tgt := 62) hx hb dL_done_58 (by decide) ?_
              subst hf
              subst hQ
              exact q_zret B hr hlk rfl hw rfl rfl dL_done_62
    · have hf := it_e hf c_2
      refine lv_iload_n hx hb dL_done_22 rfl (lv_at hl 1 rfl) ?_
      refine lv_if_ne (tgt := 35) hx hb dL_done_23 (by decide) (fun c_7 => ?_) (fun c_7 => ?_)
      · have hf := ie_e hf c_7
        refine lv_iconst (v := 0) hx hb dL_done_35 (by decide) ?_
        refine lv_goto (tgt := 62) hx hb dL_done_36 (by decide) ?_
        subst hf
        subst hQ
        exact q_zret B hr hlk rfl hw rfl rfl dL_done_62
      · have hf := it_e hf c_7
        refine lv_iload_n hx hb dL_done_26 rfl (lv_at hl 2 rfl) ?_
        refine lv_iconst (v := 3) hx hb dL_done_27 (by decide) ?_
        refine lv_icmp_ge (tgt := 35) hx hb dL_done_28 (by decide) (fun c_8 => ?_) (fun c_8 => ?_)
        · have hf := it_e hf c_8
          refine lv_iconst (v := 0) hx hb dL_done_35 (by decide) ?_
          refine lv_goto (tgt := 62) hx hb dL_done_36 (by decide) ?_
          subst hf
          subst hQ
          exact q_zret B hr hlk rfl hw rfl rfl dL_done_62
        · have hf := ie_e hf c_8
          refine lv_iconst (v := 1) hx hb dL_done_31 (by decide) ?_
          refine lv_goto (tgt := 62) hx hb dL_done_32 (by decide) ?_
          subst hf
          subst hQ
          exact q_zret B hr hlk rfl hw rfl rfl dL_done_62
  · have hf := it_e hf c_1
    refine lv_iload_n hx hb dL_done_4 rfl (lv_at hl 2 rfl) ?_
    refine lv_iconst (v := 4) hx hb dL_done_5 (by decide) ?_
    refine lv_icmp_ge (tgt := 13) hx hb dL_done_6 (by decide) (fun c_9 => ?_) (fun c_9 => ?_)
    · have hf := it_e hf c_9
      refine lv_iconst (v := 0) hx hb dL_done_13 (by decide) ?_
      refine lv_goto (tgt := 62) hx hb dL_done_14 (by decide) ?_
      subst hf
      subst hQ
      exact q_zret B hr hlk rfl hw rfl rfl dL_done_62
    · have hf := ie_e hf c_9
      refine lv_iconst (v := 1) hx hb dL_done_9 (by decide) ?_
      refine lv_goto (tgt := 62) hx hb dL_done_10 (by decide) ?_
      subst hf
      subst hQ
      exact q_zret B hr hlk rfl hw rfl rfl dL_done_62
theorem isb_f_L_done (p0 : Int32) (p1 : Int32) (p2 : Int32) : isb (f_L_done p0 p1 p2) = true := by
  unfold f_L_done
  try simp only [jn, nm]
  repeat' first | apply isb_ite | exact isb_0 | exact isb_1
abbrev rm_L_sent : Room := { frames := 1, cells := 0, slots := 0, locals := 22 }
set_option maxRecDepth 100000 in
set_option maxHeartbeats 8000000 in
theorem c_L_sent (l : Launch) (ex : List (Nat × Nat)) (X : XT) (fu : Nat) (p1 : Int32) (p2 : Int32) (M : Mem)  (rs : Int32) (hf : f_L_sent fu p1 p2 M = some rs) (sz : Nat) : Met l yL_sent (wbig yL_sent cL_sent 3 (some .boolean)) rm_L_sent (va_Pc [.ref (X.2.2 146), .int p1, .int p2] (PW (LW ex) X M sz)) (QI (LW ex) X M rs sz) 0 0 (AX (LW ex) X sz) := by
  refine met_go (L := (LW ex)) (M := M) (by decide +kernel) (Nat.le_of_ble_eq_true rfl) ?_
  intro p e s m args below meth c hsz B hr hlk hw ls hl
  subst hsz
  have hx := B.hx
  have hb := B.hb
  have hl : lv_has ls 3 [(0, .ref (X.2.2 146)), (1, .int p1), (2, .int p2)] := hl
  generalize hQ : MQ below _ args s 0 0 (AX (LW ex) X s.heap.size) = Q
  unfold f_L_sent at hf
  refine lv_aload_n hx hb dL_sent_0 rfl (lv_at hl 0 rfl) ?_
  refine lv_bipush (v := 21) hx hb dL_sent_1 (by decide) ?_
  refine lv_iconst (v := 4) hx hb dL_sent_3 (by decide) ?_
  refine lv_iload_n hx hb dL_sent_4 rfl (lv_at hl 1 rfl) ?_
  refine lv_imul hx hb dL_sent_5 ?_
  refine lv_iadd hx hb dL_sent_6 ?_
  obtain ⟨g_1, hf⟩ := grd_e hf
  refine w_iald B hw (i := 146) (kw146 _) g_1 dL_sent_7 ?_
  refine lv_iload_n hx hb dL_sent_8 rfl (lv_at hl 2 rfl) ?_
  refine lv_icmp_ne (tgt := 46) hx hb dL_sent_9 (by decide) (fun c_2 => ?_) (fun c_2 => ?_)
  · have hf := ie_e hf c_2
    refine lv_iconst (v := 0) hx hb dL_sent_46 (by decide) ?_
    cases hf
    subst hQ
    exact q_zret B hr hlk rfl hw rfl rfl dL_sent_47
  · have hf := it_e hf c_2
    refine lv_aload_n hx hb dL_sent_12 rfl (lv_at hl 0 rfl) ?_
    refine lv_bipush (v := 6) hx hb dL_sent_13 (by decide) ?_
    refine lv_iload_n hx hb dL_sent_15 rfl (lv_at hl 2 rfl) ?_
    refine lv_iadd hx hb dL_sent_16 ?_
    obtain ⟨g_3, hf⟩ := grd_e hf
    refine w_iald B hw (i := 146) (kw146 _) g_3 dL_sent_17 ?_
    refine lv_iconst (v := 2) hx hb dL_sent_18 (by decide) ?_
    refine lv_idiv hx hb dL_sent_19 (by decide) ?_
    refine lv_aload_n hx hb dL_sent_20 rfl (lv_at hl 0 rfl) ?_
    refine lv_bipush (v := 22) hx hb dL_sent_21 (by decide) ?_
    refine lv_iconst (v := 4) hx hb dL_sent_23 (by decide) ?_
    refine lv_iload_n hx hb dL_sent_24 rfl (lv_at hl 1 rfl) ?_
    refine lv_imul hx hb dL_sent_25 ?_
    refine lv_iadd hx hb dL_sent_26 ?_
    obtain ⟨g_4, hf⟩ := grd_e hf
    refine w_iald B hw (i := 146) (kw146 _) g_4 dL_sent_27 ?_
    refine lv_aload_n hx hb dL_sent_28 rfl (lv_at hl 0 rfl) ?_
    refine lv_bipush (v := 23) hx hb dL_sent_29 (by decide) ?_
    refine lv_iconst (v := 4) hx hb dL_sent_31 (by decide) ?_
    refine lv_iload_n hx hb dL_sent_32 rfl (lv_at hl 1 rfl) ?_
    refine lv_imul hx hb dL_sent_33 ?_
    refine lv_iadd hx hb dL_sent_34 ?_
    obtain ⟨g_5, hf⟩ := grd_e hf
    refine w_iald B hw (i := 146) (kw146 _) g_5 dL_sent_35 ?_
    refine q_callSi (M' := M) (As := [.int ((M 146 (6 + p2).toNatClampNeg) / 2), .int (M 146 (22 + (4 * p1)).toNatClampNeg), .int (M 146 (23 + (4 * p1)).toNatClampNeg)]) (rest := []) B hw (c_L_done l _ X ((M 146 (6 + p2).toNatClampNeg) / 2) (M 146 (22 + (4 * p1)).toNatClampNeg) (M 146 (23 + (4 * p1)).toNatClampNeg) _ rfl M _) cs_L_212 rfl hl.1 rfl rfl ⟨(Nat.le_of_ble_eq_true rfl), (Nat.le_of_ble_eq_true rfl)⟩ (Nat.le_of_ble_eq_true rfl) ⟨(Nat.le_of_ble_eq_true rfl), (Nat.le_of_ble_eq_true rfl)⟩ dL_sent_36 rfl (fun H locs hw => ?_)
    refine lv_if_eq (tgt := 46) hx hb dL_sent_39 (by decide) (fun c_7 => ?_) (fun c_7 => ?_)
    · have hf := it_e hf c_7
      refine lv_iconst (v := 0) hx hb dL_sent_46 (by decide) ?_
      cases hf
      subst hQ
      exact q_zret B hr hlk rfl hw rfl rfl dL_sent_47
    · have hf := ie_e hf c_7
      refine lv_iconst (v := 1) hx hb dL_sent_42 (by decide) ?_
      refine lv_goto (tgt := 47) hx hb dL_sent_43 (by decide) ?_
      cases hf
      subst hQ
      exact q_zret B hr hlk rfl hw rfl rfl dL_sent_47
abbrev rm_L_hold : Room := { frames := 2, cells := 0, slots := 0, locals := 44 }
set_option maxRecDepth 100000 in
set_option maxHeartbeats 8000000 in
theorem c_L_hold (l : Launch) (ex : List (Nat × Nat)) (X : XT) (fu : Nat) (p1 : Int32) (p2 : Int64) (p4 : Int32) (M : Mem)  (rs : Int32) (hf : f_L_hold fu p1 p2 p4 M = some rs) (sz : Nat) : Met l yL_hold (wbig yL_hold cL_hold 6 (some .boolean)) rm_L_hold (va_Pc [.ref (X.2.2 146), .int p1, .long p2, .int p4] (PW (LW ex) X M sz)) (QI (LW ex) X M rs sz) 0 0 (AX (LW ex) X sz) := by
  refine met_go (L := (LW ex)) (M := M) (by decide +kernel) (Nat.le_of_ble_eq_true rfl) ?_
  intro p e s m args below meth c hsz B hr hlk hw ls hl
  subst hsz
  have hx := B.hx
  have hb := B.hb
  have hl : lv_has ls 6 [(0, .ref (X.2.2 146)), (1, .int p1), (2, .long p2), (4, .int p4)] := hl
  generalize hQ : MQ below _ args s 0 0 (AX (LW ex) X s.heap.size) = Q
  unfold f_L_hold at hf
  refine lv_iconst (v := 0) hx hb dL_hold_0 (by decide) ?_
  refine lv_istore (lv' := [(5, .int 0), (0, .ref (X.2.2 146)), (1, .int p1), (2, .long p2), (4, .int p4)]) hx hb dL_hold_1 hl (by decide) rfl (fun ls hl => ?_)
  have hL_3 : ∀ (n_3 : Nat) (x5_1 : Int32) (H : Heap) (locs : List Loc) (ls : Array Slot), HW (LW ex) X M s H locs → lv_has ls 6 [(0, .ref (X.2.2 146)), (1, .int p1), (2, .long p2), (4, .int p4), (5, .int x5_1)] → f_L_hold_L3 fu p1 p2 p4 M n_3 x5_1 = some rs → W p l e rm_L_hold s m args below meth c H locs 0 0 Q (F0 m 3 ls []) := by
    intro n_3
    induction n_3 with
    | zero => intro x5_1 H locs ls hw hl hf; exact no_none hf
    | succ n_3 ih_3 =>
      intro x5_1 H locs ls hw hl hf
      rw [f_L_hold_L3] at hf
      refine lv_iload hx hb dL_hold_3 (lv_at hl 4 rfl) ?_
      refine lv_aload_n hx hb dL_hold_5 rfl (lv_at hl 0 rfl) ?_
      refine lv_iconst (v := 2) hx hb dL_hold_6 (by decide) ?_
      refine w_iald B hw (i := 146) (kw146 _) (by decide) dL_hold_7 ?_
      refine lv_icmp_ge (tgt := 84) hx hb dL_hold_8 (by decide) (fun c_2 => ?_) (fun c_2 => ?_)
      · have hf := it_e hf c_2
        refine lv_iconst (v := 1) hx hb dL_hold_84 (by decide) ?_
        cases hf
        subst hQ
        exact q_zret B hr hlk rfl hw rfl rfl dL_hold_85
      · have hf := ie_e hf c_2
        refine lv_aload_n hx hb dL_hold_11 rfl (lv_at hl 0 rfl) ?_
        refine lv_bipush (v := 21) hx hb dL_hold_12 (by decide) ?_
        refine lv_iconst (v := 4) hx hb dL_hold_14 (by decide) ?_
        refine lv_iload hx hb dL_hold_15 (lv_at hl 4 rfl) ?_
        refine lv_imul hx hb dL_hold_17 ?_
        refine lv_iadd hx hb dL_hold_18 ?_
        obtain ⟨g_3, hf⟩ := grd_e hf
        refine w_iald B hw (i := 146) (kw146 _) g_3 dL_hold_19 ?_
        refine lv_iload_n hx hb dL_hold_20 rfl (lv_at hl 1 rfl) ?_
        refine lv_icmp_ne (tgt := 78) hx hb dL_hold_21 (by decide) (fun c_4 => ?_) (fun c_4 => ?_)
        · have hf := ie_e hf c_4
          refine r_iinc (v := (x5_1 + 1)) hx hb dL_hold_78 hl (k := 4) rfl rfl (by decide) hf (fun x5_5 ls hl hf => ?_)
          have hl : lv_has ls 6 [(5, .int x5_5), (0, .ref (X.2.2 146)), (1, .int p1), (2, .long p2), (4, .int p4)] := hl
          refine lv_goto (tgt := 3) hx hb dL_hold_81 (by decide) ?_
          exact ih_3 x5_5 _ _ _ hw (lv_sub hl [1, 2, 3, 4, 0] rfl) hf
        · have hf := it_e hf c_4
          refine lv_iload hx hb dL_hold_24 (lv_at hl 3 rfl) ?_
          refine jn_e hf (fun kk => ∀ (_ : Unit) (H : Heap) (locs : List Loc) (ls : Array Slot), HW (LW ex) X M s H locs → lv_has ls 6 [(0, .ref (X.2.2 146)), (1, .int p1), (2, .long p2), (4, .int p4), (5, .int x5_1)] → kk () = some rs → W p l e rm_L_hold s m args below meth c H locs 0 0 Q (F0 m 39 ls [])) ?_ (fun k39_6 J39_6 hf => ?_)
          · intro _ H locs ls hw hl hf
            refine lv_aload_n hx hb dL_hold_39 rfl (lv_at hl 0 rfl) ?_
            refine lv_bipush (v := 23) hx hb dL_hold_40 (by decide) ?_
            refine lv_iconst (v := 4) hx hb dL_hold_42 (by decide) ?_
            refine lv_iload hx hb dL_hold_43 (lv_at hl 4 rfl) ?_
            refine lv_imul hx hb dL_hold_45 ?_
            refine lv_iadd hx hb dL_hold_46 ?_
            obtain ⟨g_7, hf⟩ := grd_e hf
            refine w_iald B hw (i := 146) (kw146 _) g_7 dL_hold_47 ?_
            refine lv_aload_n hx hb dL_hold_48 rfl (lv_at hl 0 rfl) ?_
            refine lv_bipush (v := 24) hx hb dL_hold_49 (by decide) ?_
            refine lv_iconst (v := 4) hx hb dL_hold_51 (by decide) ?_
            refine lv_iload hx hb dL_hold_52 (lv_at hl 4 rfl) ?_
            refine lv_imul hx hb dL_hold_54 ?_
            refine lv_iadd hx hb dL_hold_55 ?_
            obtain ⟨g_8, hf⟩ := grd_e hf
            refine w_iald B hw (i := 146) (kw146 _) g_8 dL_hold_56 ?_
            refine lv_lload_n hx hb dL_hold_57 rfl (lv_at hl 2 rfl) ?_
            refine lv_aload_n hx hb dL_hold_58 rfl (lv_at hl 0 rfl) ?_
            refine lv_bipush (v := 22) hx hb dL_hold_59 (by decide) ?_
            refine lv_iconst (v := 4) hx hb dL_hold_61 (by decide) ?_
            refine lv_iload hx hb dL_hold_62 (lv_at hl 4 rfl) ?_
            refine lv_imul hx hb dL_hold_64 ?_
            refine lv_iadd hx hb dL_hold_65 ?_
            obtain ⟨g_9, hf⟩ := grd_e hf
            refine w_iald B hw (i := 146) (kw146 _) g_9 dL_hold_66 ?_
            refine q_callSi (M' := M) (As := [.long p2, .int (M 146 (22 + (4 * x5_1)).toNatClampNeg)]) (rest := [.int (M 146 (24 + (4 * x5_1)).toNatClampNeg), .int (M 146 (23 + (4 * x5_1)).toNatClampNeg)]) B hw (c_L_at l _ X p2 (M 146 (22 + (4 * x5_1)).toNatClampNeg) _ rfl M _) cs_L_169 rfl hl.1 rfl rfl ⟨(Nat.le_of_ble_eq_true rfl), (Nat.le_of_ble_eq_true rfl)⟩ (Nat.le_of_ble_eq_true rfl) ⟨(Nat.le_of_ble_eq_true rfl), (Nat.le_of_ble_eq_true rfl)⟩ dL_hold_67 rfl (fun H locs hw => ?_)
            refine q_callSi (M' := M) (As := [.int (M 146 (23 + (4 * x5_1)).toNatClampNeg), .int (M 146 (24 + (4 * x5_1)).toNatClampNeg), .int (f_L_at p2 (M 146 (22 + (4 * x5_1)).toNatClampNeg))]) (rest := []) B hw (c_L_holds l _ X (M 146 (23 + (4 * x5_1)).toNatClampNeg) (M 146 (24 + (4 * x5_1)).toNatClampNeg) (f_L_at p2 (M 146 (22 + (4 * x5_1)).toNatClampNeg)) _ rfl M _) cs_L_219 rfl hl.1 rfl rfl ⟨(Nat.le_of_ble_eq_true rfl), (Nat.le_of_ble_eq_true rfl)⟩ (Nat.le_of_ble_eq_true rfl) ⟨(Nat.le_of_ble_eq_true rfl), (Nat.le_of_ble_eq_true rfl)⟩ dL_hold_70 rfl (fun H locs hw => ?_)
            refine lv_if_ne (tgt := 78) hx hb dL_hold_73 (by decide) (fun c_12 => ?_) (fun c_12 => ?_)
            · have hf := ie_e hf c_12
              refine r_iinc (v := (x5_1 + 1)) hx hb dL_hold_78 hl (k := 4) rfl rfl (by decide) hf (fun x5_13 ls hl hf => ?_)
              have hl : lv_has ls 6 [(5, .int x5_13), (0, .ref (X.2.2 146)), (1, .int p1), (2, .long p2), (4, .int p4)] := hl
              refine lv_goto (tgt := 3) hx hb dL_hold_81 (by decide) ?_
              exact ih_3 x5_13 _ _ _ hw (lv_sub hl [1, 2, 3, 4, 0] rfl) hf
            · have hf := it_e hf c_12
              refine lv_iconst (v := 0) hx hb dL_hold_76 (by decide) ?_
              cases hf
              subst hQ
              exact q_zret B hr hlk rfl hw rfl rfl dL_hold_77
          refine lv_if_ne (tgt := 39) hx hb dL_hold_26 (by decide) (fun c_14 => ?_) (fun c_14 => ?_)
          · have hf := ie_e hf c_14
            exact J39_6 () _ _ _ hw (lv_sub hl [0, 1, 2, 3, 4] rfl) hf
          · have hf := it_e hf c_14
            refine lv_aload_n hx hb dL_hold_29 rfl (lv_at hl 0 rfl) ?_
            refine lv_iload hx hb dL_hold_30 (lv_at hl 4 rfl) ?_
            refine lv_iload_n hx hb dL_hold_32 rfl (lv_at hl 1 rfl) ?_
            obtain ⟨r_16, h_15, hf⟩ := bd_e hf
            refine q_callSi (M' := M) (As := [.ref (X.2.2 146), .int x5_1, .int p1]) (rest := []) B hw (c_L_sent l _ X fu x5_1 p1 M r_16 h_15 _) cs_L_215 rfl hl.1 rfl rfl ⟨(Nat.le_of_ble_eq_true rfl), (Nat.le_of_ble_eq_true rfl)⟩ (Nat.le_of_ble_eq_true rfl) ⟨(Nat.le_of_ble_eq_true rfl), (Nat.le_of_ble_eq_true rfl)⟩ dL_hold_33 rfl (fun H locs hw => ?_)
            refine lv_if_eq (tgt := 78) hx hb dL_hold_36 (by decide) (fun c_17 => ?_) (fun c_17 => ?_)
            · have hf := it_e hf c_17
              refine r_iinc (v := (x5_1 + 1)) hx hb dL_hold_78 hl (k := 4) rfl rfl (by decide) hf (fun x5_18 ls hl hf => ?_)
              have hl : lv_has ls 6 [(5, .int x5_18), (0, .ref (X.2.2 146)), (1, .int p1), (2, .long p2), (4, .int p4)] := hl
              refine lv_goto (tgt := 3) hx hb dL_hold_81 (by decide) ?_
              exact ih_3 x5_18 _ _ _ hw (lv_sub hl [1, 2, 3, 4, 0] rfl) hf
            · have hf := ie_e hf c_17
              exact J39_6 () _ _ _ hw (lv_sub hl [0, 1, 2, 3, 4] rfl) hf
  exact hL_3 fu 0 _ _ _ hw (lv_sub hl [1, 2, 3, 4, 0] rfl) hf
abbrev rm_L_fee : Room := { frames := 0, cells := 0, slots := 0, locals := 0 }
set_option maxRecDepth 100000 in
set_option maxHeartbeats 8000000 in
theorem c_L_fee (l : Launch) (ex : List (Nat × Nat)) (X : XT) (p0 : Int32)  (rs : Int32) (hf : f_L_fee p0 = rs) (M : Mem) (sz : Nat) : Met l yL_fee (wbig yL_fee cL_fee 1 (some .int)) rm_L_fee (va_Pc [.int p0] (PW (LW ex) X M sz)) (QI (LW ex) X M rs sz) 0 0 (AX (LW ex) X sz) := by
  refine met_go (L := (LW ex)) (M := M) (by decide +kernel) (Nat.le_of_ble_eq_true rfl) ?_
  intro p e s m args below meth c hsz B hr hlk hw ls hl
  subst hsz
  have hx := B.hx
  have hb := B.hb
  have hl : lv_has ls 1 [(0, .int p0)] := hl
  generalize hQ : MQ below _ args s 0 0 (AX (LW ex) X s.heap.size) = Q
  unfold f_L_fee at hf
  refine lv_iload_n hx hb dL_fee_0 rfl (lv_at hl 0 rfl) ?_
  refine lv_if_ne (tgt := 8) hx hb dL_fee_1 (by decide) (fun c_1 => ?_) (fun c_1 => ?_)
  · have hf := ie_e hf c_1
    refine lv_iload_n hx hb dL_fee_8 rfl (lv_at hl 0 rfl) ?_
    refine lv_iconst (v := 1) hx hb dL_fee_9 (by decide) ?_
    refine lv_icmp_ne (tgt := 17) hx hb dL_fee_10 (by decide) (fun c_2 => ?_) (fun c_2 => ?_)
    · have hf := ie_e hf c_2
      refine lv_iconst (v := 3) hx hb dL_fee_17 (by decide) ?_
      subst hf
      subst hQ
      exact q_iret B hr hlk hw rfl rfl dL_fee_18
    · have hf := it_e hf c_2
      refine lv_iconst (v := 1) hx hb dL_fee_13 (by decide) ?_
      refine lv_goto (tgt := 18) hx hb dL_fee_14 (by decide) ?_
      subst hf
      subst hQ
      exact q_iret B hr hlk hw rfl rfl dL_fee_18
  · have hf := it_e hf c_1
    refine lv_iconst (v := 5) hx hb dL_fee_4 (by decide) ?_
    refine lv_goto (tgt := 18) hx hb dL_fee_5 (by decide) ?_
    subst hf
    subst hQ
    exact q_iret B hr hlk hw rfl rfl dL_fee_18
abbrev rm_L_freight : Room := { frames := 0, cells := 0, slots := 0, locals := 0 }
set_option maxRecDepth 100000 in
set_option maxHeartbeats 8000000 in
theorem c_L_freight (l : Launch) (ex : List (Nat × Nat)) (X : XT) (p0 : Int32)  (rs : Int32) (hf : f_L_freight p0 = rs) (M : Mem) (sz : Nat) : Met l yL_freight (wbig yL_freight cL_freight 1 (some .int)) rm_L_freight (va_Pc [.int p0] (PW (LW ex) X M sz)) (QI (LW ex) X M rs sz) 0 0 (AX (LW ex) X sz) := by
  refine met_go (L := (LW ex)) (M := M) (by decide +kernel) (Nat.le_of_ble_eq_true rfl) ?_
  intro p e s m args below meth c hsz B hr hlk hw ls hl
  subst hsz
  have hx := B.hx
  have hb := B.hb
  have hl : lv_has ls 1 [(0, .int p0)] := hl
  generalize hQ : MQ below _ args s 0 0 (AX (LW ex) X s.heap.size) = Q
  unfold f_L_freight at hf
  refine lv_iload_n hx hb dL_freight_0 rfl (lv_at hl 0 rfl) ?_
  refine lv_iconst (v := 2) hx hb dL_freight_1 (by decide) ?_
  refine lv_icmp_ne (tgt := 9) hx hb dL_freight_2 (by decide) (fun c_1 => ?_) (fun c_1 => ?_)
  · have hf := ie_e hf c_1
    refine lv_iconst (v := 1) hx hb dL_freight_9 (by decide) ?_
    subst hf
    subst hQ
    exact q_iret B hr hlk hw rfl rfl dL_freight_10
  · have hf := it_e hf c_1
    refine lv_iconst (v := 2) hx hb dL_freight_5 (by decide) ?_
    refine lv_goto (tgt := 10) hx hb dL_freight_6 (by decide) ?_
    subst hf
    subst hQ
    exact q_iret B hr hlk hw rfl rfl dL_freight_10
abbrev rm_L_guess : Room := { frames := 2, cells := 0, slots := 0, locals := 44 }
set_option maxRecDepth 100000 in
set_option maxHeartbeats 8000000 in
theorem c_L_guess (l : Launch) (ex : List (Nat × Nat)) (X : XT) (fu : Nat) (p2 : Int32) (M : Mem)  (rs : Int32) (hf : f_L_guess fu p2 M = some rs) (sz : Nat) : Met l yL_guess (wbig yL_guess cL_guess 5 (some .int)) rm_L_guess (va_Pc [.ref (X.2.2 146), .ref (X.2.2 153), .int p2] (PW (LW ex) X M sz)) (QI (LW ex) X M rs sz) 0 0 (AX (LW ex) X sz) := by
  refine met_go (L := (LW ex)) (M := M) (by decide +kernel) (Nat.le_of_ble_eq_true rfl) ?_
  intro p e s m args below meth c hsz B hr hlk hw ls hl
  subst hsz
  have hx := B.hx
  have hb := B.hb
  have hl : lv_has ls 5 [(0, .ref (X.2.2 146)), (1, .ref (X.2.2 153)), (2, .int p2)] := hl
  generalize hQ : MQ below _ args s 0 0 (AX (LW ex) X s.heap.size) = Q
  unfold f_L_guess at hf
  refine lv_aload_n hx hb dL_guess_0 rfl (lv_at hl 1 rfl) ?_
  refine lv_aload_n hx hb dL_guess_1 rfl (lv_at hl 0 rfl) ?_
  refine lv_bipush (v := 6) hx hb dL_guess_2 (by decide) ?_
  refine lv_iload_n hx hb dL_guess_4 rfl (lv_at hl 2 rfl) ?_
  refine lv_iadd hx hb dL_guess_5 ?_
  obtain ⟨g_1, hf⟩ := grd_e hf
  refine w_iald B hw (i := 146) (kw146 _) g_1 dL_guess_6 ?_
  obtain ⟨g_2, hf⟩ := grd_e hf
  refine w_iald B hw (i := 153) (kw153 _) g_2 dL_guess_7 ?_
  refine r_topn hf (fun x3_3 hf => ?_)
  refine lv_istore_n (lv' := [(3, .int x3_3), (0, .ref (X.2.2 146)), (1, .ref (X.2.2 153)), (2, .int p2)]) hx hb dL_guess_8 rfl hl (by decide) rfl (fun ls hl => ?_)
  refine lv_iconst (v := 0) hx hb dL_guess_9 (by decide) ?_
  refine lv_istore (lv' := [(4, .int 0), (3, .int x3_3), (0, .ref (X.2.2 146)), (1, .ref (X.2.2 153)), (2, .int p2)]) hx hb dL_guess_10 hl (by decide) rfl (fun ls hl => ?_)
  refine jn_e hf (fun kk => ∀ (x3_5 : Int32) (H : Heap) (locs : List Loc) (ls : Array Slot), HW (LW ex) X M s H locs → lv_has ls 5 [(3, .int x3_5)] → kk x3_5 = some rs → W p l e rm_L_guess s m args below meth c H locs 0 0 Q (F0 m 44 ls [])) ?_ (fun k44_4 J44_4 hf => ?_)
  · intro x3_5 H locs ls hw hl hf
    refine lv_iload_n hx hb dL_guess_44 rfl (lv_at hl 0 rfl) ?_
    refine lv_if_le (tgt := 52) hx hb dL_guess_45 (by decide) (fun c_6 => ?_) (fun c_6 => ?_)
    · have hf := it_e hf c_6
      refine lv_iconst (v := 1) hx hb dL_guess_52 (by decide) ?_
      cases hf
      subst hQ
      exact q_iret B hr hlk hw rfl rfl dL_guess_53
    · have hf := ie_e hf c_6
      refine lv_iload_n hx hb dL_guess_48 rfl (lv_at hl 0 rfl) ?_
      refine lv_goto (tgt := 53) hx hb dL_guess_49 (by decide) ?_
      cases hf
      subst hQ
      exact q_iret B hr hlk hw rfl rfl dL_guess_53
  have hL_12 : ∀ (n_12 : Nat) (x3_7 : Int32) (x4_8 : Int32) (H : Heap) (locs : List Loc) (ls : Array Slot), HW (LW ex) X M s H locs → lv_has ls 5 [(0, .ref (X.2.2 146)), (2, .int p2), (3, .int x3_7), (4, .int x4_8)] → f_L_guess_L12 fu p2 M k44_4 n_12 x3_7 x4_8 = some rs → W p l e rm_L_guess s m args below meth c H locs 0 0 Q (F0 m 12 ls []) := by
    intro n_12
    induction n_12 with
    | zero => intro x3_7 x4_8 H locs ls hw hl hf; exact no_none hf
    | succ n_12 ih_12 =>
      intro x3_7 x4_8 H locs ls hw hl hf
      rw [f_L_guess_L12] at hf
      refine lv_iload hx hb dL_guess_12 (lv_at hl 3 rfl) ?_
      refine lv_aload_n hx hb dL_guess_14 rfl (lv_at hl 0 rfl) ?_
      refine lv_iconst (v := 2) hx hb dL_guess_15 (by decide) ?_
      refine w_iald B hw (i := 146) (kw146 _) (by decide) dL_guess_16 ?_
      refine lv_icmp_ge (tgt := 44) hx hb dL_guess_17 (by decide) (fun c_9 => ?_) (fun c_9 => ?_)
      · have hf := it_e hf c_9
        exact J44_4 x3_7 _ _ _ hw (lv_sub hl [2] rfl) hf
      · have hf := ie_e hf c_9
        refine lv_aload_n hx hb dL_guess_20 rfl (lv_at hl 0 rfl) ?_
        refine lv_iload hx hb dL_guess_21 (lv_at hl 3 rfl) ?_
        refine lv_iload_n hx hb dL_guess_23 rfl (lv_at hl 1 rfl) ?_
        obtain ⟨r_11, h_10, hf⟩ := bd_e hf
        refine q_callSi (M' := M) (As := [.ref (X.2.2 146), .int x4_8, .int p2]) (rest := []) B hw (c_L_sent l _ X fu x4_8 p2 M r_11 h_10 _) cs_L_215 rfl hl.1 rfl rfl ⟨(Nat.le_of_ble_eq_true rfl), (Nat.le_of_ble_eq_true rfl)⟩ (Nat.le_of_ble_eq_true rfl) ⟨(Nat.le_of_ble_eq_true rfl), (Nat.le_of_ble_eq_true rfl)⟩ dL_guess_24 rfl (fun H locs hw => ?_)
        refine lv_if_eq (tgt := 36) hx hb dL_guess_27 (by decide) (fun c_12 => ?_) (fun c_12 => ?_)
        · have hf := it_e hf c_12
          refine lv_iload_n hx hb dL_guess_36 rfl (lv_at hl 2 rfl) ?_
          refine lv_istore_n (lv' := [(3, .int x3_7), (0, .ref (X.2.2 146)), (2, .int p2), (4, .int x4_8)]) hx hb dL_guess_37 rfl hl (by decide) rfl (fun ls hl => ?_)
          refine r_iinc (v := (x4_8 + 1)) hx hb dL_guess_38 hl (k := 3) rfl rfl (by decide) hf (fun x4_13 ls hl hf => ?_)
          have hl : lv_has ls 5 [(4, .int x4_13), (3, .int x3_7), (0, .ref (X.2.2 146)), (2, .int p2)] := hl
          refine lv_goto (tgt := 12) hx hb dL_guess_41 (by decide) ?_
          exact ih_12 x3_7 x4_13 _ _ _ hw (lv_sub hl [2, 3, 1, 0] rfl) hf
        · have hf := ie_e hf c_12
          refine lv_iload_n hx hb dL_guess_30 rfl (lv_at hl 2 rfl) ?_
          refine lv_iconst (v := 1) hx hb dL_guess_31 (by decide) ?_
          refine lv_ishr hx hb dL_guess_32 ?_
          refine lv_goto (tgt := 37) hx hb dL_guess_33 (by decide) ?_
          refine r_topn hf (fun x3_14 hf => ?_)
          refine lv_istore_n (lv' := [(3, .int x3_14), (0, .ref (X.2.2 146)), (2, .int p2), (4, .int x4_8)]) hx hb dL_guess_37 rfl hl (by decide) rfl (fun ls hl => ?_)
          refine r_iinc (v := (x4_8 + 1)) hx hb dL_guess_38 hl (k := 3) rfl rfl (by decide) hf (fun x4_15 ls hl hf => ?_)
          have hl : lv_has ls 5 [(4, .int x4_15), (3, .int x3_14), (0, .ref (X.2.2 146)), (2, .int p2)] := hl
          refine lv_goto (tgt := 12) hx hb dL_guess_41 (by decide) ?_
          exact ih_12 x3_14 x4_15 _ _ _ hw (lv_sub hl [2, 3, 1, 0] rfl) hf
  exact hL_12 fu x3_3 0 _ _ _ hw (lv_sub hl [2, 4, 1, 0] rfl) hf
abbrev rm_L_attempt : Room := { frames := 1, cells := 0, slots := 0, locals := 28 }
set_option maxRecDepth 100000 in
set_option maxHeartbeats 8000000 in
theorem c_L_attempt (l : Launch) (ex : List (Nat × Nat)) (X : XT) (fu : Nat) (p5 : Int32) (p6 : Int32) (M : Mem)  (rs : (Int32 × Mem)) (hf : f_L_attempt fu p5 p6 M = some rs) (sz : Nat) : Met l yL_attempt (wbig yL_attempt cL_attempt 7 (some .int)) rm_L_attempt (va_Pc [.ref (X.2.2 144), .ref (X.2.2 145), .ref (X.2.2 147), .ref (X.2.2 148), .ref (X.2.2 152), .int p5, .int p6] (PW (LW ex) X M sz)) (QI (LW ex) X rs.2 rs.1 sz) 0 0 (AX (LW ex) X sz) := by
  refine met_go (L := (LW ex)) (M := M) (by decide +kernel) (Nat.le_of_ble_eq_true rfl) ?_
  intro p e s m args below meth c hsz B hr hlk hw ls hl
  subst hsz
  have hx := B.hx
  have hb := B.hb
  have hl : lv_has ls 7 [(0, .ref (X.2.2 144)), (1, .ref (X.2.2 145)), (2, .ref (X.2.2 147)), (3, .ref (X.2.2 148)), (4, .ref (X.2.2 152)), (5, .int p5), (6, .int p6)] := hl
  generalize hQ : MQ below _ args s 0 0 (AX (LW ex) X s.heap.size) = Q
  unfold f_L_attempt at hf
  refine lv_aload_n hx hb dL_attempt_0 rfl (lv_at hl 1 rfl) ?_
  refine lv_bipush (v := 21) hx hb dL_attempt_1 (by decide) ?_
  refine lv_iload hx hb dL_attempt_3 (lv_at hl 5 rfl) ?_
  refine lv_iadd hx hb dL_attempt_5 ?_
  obtain ⟨g_1, hf⟩ := grd_e hf
  refine w_iald B hw (i := 145) (kw145 _) g_1 dL_attempt_6 ?_
  refine lv_aload hx hb dL_attempt_7 (lv_at hl 4 rfl) ?_
  refine lv_iconst (v := 1) hx hb dL_attempt_9 (by decide) ?_
  refine w_iald B hw (i := 152) (kw152 _) (by decide) dL_attempt_10 ?_
  refine lv_bipush (v := 10) hx hb dL_attempt_11 (by decide) ?_
  refine lv_idiv hx hb dL_attempt_13 (by decide) ?_
  refine jn_e hf (fun kk => ∀ (M_3 : Mem) (H : Heap) (locs : List Loc) (ls : Array Slot), HW (LW ex) X M_3 s H locs → lv_has ls 7 [(0, .ref (X.2.2 144)), (1, .ref (X.2.2 145)), (2, .ref (X.2.2 147)), (3, .ref (X.2.2 148)), (4, .ref (X.2.2 152)), (5, .int p5), (6, .int p6)] → kk M_3 = some rs → W p l e rm_L_attempt s m args below meth c H locs 0 0 Q (F0 m 51 ls [])) ?_ (fun k51_2 J51_2 hf => ?_)
  · intro M_3 H locs ls hw hl hf
    refine lv_aload_n hx hb dL_attempt_51 rfl (lv_at hl 2 rfl) ?_
    refine lv_aload_n hx hb dL_attempt_52 rfl (lv_at hl 3 rfl) ?_
    refine lv_aload_n hx hb dL_attempt_53 rfl (lv_at hl 0 rfl) ?_
    refine lv_aload_n hx hb dL_attempt_54 rfl (lv_at hl 1 rfl) ?_
    refine lv_aload hx hb dL_attempt_55 (lv_at hl 4 rfl) ?_
    obtain ⟨M_5, h_4, hf⟩ := bd_e hf
    refine q_callSv (M' := M_5) (As := [.ref (X.2.2 147), .ref (X.2.2 148), .ref (X.2.2 144), .ref (X.2.2 145), .ref (X.2.2 152)]) (rest := []) B hw (c_L_age l _ X fu M_3 M_5 h_4 _) cs_L_113 rfl hl.1 rfl rfl ⟨(Nat.le_of_ble_eq_true rfl), (Nat.le_of_ble_eq_true rfl)⟩ (Nat.le_of_ble_eq_true rfl) ⟨(Nat.le_of_ble_eq_true rfl), (Nat.le_of_ble_eq_true rfl)⟩ dL_attempt_57 rfl (fun H locs hw => ?_)
    refine lv_iload hx hb dL_attempt_60 (lv_at hl 6 rfl) ?_
    refine jn_e hf (fun kk => ∀ (_ : Unit) (H : Heap) (locs : List Loc) (ls : Array Slot), HW (LW ex) X M_5 s H locs → lv_has ls 7 [(0, .ref (X.2.2 144)), (1, .ref (X.2.2 145)), (2, .ref (X.2.2 147)), (3, .ref (X.2.2 148)), (4, .ref (X.2.2 152)), (5, .int p5), (6, .int p6)] → kk () = some rs → W p l e rm_L_attempt s m args below meth c H locs 0 0 Q (F0 m 84 ls [])) ?_ (fun k84_6 J84_6 hf => ?_)
    · intro _ H locs ls hw hl hf
      refine lv_aload_n hx hb dL_attempt_84 rfl (lv_at hl 1 rfl) ?_
      refine lv_bipush (v := 21) hx hb dL_attempt_85 (by decide) ?_
      refine lv_iload hx hb dL_attempt_87 (lv_at hl 5 rfl) ?_
      refine lv_iadd hx hb dL_attempt_89 ?_
      refine w_iald B hw (i := 145) (kw145 _) g_1 dL_attempt_90 ?_
      refine lv_aload hx hb dL_attempt_91 (lv_at hl 4 rfl) ?_
      refine lv_iconst (v := 1) hx hb dL_attempt_93 (by decide) ?_
      refine w_iald B hw (i := 152) (kw152 _) (by decide) dL_attempt_94 ?_
      refine lv_bipush (v := 10) hx hb dL_attempt_95 (by decide) ?_
      refine lv_idiv hx hb dL_attempt_97 (by decide) ?_
      refine jn_e hf (fun kk => ∀ (M_8 : Mem) (H : Heap) (locs : List Loc) (ls : Array Slot), HW (LW ex) X M_8 s H locs → lv_has ls 7 [(0, .ref (X.2.2 144)), (1, .ref (X.2.2 145)), (2, .ref (X.2.2 147)), (3, .ref (X.2.2 148)), (4, .ref (X.2.2 152)), (5, .int p5), (6, .int p6)] → kk M_8 = some rs → W p l e rm_L_attempt s m args below meth c H locs 0 0 Q (F0 m 109 ls [])) ?_ (fun k109_7 J109_7 hf => ?_)
      · intro M_8 H locs ls hw hl hf
        refine lv_aload_n hx hb dL_attempt_109 rfl (lv_at hl 1 rfl) ?_
        refine lv_bipush (v := 21) hx hb dL_attempt_110 (by decide) ?_
        refine lv_iload hx hb dL_attempt_112 (lv_at hl 5 rfl) ?_
        refine lv_iadd hx hb dL_attempt_114 ?_
        refine lv_aload hx hb dL_attempt_115 (lv_at hl 4 rfl) ?_
        refine lv_iconst (v := 1) hx hb dL_attempt_117 (by decide) ?_
        refine w_iald B hw (i := 152) (kw152 _) (by decide) dL_attempt_118 ?_
        refine lv_bipush (v := 10) hx hb dL_attempt_119 (by decide) ?_
        refine lv_idiv hx hb dL_attempt_121 (by decide) ?_
        refine w_iast B hw (i := 145) (kw145 _) g_1 dL_attempt_122 hf (fun M_9 H locs hw hf => ?_)
        refine lv_aload_n hx hb dL_attempt_123 rfl (lv_at hl 1 rfl) ?_
        refine lv_bipush (v := 24) hx hb dL_attempt_124 (by decide) ?_
        refine lv_iload hx hb dL_attempt_126 (lv_at hl 5 rfl) ?_
        refine lv_iadd hx hb dL_attempt_128 ?_
        refine lv_dup2_11 hx hb dL_attempt_129 rfl rfl ?_
        obtain ⟨g_10, hf⟩ := grd_e hf
        refine w_iald B hw (i := 145) (kw145 _) g_10 dL_attempt_130 ?_
        refine lv_iconst (v := 1) hx hb dL_attempt_131 (by decide) ?_
        refine lv_iadd hx hb dL_attempt_132 ?_
        refine w_iast B hw (i := 145) (kw145 _) g_10 dL_attempt_133 hf (fun M_11 H locs hw hf => ?_)
        refine lv_aload hx hb dL_attempt_134 (lv_at hl 4 rfl) ?_
        refine lv_iconst (v := 1) hx hb dL_attempt_136 (by decide) ?_
        refine lv_dup2_11 hx hb dL_attempt_137 rfl rfl ?_
        refine w_iald B hw (i := 152) (kw152 _) (by decide) dL_attempt_138 ?_
        refine lv_aload_n hx hb dL_attempt_139 rfl (lv_at hl 1 rfl) ?_
        refine lv_iload hx hb dL_attempt_140 (lv_at hl 5 rfl) ?_
        obtain ⟨g_12, hf⟩ := grd_e hf
        refine w_iald B hw (i := 145) (kw145 _) g_12 dL_attempt_142 ?_
        refine lv_iadd hx hb dL_attempt_143 ?_
        refine w_iast B hw (i := 152) (kw152 _) (by decide) dL_attempt_144 hf (fun M_13 H locs hw hf => ?_)
        refine lv_aload_n hx hb dL_attempt_145 rfl (lv_at hl 2 rfl) ?_
        refine lv_aload_n hx hb dL_attempt_146 rfl (lv_at hl 3 rfl) ?_
        refine lv_aload_n hx hb dL_attempt_147 rfl (lv_at hl 0 rfl) ?_
        refine lv_aload_n hx hb dL_attempt_148 rfl (lv_at hl 1 rfl) ?_
        refine lv_aload hx hb dL_attempt_149 (lv_at hl 4 rfl) ?_
        obtain ⟨M_15, h_14, hf⟩ := bd_e hf
        refine q_callSv (M' := M_15) (As := [.ref (X.2.2 147), .ref (X.2.2 148), .ref (X.2.2 144), .ref (X.2.2 145), .ref (X.2.2 152)]) (rest := []) B hw (c_L_age l _ X fu M_13 M_15 h_14 _) cs_L_113 rfl hl.1 rfl rfl ⟨(Nat.le_of_ble_eq_true rfl), (Nat.le_of_ble_eq_true rfl)⟩ (Nat.le_of_ble_eq_true rfl) ⟨(Nat.le_of_ble_eq_true rfl), (Nat.le_of_ble_eq_true rfl)⟩ dL_attempt_151 rfl (fun H locs hw => ?_)
        refine lv_iload hx hb dL_attempt_154 (lv_at hl 6 rfl) ?_
        refine jn_e hf (fun kk => ∀ (M_17 : Mem) (H : Heap) (locs : List Loc) (ls : Array Slot), HW (LW ex) X M_17 s H locs → lv_has ls 7 [(1, .ref (X.2.2 145)), (5, .int p5)] → kk M_17 = some rs → W p l e rm_L_attempt s m args below meth c H locs 0 0 Q (F0 m 194 ls [])) ?_ (fun k194_16 J194_16 hf => ?_)
        · intro M_17 H locs ls hw hl hf
          refine lv_aload_n hx hb dL_attempt_194 rfl (lv_at hl 0 rfl) ?_
          refine lv_bipush (v := 15) hx hb dL_attempt_195 (by decide) ?_
          refine lv_iload hx hb dL_attempt_197 (lv_at hl 1 rfl) ?_
          refine lv_iadd hx hb dL_attempt_199 ?_
          obtain ⟨g_18, hf⟩ := grd_e hf
          refine w_iald B hw (i := 145) (kw145 _) g_18 dL_attempt_200 ?_
          refine lv_if_ne (tgt := 206) hx hb dL_attempt_201 (by decide) (fun c_19 => ?_) (fun c_19 => ?_)
          · have hf := ie_e hf c_19
            refine lv_aload_n hx hb dL_attempt_206 rfl (lv_at hl 0 rfl) ?_
            refine lv_bipush (v := 15) hx hb dL_attempt_207 (by decide) ?_
            refine lv_iload hx hb dL_attempt_209 (lv_at hl 1 rfl) ?_
            refine lv_iadd hx hb dL_attempt_211 ?_
            refine lv_dup2_11 hx hb dL_attempt_212 rfl rfl ?_
            refine w_iald B hw (i := 145) (kw145 _) g_18 dL_attempt_213 ?_
            refine lv_iconst (v := 1) hx hb dL_attempt_214 (by decide) ?_
            refine lv_isub hx hb dL_attempt_215 ?_
            refine w_iast B hw (i := 145) (kw145 _) g_18 dL_attempt_216 hf (fun M_20 H locs hw hf => ?_)
            refine lv_iconst (v := 1) hx hb dL_attempt_217 (by decide) ?_
            cases hf
            subst hQ
            exact q_iret B hr hlk hw rfl rfl dL_attempt_218
          · have hf := it_e hf c_19
            refine lv_iconst (v := 2) hx hb dL_attempt_204 (by decide) ?_
            cases hf
            subst hQ
            exact q_iret B hr hlk hw rfl rfl dL_attempt_205
        refine lv_if_eq (tgt := 194) hx hb dL_attempt_156 (by decide) (fun c_21 => ?_) (fun c_21 => ?_)
        · have hf := it_e hf c_21
          exact J194_16 M_15 _ _ _ hw (lv_sub hl [1, 5] rfl) hf
        · have hf := ie_e hf c_21
          refine lv_aload hx hb dL_attempt_159 (lv_at hl 4 rfl) ?_
          refine lv_bipush (v := 8) hx hb dL_attempt_161 (by decide) ?_
          refine lv_dup2_11 hx hb dL_attempt_163 rfl rfl ?_
          refine w_iald B hw (i := 152) (kw152 _) (by decide) dL_attempt_164 ?_
          refine lv_iconst (v := 1) hx hb dL_attempt_165 (by decide) ?_
          refine lv_iadd hx hb dL_attempt_166 ?_
          refine w_iast B hw (i := 152) (kw152 _) (by decide) dL_attempt_167 hf (fun M_22 H locs hw hf => ?_)
          refine lv_aload hx hb dL_attempt_168 (lv_at hl 4 rfl) ?_
          refine lv_bipush (v := 7) hx hb dL_attempt_170 (by decide) ?_
          refine lv_dup2_11 hx hb dL_attempt_172 rfl rfl ?_
          refine w_iald B hw (i := 152) (kw152 _) (by decide) dL_attempt_173 ?_
          refine lv_iload hx hb dL_attempt_174 (lv_at hl 5 rfl) ?_
          refine q_callSi (M' := M_22) (As := [.int p5]) (rest := [.int (M_22 152 7), .int 7, .ref (X.2.2 152)]) B hw (c_L_fee l _ X p5 _ rfl M_22 _) cs_L_222 rfl hl.1 rfl rfl ⟨(Nat.le_of_ble_eq_true rfl), (Nat.le_of_ble_eq_true rfl)⟩ (Nat.le_of_ble_eq_true rfl) ⟨(Nat.le_of_ble_eq_true rfl), (Nat.le_of_ble_eq_true rfl)⟩ dL_attempt_176 rfl (fun H locs hw => ?_)
          refine lv_iadd hx hb dL_attempt_179 ?_
          refine w_iast B hw (i := 152) (kw152 _) (by decide) dL_attempt_180 hf (fun M_24 H locs hw hf => ?_)
          refine lv_aload hx hb dL_attempt_181 (lv_at hl 4 rfl) ?_
          refine lv_bipush (v := 13) hx hb dL_attempt_183 (by decide) ?_
          refine lv_dup2_11 hx hb dL_attempt_185 rfl rfl ?_
          refine w_iald B hw (i := 152) (kw152 _) (by decide) dL_attempt_186 ?_
          refine lv_iload hx hb dL_attempt_187 (lv_at hl 5 rfl) ?_
          refine q_callSi (M' := M_24) (As := [.int p5]) (rest := [.int (M_24 152 13), .int 13, .ref (X.2.2 152)]) B hw (c_L_fee l _ X p5 _ rfl M_24 _) cs_L_222 rfl hl.1 rfl rfl ⟨(Nat.le_of_ble_eq_true rfl), (Nat.le_of_ble_eq_true rfl)⟩ (Nat.le_of_ble_eq_true rfl) ⟨(Nat.le_of_ble_eq_true rfl), (Nat.le_of_ble_eq_true rfl)⟩ dL_attempt_189 rfl (fun H locs hw => ?_)
          refine lv_iadd hx hb dL_attempt_192 ?_
          refine w_iast B hw (i := 152) (kw152 _) (by decide) dL_attempt_193 hf (fun M_26 H locs hw hf => ?_)
          exact J194_16 M_26 _ _ _ hw (lv_sub hl [1, 5] rfl) hf
      refine lv_icmp_eq (tgt := 109) hx hb dL_attempt_98 (by decide) (fun c_27 => ?_) (fun c_27 => ?_)
      · have hf := it_e hf c_27
        exact J109_7 M_5 _ _ _ hw (lv_sub hl [0, 1, 2, 3, 4, 5, 6] rfl) hf
      · have hf := ie_e hf c_27
        refine lv_aload_n hx hb dL_attempt_101 rfl (lv_at hl 1 rfl) ?_
        refine lv_bipush (v := 24) hx hb dL_attempt_102 (by decide) ?_
        refine lv_iload hx hb dL_attempt_104 (lv_at hl 5 rfl) ?_
        refine lv_iadd hx hb dL_attempt_106 ?_
        refine lv_iconst (v := 0) hx hb dL_attempt_107 (by decide) ?_
        obtain ⟨g_28, hf⟩ := grd_e hf
        refine w_iast B hw (i := 145) (kw145 _) g_28 dL_attempt_108 hf (fun M_29 H locs hw hf => ?_)
        exact J109_7 M_29 _ _ _ hw (lv_sub hl [0, 1, 2, 3, 4, 5, 6] rfl) hf
    refine lv_if_eq (tgt := 84) hx hb dL_attempt_62 (by decide) (fun c_30 => ?_) (fun c_30 => ?_)
    · have hf := it_e hf c_30
      exact J84_6 () _ _ _ hw (lv_sub hl [0, 1, 2, 3, 4, 5, 6] rfl) hf
    · have hf := ie_e hf c_30
      refine lv_aload hx hb dL_attempt_65 (lv_at hl 4 rfl) ?_
      refine lv_iconst (v := 1) hx hb dL_attempt_67 (by decide) ?_
      refine w_iald B hw (i := 152) (kw152 _) (by decide) dL_attempt_68 ?_
      refine lv_aload hx hb dL_attempt_69 (lv_at hl 4 rfl) ?_
      refine lv_iconst (v := 4) hx hb dL_attempt_71 (by decide) ?_
      refine w_iald B hw (i := 152) (kw152 _) (by decide) dL_attempt_72 ?_
      refine lv_isub hx hb dL_attempt_73 ?_
      refine lv_aload hx hb dL_attempt_74 (lv_at hl 4 rfl) ?_
      refine lv_bipush (v := 6) hx hb dL_attempt_76 (by decide) ?_
      refine w_iald B hw (i := 152) (kw152 _) (by decide) dL_attempt_78 ?_
      refine lv_icmp_le (tgt := 84) hx hb dL_attempt_79 (by decide) (fun c_31 => ?_) (fun c_31 => ?_)
      · have hf := it_e hf c_31
        exact J84_6 () _ _ _ hw (lv_sub hl [0, 1, 2, 3, 4, 5, 6] rfl) hf
      · have hf := ie_e hf c_31
        refine lv_iconst (v := 0) hx hb dL_attempt_82 (by decide) ?_
        cases hf
        subst hQ
        exact q_iret B hr hlk hw rfl rfl dL_attempt_83
  refine lv_icmp_ne (tgt := 51) hx hb dL_attempt_14 (by decide) (fun c_32 => ?_) (fun c_32 => ?_)
  · have hf := ie_e hf c_32
    exact J51_2 M _ _ _ hw (lv_sub hl [0, 1, 2, 3, 4, 5, 6] rfl) hf
  · have hf := it_e hf c_32
    refine lv_aload_n hx hb dL_attempt_17 rfl (lv_at hl 1 rfl) ?_
    refine lv_bipush (v := 24) hx hb dL_attempt_18 (by decide) ?_
    refine lv_iload hx hb dL_attempt_20 (lv_at hl 5 rfl) ?_
    refine lv_iadd hx hb dL_attempt_22 ?_
    obtain ⟨g_33, hf⟩ := grd_e hf
    refine w_iald B hw (i := 145) (kw145 _) g_33 dL_attempt_23 ?_
    refine lv_aload_n hx hb dL_attempt_24 rfl (lv_at hl 1 rfl) ?_
    refine lv_bipush (v := 6) hx hb dL_attempt_25 (by decide) ?_
    refine lv_iload hx hb dL_attempt_27 (lv_at hl 5 rfl) ?_
    refine lv_iadd hx hb dL_attempt_29 ?_
    obtain ⟨g_34, hf⟩ := grd_e hf
    refine w_iald B hw (i := 145) (kw145 _) g_34 dL_attempt_30 ?_
    refine lv_icmp_lt (tgt := 51) hx hb dL_attempt_31 (by decide) (fun c_35 => ?_) (fun c_35 => ?_)
    · have hf := it_e hf c_35
      exact J51_2 M _ _ _ hw (lv_sub hl [0, 1, 2, 3, 4, 5, 6] rfl) hf
    · have hf := ie_e hf c_35
      refine lv_aload hx hb dL_attempt_34 (lv_at hl 4 rfl) ?_
      refine lv_iconst (v := 1) hx hb dL_attempt_36 (by decide) ?_
      refine lv_aload hx hb dL_attempt_37 (lv_at hl 4 rfl) ?_
      refine lv_iconst (v := 1) hx hb dL_attempt_39 (by decide) ?_
      refine w_iald B hw (i := 152) (kw152 _) (by decide) dL_attempt_40 ?_
      refine lv_bipush (v := 10) hx hb dL_attempt_41 (by decide) ?_
      refine lv_idiv hx hb dL_attempt_43 (by decide) ?_
      refine lv_bipush (v := 10) hx hb dL_attempt_44 (by decide) ?_
      refine lv_imul hx hb dL_attempt_46 ?_
      refine lv_bipush (v := 10) hx hb dL_attempt_47 (by decide) ?_
      refine lv_iadd hx hb dL_attempt_49 ?_
      refine w_iast B hw (i := 152) (kw152 _) (by decide) dL_attempt_50 hf (fun M_36 H locs hw hf => ?_)
      exact J51_2 M_36 _ _ _ hw (lv_sub hl [0, 1, 2, 3, 4, 5, 6] rfl) hf
abbrev rm_L_request : Room := { frames := 2, cells := 0, slots := 0, locals := 54 }
set_option maxRecDepth 100000 in
set_option maxHeartbeats 8000000 in
theorem c_L_request (l : Launch) (ex : List (Nat × Nat)) (X : XT) (fu : Nat) (p5 : Int32) (M : Mem)  (rs : (Int32 × Mem)) (hf : f_L_request fu p5 M = some rs) (sz : Nat) : Met l yL_request (wbig yL_request cL_request 8 (some .boolean)) rm_L_request (va_Pc [.ref (X.2.2 144), .ref (X.2.2 145), .ref (X.2.2 147), .ref (X.2.2 148), .ref (X.2.2 152), .int p5] (PW (LW ex) X M sz)) (QI (LW ex) X rs.2 rs.1 sz) 0 0 (AX (LW ex) X sz) := by
  refine met_go (L := (LW ex)) (M := M) (by decide +kernel) (Nat.le_of_ble_eq_true rfl) ?_
  intro p e s m args below meth c hsz B hr hlk hw ls hl
  subst hsz
  have hx := B.hx
  have hb := B.hb
  have hl : lv_has ls 8 [(0, .ref (X.2.2 144)), (1, .ref (X.2.2 145)), (2, .ref (X.2.2 147)), (3, .ref (X.2.2 148)), (4, .ref (X.2.2 152)), (5, .int p5)] := hl
  generalize hQ : MQ below _ args s 0 0 (AX (LW ex) X s.heap.size) = Q
  unfold f_L_request at hf
  refine lv_iconst (v := 0) hx hb dL_request_0 (by decide) ?_
  refine lv_istore (lv' := [(6, .int 0), (0, .ref (X.2.2 144)), (1, .ref (X.2.2 145)), (2, .ref (X.2.2 147)), (3, .ref (X.2.2 148)), (4, .ref (X.2.2 152)), (5, .int p5)]) hx hb dL_request_1 hl (by decide) rfl (fun ls hl => ?_)
  have hL_3 : ∀ (n_3 : Nat) (x6_1 : Int32) (M_2 : Mem) (H : Heap) (locs : List Loc) (ls : Array Slot), HW (LW ex) X M_2 s H locs → lv_has ls 8 [(0, .ref (X.2.2 144)), (1, .ref (X.2.2 145)), (2, .ref (X.2.2 147)), (3, .ref (X.2.2 148)), (4, .ref (X.2.2 152)), (5, .int p5), (6, .int x6_1)] → f_L_request_L3 fu p5 n_3 x6_1 M_2 = some rs → W p l e rm_L_request s m args below meth c H locs 0 0 Q (F0 m 3 ls []) := by
    intro n_3
    induction n_3 with
    | zero => intro x6_1 M_2 H locs ls hw hl hf; exact no_none hf
    | succ n_3 ih_3 =>
      intro x6_1 M_2 H locs ls hw hl hf
      rw [f_L_request_L3] at hf
      refine lv_iload hx hb dL_request_3 (lv_at hl 6 rfl) ?_
      refine lv_iconst (v := 3) hx hb dL_request_5 (by decide) ?_
      refine lv_icmp_ge (tgt := 47) hx hb dL_request_6 (by decide) (fun c_3 => ?_) (fun c_3 => ?_)
      · have hf := it_e hf c_3
        refine lv_iconst (v := 0) hx hb dL_request_47 (by decide) ?_
        cases hf
        subst hQ
        exact q_zret B hr hlk rfl hw rfl rfl dL_request_48
      · have hf := ie_e hf c_3
        refine lv_aload_n hx hb dL_request_9 rfl (lv_at hl 0 rfl) ?_
        refine lv_aload_n hx hb dL_request_10 rfl (lv_at hl 1 rfl) ?_
        refine lv_aload_n hx hb dL_request_11 rfl (lv_at hl 2 rfl) ?_
        refine lv_aload_n hx hb dL_request_12 rfl (lv_at hl 3 rfl) ?_
        refine lv_aload hx hb dL_request_13 (lv_at hl 4 rfl) ?_
        refine lv_iload hx hb dL_request_15 (lv_at hl 5 rfl) ?_
        refine lv_iconst (v := 1) hx hb dL_request_17 (by decide) ?_
        obtain ⟨r_5, M_6, h_4, hf⟩ := bm_e hf
        refine q_callSi (M' := M_6) (As := [.ref (X.2.2 144), .ref (X.2.2 145), .ref (X.2.2 147), .ref (X.2.2 148), .ref (X.2.2 152), .int p5, .int 1]) (rest := []) B hw (c_L_attempt l _ X fu p5 1 M_2 (r_5, M_6) h_4 _) cs_L_225 rfl hl.1 rfl rfl ⟨(Nat.le_of_ble_eq_true rfl), (Nat.le_of_ble_eq_true rfl)⟩ (Nat.le_of_ble_eq_true rfl) ⟨(Nat.le_of_ble_eq_true rfl), (Nat.le_of_ble_eq_true rfl)⟩ dL_request_18 rfl (fun H locs hw => ?_)
        refine lv_istore (lv' := [(7, .int r_5), (0, .ref (X.2.2 144)), (1, .ref (X.2.2 145)), (2, .ref (X.2.2 147)), (3, .ref (X.2.2 148)), (4, .ref (X.2.2 152)), (5, .int p5), (6, .int x6_1)]) hx hb dL_request_21 hl (by decide) rfl (fun ls hl => ?_)
        refine lv_iload hx hb dL_request_23 (lv_at hl 0 rfl) ?_
        refine lv_iconst (v := 1) hx hb dL_request_25 (by decide) ?_
        refine lv_icmp_eq (tgt := 41) hx hb dL_request_26 (by decide) (fun c_7 => ?_) (fun c_7 => ?_)
        · have hf := it_e hf c_7
          refine r_iinc (v := (x6_1 + 1)) hx hb dL_request_41 hl (k := 7) rfl rfl (by decide) hf (fun x6_8 ls hl hf => ?_)
          have hl : lv_has ls 8 [(6, .int x6_8), (7, .int r_5), (0, .ref (X.2.2 144)), (1, .ref (X.2.2 145)), (2, .ref (X.2.2 147)), (3, .ref (X.2.2 148)), (4, .ref (X.2.2 152)), (5, .int p5)] := hl
          refine lv_goto (tgt := 3) hx hb dL_request_44 (by decide) ?_
          exact ih_3 x6_8 M_6 _ _ _ hw (lv_sub hl [2, 3, 4, 5, 6, 7, 0] rfl) hf
        · have hf := ie_e hf c_7
          refine lv_iload hx hb dL_request_29 (lv_at hl 0 rfl) ?_
          refine lv_iconst (v := 2) hx hb dL_request_31 (by decide) ?_
          refine lv_icmp_ne (tgt := 39) hx hb dL_request_32 (by decide) (fun c_9 => ?_) (fun c_9 => ?_)
          · have hf := ie_e hf c_9
            refine lv_iconst (v := 0) hx hb dL_request_39 (by decide) ?_
            cases hf
            subst hQ
            exact q_zret B hr hlk rfl hw rfl rfl dL_request_40
          · have hf := it_e hf c_9
            refine lv_iconst (v := 1) hx hb dL_request_35 (by decide) ?_
            refine lv_goto (tgt := 40) hx hb dL_request_36 (by decide) ?_
            cases hf
            subst hQ
            exact q_zret B hr hlk rfl hw rfl rfl dL_request_40
  exact hL_3 fu 0 M _ _ _ hw (lv_sub hl [1, 2, 3, 4, 5, 6, 0] rfl) hf
