abbrev rm_X10_isNumber : Room := { frames := 0, cells := 0, slots := 0, locals := 0 }
set_option maxRecDepth 100000 in
set_option maxHeartbeats 4000000 in
theorem c_X10_isNumber (l : Launch) (X : XT) (p0 : Int32)  (rs : Int32) (hf : f_X10_isNumber p0 = rs) (M : Mem) (sz : Nat) : Met l yX10_isNumber (wbig yX10_isNumber cX10_isNumber 1 (some .boolean)) rm_X10_isNumber (va_Pc [.int p0] (PW LC X M sz)) (QI LC X M rs sz) 0 0 (AX LC X sz) := by
  refine met_go (L := LC) (M := M) (by decide +kernel) (Nat.le_of_ble_eq_true rfl) ?_
  intro p e s m args below meth c hsz B hr hlk hw ls hl
  subst hsz
  have hx := B.hx
  have hb := B.hb
  have hl : lv_has ls 1 [(0, .int p0)] := hl
  generalize hQ : MQ below _ args s 0 0 (AX LC X s.heap.size) = Q
  unfold f_X10_isNumber at hf
  refine lv_iload_n hx hb dX10_isNumber_0 rfl (lv_at hl 0 rfl) ?_
  refine lv_sipush (v := 5000) hx hb dX10_isNumber_1 (by decide) ?_
  refine lv_icmp_eq (tgt := 18) hx hb dX10_isNumber_4 (by decide) (fun c_1 => ?_) (fun c_1 => ?_)
  · have hf := it_e hf c_1
    refine lv_iconst (v := 0) hx hb dX10_isNumber_18 (by decide) ?_
    subst hf
    subst hQ
    exact q_zret B hr hlk rfl hw rfl rfl dX10_isNumber_19
  · have hf := ie_e hf c_1
    refine lv_iload_n hx hb dX10_isNumber_7 rfl (lv_at hl 0 rfl) ?_
    refine lv_sipush (v := 5001) hx hb dX10_isNumber_8 (by decide) ?_
    refine lv_icmp_eq (tgt := 18) hx hb dX10_isNumber_11 (by decide) (fun c_2 => ?_) (fun c_2 => ?_)
    · have hf := it_e hf c_2
      refine lv_iconst (v := 0) hx hb dX10_isNumber_18 (by decide) ?_
      subst hf
      subst hQ
      exact q_zret B hr hlk rfl hw rfl rfl dX10_isNumber_19
    · have hf := ie_e hf c_2
      refine lv_iconst (v := 1) hx hb dX10_isNumber_14 (by decide) ?_
      refine lv_goto (tgt := 19) hx hb dX10_isNumber_15 (by decide) ?_
      subst hf
      subst hQ
      exact q_zret B hr hlk rfl hw rfl rfl dX10_isNumber_19
theorem isb_f_X10_isNumber (p0 : Int32) : isb (f_X10_isNumber p0) = true := by
  unfold f_X10_isNumber
  try simp only [jn, nm]
  repeat' first | apply isb_ite | exact isb_0 | exact isb_1
abbrev rm_X10_holdsFor : Room := { frames := 1, cells := 0, slots := 0, locals := 20 }
set_option maxRecDepth 100000 in
set_option maxHeartbeats 4000000 in
theorem c_X10_holdsFor (l : Launch) (X : XT) (p0 : Int32) (p1 : Int32) (p2 : Int32)  (rs : Int32) (hf : f_X10_holdsFor p0 p1 p2 = rs) (M : Mem) (sz : Nat) : Met l yX10_holdsFor (wbig yX10_holdsFor cX10_holdsFor 3 (some .boolean)) rm_X10_holdsFor (va_Pc [.int p0, .int p1, .int p2] (PW LC X M sz)) (QI LC X M rs sz) 0 0 (AX LC X sz) := by
  refine met_go (L := LC) (M := M) (by decide +kernel) (Nat.le_of_ble_eq_true rfl) ?_
  intro p e s m args below meth c hsz B hr hlk hw ls hl
  subst hsz
  have hx := B.hx
  have hb := B.hb
  have hl : lv_has ls 3 [(0, .int p0), (1, .int p1), (2, .int p2)] := hl
  generalize hQ : MQ below _ args s 0 0 (AX LC X s.heap.size) = Q
  unfold f_X10_holdsFor at hf
  refine lv_iload_n hx hb dX10_holdsFor_0 rfl (lv_at hl 0 rfl) ?_
  by_cases c_1 : p0 = 0
  · have hf := it_e hf c_1
    refine lv_tableIn (tgt := 32) hx hb dX10_holdsFor_1 (by rw [c_1]; decide) (by rw [c_1]; decide) (by rw [c_1]; rfl) (by decide) ?_
    refine lv_iload_n hx hb dX10_holdsFor_32 rfl (lv_at hl 2 rfl) ?_
    refine lv_iload_n hx hb dX10_holdsFor_33 rfl (lv_at hl 1 rfl) ?_
    refine lv_icmp_ne (tgt := 41) hx hb dX10_holdsFor_34 (by decide) (fun c_2 => ?_) (fun c_2 => ?_)
    · have hf := ie_e hf c_2
      refine lv_iconst (v := 0) hx hb dX10_holdsFor_41 (by decide) ?_
      subst hf
      subst hQ
      exact q_zret B hr hlk rfl hw rfl rfl dX10_holdsFor_42
    · have hf := it_e hf c_2
      refine lv_iconst (v := 1) hx hb dX10_holdsFor_37 (by decide) ?_
      refine lv_goto (tgt := 42) hx hb dX10_holdsFor_38 (by decide) ?_
      subst hf
      subst hQ
      exact q_zret B hr hlk rfl hw rfl rfl dX10_holdsFor_42
  · have hf := ie_e hf c_1
    by_cases c_3 : p0 = 1
    · have hf := it_e hf c_3
      refine lv_tableIn (tgt := 43) hx hb dX10_holdsFor_1 (by rw [c_3]; decide) (by rw [c_3]; decide) (by rw [c_3]; rfl) (by decide) ?_
      refine lv_iload_n hx hb dX10_holdsFor_43 rfl (lv_at hl 2 rfl) ?_
      refine q_callSi (M' := M) (As := [.int p2]) (rest := []) B hw (c_X10_isNumber l X p2 _ rfl M _) cs_X10_327 rfl hl.1 rfl rfl ⟨Nat.le_of_ble_eq_true rfl, Nat.le_of_ble_eq_true rfl⟩ (Nat.le_of_ble_eq_true rfl) ⟨Nat.le_of_ble_eq_true rfl, Nat.le_of_ble_eq_true rfl⟩ dX10_holdsFor_44 rfl (fun H locs hw => ?_)
      refine lv_if_eq (tgt := 59) hx hb dX10_holdsFor_47 (by decide) (fun c_4 => ?_) (fun c_4 => ?_)
      · have hf := it_e hf c_4
        refine lv_iconst (v := 0) hx hb dX10_holdsFor_59 (by decide) ?_
        subst hf
        subst hQ
        exact q_zret B hr hlk rfl hw rfl rfl dX10_holdsFor_60
      · have hf := ie_e hf c_4
        refine lv_iload_n hx hb dX10_holdsFor_50 rfl (lv_at hl 2 rfl) ?_
        refine lv_iload_n hx hb dX10_holdsFor_51 rfl (lv_at hl 1 rfl) ?_
        refine lv_icmp_ge (tgt := 59) hx hb dX10_holdsFor_52 (by decide) (fun c_5 => ?_) (fun c_5 => ?_)
        · have hf := it_e hf c_5
          refine lv_iconst (v := 0) hx hb dX10_holdsFor_59 (by decide) ?_
          subst hf
          subst hQ
          exact q_zret B hr hlk rfl hw rfl rfl dX10_holdsFor_60
        · have hf := ie_e hf c_5
          refine lv_iconst (v := 1) hx hb dX10_holdsFor_55 (by decide) ?_
          refine lv_goto (tgt := 60) hx hb dX10_holdsFor_56 (by decide) ?_
          subst hf
          subst hQ
          exact q_zret B hr hlk rfl hw rfl rfl dX10_holdsFor_60
    · have hf := ie_e hf c_3
      by_cases c_6 : p0 = 2
      · have hf := it_e hf c_6
        refine lv_tableIn (tgt := 61) hx hb dX10_holdsFor_1 (by rw [c_6]; decide) (by rw [c_6]; decide) (by rw [c_6]; rfl) (by decide) ?_
        refine lv_iload_n hx hb dX10_holdsFor_61 rfl (lv_at hl 2 rfl) ?_
        refine q_callSi (M' := M) (As := [.int p2]) (rest := []) B hw (c_X10_isNumber l X p2 _ rfl M _) cs_X10_327 rfl hl.1 rfl rfl ⟨Nat.le_of_ble_eq_true rfl, Nat.le_of_ble_eq_true rfl⟩ (Nat.le_of_ble_eq_true rfl) ⟨Nat.le_of_ble_eq_true rfl, Nat.le_of_ble_eq_true rfl⟩ dX10_holdsFor_62 rfl (fun H locs hw => ?_)
        refine lv_if_eq (tgt := 77) hx hb dX10_holdsFor_65 (by decide) (fun c_7 => ?_) (fun c_7 => ?_)
        · have hf := it_e hf c_7
          refine lv_iconst (v := 0) hx hb dX10_holdsFor_77 (by decide) ?_
          subst hf
          subst hQ
          exact q_zret B hr hlk rfl hw rfl rfl dX10_holdsFor_78
        · have hf := ie_e hf c_7
          refine lv_iload_n hx hb dX10_holdsFor_68 rfl (lv_at hl 2 rfl) ?_
          refine lv_iload_n hx hb dX10_holdsFor_69 rfl (lv_at hl 1 rfl) ?_
          refine lv_icmp_le (tgt := 77) hx hb dX10_holdsFor_70 (by decide) (fun c_8 => ?_) (fun c_8 => ?_)
          · have hf := it_e hf c_8
            refine lv_iconst (v := 0) hx hb dX10_holdsFor_77 (by decide) ?_
            subst hf
            subst hQ
            exact q_zret B hr hlk rfl hw rfl rfl dX10_holdsFor_78
          · have hf := ie_e hf c_8
            refine lv_iconst (v := 1) hx hb dX10_holdsFor_73 (by decide) ?_
            refine lv_goto (tgt := 78) hx hb dX10_holdsFor_74 (by decide) ?_
            subst hf
            subst hQ
            exact q_zret B hr hlk rfl hw rfl rfl dX10_holdsFor_78
      · have hf := ie_e hf c_6
        by_cases c_9 : p0 = 3
        · have hf := it_e hf c_9
          refine lv_tableIn (tgt := 79) hx hb dX10_holdsFor_1 (by rw [c_9]; decide) (by rw [c_9]; decide) (by rw [c_9]; rfl) (by decide) ?_
          refine lv_iload_n hx hb dX10_holdsFor_79 rfl (lv_at hl 2 rfl) ?_
          refine lv_sipush (v := 5000) hx hb dX10_holdsFor_80 (by decide) ?_
          refine lv_icmp_ne (tgt := 90) hx hb dX10_holdsFor_83 (by decide) (fun c_10 => ?_) (fun c_10 => ?_)
          · have hf := ie_e hf c_10
            refine lv_iconst (v := 0) hx hb dX10_holdsFor_90 (by decide) ?_
            subst hf
            subst hQ
            exact q_zret B hr hlk rfl hw rfl rfl dX10_holdsFor_91
          · have hf := it_e hf c_10
            refine lv_iconst (v := 1) hx hb dX10_holdsFor_86 (by decide) ?_
            refine lv_goto (tgt := 91) hx hb dX10_holdsFor_87 (by decide) ?_
            subst hf
            subst hQ
            exact q_zret B hr hlk rfl hw rfl rfl dX10_holdsFor_91
        · have hf := ie_e hf c_9
          refine lv_tableOut (tgt := 92) hx hb dX10_holdsFor_1 (sw_n (n := 4) (fun k hk => ?_) (by decide)) (by decide) ?_
          · rcases (show k = 0 ∨ k = 1 ∨ k = 2 ∨ k = 3 by omega) with rfl | rfl | rfl | rfl
            · exact c_1
            · exact c_3
            · exact c_6
            · exact c_9
          · refine lv_iload_n hx hb dX10_holdsFor_92 rfl (lv_at hl 2 rfl) ?_
            refine lv_sipush (v := 5001) hx hb dX10_holdsFor_93 (by decide) ?_
            refine lv_icmp_ne (tgt := 103) hx hb dX10_holdsFor_96 (by decide) (fun c_11 => ?_) (fun c_11 => ?_)
            · have hf := ie_e hf c_11
              refine lv_iconst (v := 0) hx hb dX10_holdsFor_103 (by decide) ?_
              subst hf
              subst hQ
              exact q_zret B hr hlk rfl hw rfl rfl dX10_holdsFor_104
            · have hf := it_e hf c_11
              refine lv_iconst (v := 1) hx hb dX10_holdsFor_99 (by decide) ?_
              refine lv_goto (tgt := 104) hx hb dX10_holdsFor_100 (by decide) ?_
              subst hf
              subst hQ
              exact q_zret B hr hlk rfl hw rfl rfl dX10_holdsFor_104
theorem isb_f_X10_holdsFor (p0 p1 p2 : Int32) : isb (f_X10_holdsFor p0 p1 p2) = true := by
  unfold f_X10_holdsFor
  try simp only [jn, nm]
  repeat' first | apply isb_ite | exact isb_0 | exact isb_1 | apply isb_f_X10_isNumber | apply isb_f_X10_isNumber
abbrev rm_X0_rank : Room := { frames := 0, cells := 0, slots := 0, locals := 0 }
set_option maxRecDepth 100000 in
set_option maxHeartbeats 4000000 in
theorem c_X0_rank (l : Launch) (X : XT) (p0 : Int32)  (rs : Int32) (hf : f_X0_rank p0 = rs) (M : Mem) (sz : Nat) : Met l yX0_rank (wbig yX0_rank cX0_rank 1 (some .int)) rm_X0_rank (va_Pc [.int p0] (PW LC X M sz)) (QI LC X M rs sz) 0 0 (AX LC X sz) := by
  refine met_go (L := LC) (M := M) (by decide +kernel) (Nat.le_of_ble_eq_true rfl) ?_
  intro p e s m args below meth c hsz B hr hlk hw ls hl
  subst hsz
  have hx := B.hx
  have hb := B.hb
  have hl : lv_has ls 1 [(0, .int p0)] := hl
  generalize hQ : MQ below _ args s 0 0 (AX LC X s.heap.size) = Q
  unfold f_X0_rank at hf
  refine lv_iload_n hx hb dX0_rank_0 rfl (lv_at hl 0 rfl) ?_
  refine lv_sipush (v := 5001) hx hb dX0_rank_1 (by decide) ?_
  refine lv_icmp_ne (tgt := 11) hx hb dX0_rank_4 (by decide) (fun c_1 => ?_) (fun c_1 => ?_)
  · have hf := ie_e hf c_1
    refine lv_iload_n hx hb dX0_rank_11 rfl (lv_at hl 0 rfl) ?_
    refine lv_sipush (v := 5000) hx hb dX0_rank_12 (by decide) ?_
    refine lv_icmp_ne (tgt := 24) hx hb dX0_rank_15 (by decide) (fun c_2 => ?_) (fun c_2 => ?_)
    · have hf := ie_e hf c_2
      refine lv_iload_n hx hb dX0_rank_24 rfl (lv_at hl 0 rfl) ?_
      subst hf
      subst hQ
      exact q_iret B hr hlk hw rfl rfl dX0_rank_25
    · have hf := it_e hf c_2
      refine lv_sipush (v := (-1000)) hx hb dX0_rank_18 (by decide) ?_
      refine lv_goto (tgt := 25) hx hb dX0_rank_21 (by decide) ?_
      subst hf
      subst hQ
      exact q_iret B hr hlk hw rfl rfl dX0_rank_25
  · have hf := it_e hf c_1
    refine lv_sipush (v := (-1001)) hx hb dX0_rank_7 (by decide) ?_
    subst hf
    subst hQ
    exact q_iret B hr hlk hw rfl rfl dX0_rank_10
abbrev rm_X10_storeOf : Room := { frames := 0, cells := 0, slots := 0, locals := 0 }
set_option maxRecDepth 100000 in
set_option maxHeartbeats 4000000 in
theorem c_X10_storeOf (l : Launch) (X : XT) (p0 : Int32)  (rs : Int32) (hf : f_X10_storeOf p0 = rs) (M : Mem) (sz : Nat) : Met l yX10_storeOf (wbig yX10_storeOf cX10_storeOf 1 (some .int)) rm_X10_storeOf (va_Pc [.int p0] (PW LC X M sz)) (QI LC X M rs sz) 0 0 (AX LC X sz) := by
  refine met_go (L := LC) (M := M) (by decide +kernel) (Nat.le_of_ble_eq_true rfl) ?_
  intro p e s m args below meth c hsz B hr hlk hw ls hl
  subst hsz
  have hx := B.hx
  have hb := B.hb
  have hl : lv_has ls 1 [(0, .int p0)] := hl
  generalize hQ : MQ below _ args s 0 0 (AX LC X s.heap.size) = Q
  unfold f_X10_storeOf at hf
  refine lv_iload_n hx hb dX10_storeOf_0 rfl (lv_at hl 0 rfl) ?_
  refine lv_iconst (v := 2) hx hb dX10_storeOf_1 (by decide) ?_
  refine lv_idiv hx hb dX10_storeOf_2 (by decide) ?_
  subst hf
  subst hQ
  exact q_iret B hr hlk hw rfl rfl dX10_storeOf_3
abbrev rm_X10_canDo : Room := { frames := 0, cells := 0, slots := 0, locals := 0 }
set_option maxRecDepth 100000 in
set_option maxHeartbeats 4000000 in
theorem c_X10_canDo (l : Launch) (X : XT) (p0 : Int32) (p1 : Int32) (p2 : Int32)  (rs : Int32) (hf : f_X10_canDo p0 p1 p2 = rs) (M : Mem) (sz : Nat) : Met l yX10_canDo (wbig yX10_canDo cX10_canDo 3 (some .boolean)) rm_X10_canDo (va_Pc [.int p0, .int p1, .int p2] (PW LC X M sz)) (QI LC X M rs sz) 0 0 (AX LC X sz) := by
  refine met_go (L := LC) (M := M) (by decide +kernel) (Nat.le_of_ble_eq_true rfl) ?_
  intro p e s m args below meth c hsz B hr hlk hw ls hl
  subst hsz
  have hx := B.hx
  have hb := B.hb
  have hl : lv_has ls 3 [(0, .int p0), (1, .int p1), (2, .int p2)] := hl
  generalize hQ : MQ below _ args s 0 0 (AX LC X s.heap.size) = Q
  unfold f_X10_canDo at hf
  refine lv_iload_n hx hb dX10_canDo_0 rfl (lv_at hl 0 rfl) ?_
  by_cases c_1 : p0 = 0
  · have hf := it_e hf c_1
    refine lv_lookup (tgt := 28) hx hb dX10_canDo_1 (by decide) (by rw [c_1] <;> rfl) (by decide) ?_
    refine lv_iload_n hx hb dX10_canDo_28 rfl (lv_at hl 2 rfl) ?_
    refine lv_iconst (v := 4) hx hb dX10_canDo_29 (by decide) ?_
    refine lv_icmp_eq (tgt := 37) hx hb dX10_canDo_30 (by decide) (fun c_2 => ?_) (fun c_2 => ?_)
    · have hf := it_e hf c_2
      refine lv_iconst (v := 0) hx hb dX10_canDo_37 (by decide) ?_
      subst hf
      subst hQ
      exact q_zret B hr hlk rfl hw rfl rfl dX10_canDo_38
    · have hf := ie_e hf c_2
      refine lv_iconst (v := 1) hx hb dX10_canDo_33 (by decide) ?_
      refine lv_goto (tgt := 38) hx hb dX10_canDo_34 (by decide) ?_
      subst hf
      subst hQ
      exact q_zret B hr hlk rfl hw rfl rfl dX10_canDo_38
  · have hf := ie_e hf c_1
    by_cases c_3 : p0 = 1
    · have hf := it_e hf c_3
      refine lv_lookup (tgt := 39) hx hb dX10_canDo_1 (by decide) (by rw [c_3] <;> rfl) (by decide) ?_
      refine lv_iload_n hx hb dX10_canDo_39 rfl (lv_at hl 1 rfl) ?_
      refine lv_if_ne (tgt := 52) hx hb dX10_canDo_40 (by decide) (fun c_4 => ?_) (fun c_4 => ?_)
      · have hf := ie_e hf c_4
        refine lv_iconst (v := 0) hx hb dX10_canDo_52 (by decide) ?_
        subst hf
        subst hQ
        exact q_zret B hr hlk rfl hw rfl rfl dX10_canDo_53
      · have hf := it_e hf c_4
        refine lv_iload_n hx hb dX10_canDo_43 rfl (lv_at hl 2 rfl) ?_
        refine lv_iconst (v := 2) hx hb dX10_canDo_44 (by decide) ?_
        refine lv_icmp_gt (tgt := 52) hx hb dX10_canDo_45 (by decide) (fun c_5 => ?_) (fun c_5 => ?_)
        · have hf := it_e hf c_5
          refine lv_iconst (v := 0) hx hb dX10_canDo_52 (by decide) ?_
          subst hf
          subst hQ
          exact q_zret B hr hlk rfl hw rfl rfl dX10_canDo_53
        · have hf := ie_e hf c_5
          refine lv_iconst (v := 1) hx hb dX10_canDo_48 (by decide) ?_
          refine lv_goto (tgt := 53) hx hb dX10_canDo_49 (by decide) ?_
          subst hf
          subst hQ
          exact q_zret B hr hlk rfl hw rfl rfl dX10_canDo_53
    · have hf := ie_e hf c_3
      have hne : p0.toInt ≠ 0 ∧ p0.toInt ≠ 1 := ⟨(fun z => c_1 (Int32.toInt_inj.mp z)), (fun z => c_3 (Int32.toInt_inj.mp z))⟩
      refine lv_lookup (off := 53) (tgt := 54) hx hb dX10_canDo_1 (by decide) (by simp [Op.lookupswitch.offset, hne.1, hne.2, Ne.symm hne.1, Ne.symm hne.2]) (by decide) ?_
      refine lv_iload_n hx hb dX10_canDo_54 rfl (lv_at hl 2 rfl) ?_
      refine lv_if_eq (tgt := 72) hx hb dX10_canDo_55 (by decide) (fun c_6 => ?_) (fun c_6 => ?_)
      · have hf := it_e hf c_6
        refine lv_iconst (v := 1) hx hb dX10_canDo_72 (by decide) ?_
        refine lv_goto (tgt := 77) hx hb dX10_canDo_73 (by decide) ?_
        subst hf
        subst hQ
        exact q_zret B hr hlk rfl hw rfl rfl dX10_canDo_77
      · have hf := ie_e hf c_6
        refine lv_iload_n hx hb dX10_canDo_58 rfl (lv_at hl 2 rfl) ?_
        refine lv_iconst (v := 4) hx hb dX10_canDo_59 (by decide) ?_
        refine lv_icmp_eq (tgt := 72) hx hb dX10_canDo_60 (by decide) (fun c_7 => ?_) (fun c_7 => ?_)
        · have hf := it_e hf c_7
          refine lv_iconst (v := 1) hx hb dX10_canDo_72 (by decide) ?_
          refine lv_goto (tgt := 77) hx hb dX10_canDo_73 (by decide) ?_
          subst hf
          subst hQ
          exact q_zret B hr hlk rfl hw rfl rfl dX10_canDo_77
        · have hf := ie_e hf c_7
          refine lv_iload_n hx hb dX10_canDo_63 rfl (lv_at hl 1 rfl) ?_
          refine lv_if_ne (tgt := 76) hx hb dX10_canDo_64 (by decide) (fun c_8 => ?_) (fun c_8 => ?_)
          · have hf := ie_e hf c_8
            refine lv_iconst (v := 0) hx hb dX10_canDo_76 (by decide) ?_
            subst hf
            subst hQ
            exact q_zret B hr hlk rfl hw rfl rfl dX10_canDo_77
          · have hf := it_e hf c_8
            refine lv_iload_n hx hb dX10_canDo_67 rfl (lv_at hl 2 rfl) ?_
            refine lv_iconst (v := 2) hx hb dX10_canDo_68 (by decide) ?_
            refine lv_icmp_gt (tgt := 76) hx hb dX10_canDo_69 (by decide) (fun c_9 => ?_) (fun c_9 => ?_)
            · have hf := it_e hf c_9
              refine lv_iconst (v := 0) hx hb dX10_canDo_76 (by decide) ?_
              subst hf
              subst hQ
              exact q_zret B hr hlk rfl hw rfl rfl dX10_canDo_77
            · have hf := ie_e hf c_9
              refine lv_iconst (v := 1) hx hb dX10_canDo_72 (by decide) ?_
              refine lv_goto (tgt := 77) hx hb dX10_canDo_73 (by decide) ?_
              subst hf
              subst hQ
              exact q_zret B hr hlk rfl hw rfl rfl dX10_canDo_77
theorem isb_f_X10_canDo (p0 p1 p2 : Int32) : isb (f_X10_canDo p0 p1 p2) = true := by
  unfold f_X10_canDo
  try simp only [jn, nm]
  repeat' first | apply isb_ite | exact isb_0 | exact isb_1
abbrev rm_X10_follows : Room := { frames := 0, cells := 0, slots := 0, locals := 0 }
set_option maxRecDepth 100000 in
set_option maxHeartbeats 4000000 in
theorem c_X10_follows (l : Launch) (X : XT) (p0 : Int32) (p1 : Int32) (p2 : Int32) (p3 : Int32)  (rs : Int32) (hf : f_X10_follows p0 p1 p2 p3 = rs) (M : Mem) (sz : Nat) : Met l yX10_follows (wbig yX10_follows cX10_follows 4 (some .boolean)) rm_X10_follows (va_Pc [.int p0, .int p1, .int p2, .int p3] (PW LC X M sz)) (QI LC X M rs sz) 0 0 (AX LC X sz) := by
  refine met_go (L := LC) (M := M) (by decide +kernel) (Nat.le_of_ble_eq_true rfl) ?_
  intro p e s m args below meth c hsz B hr hlk hw ls hl
  subst hsz
  have hx := B.hx
  have hb := B.hb
  have hl : lv_has ls 4 [(0, .int p0), (1, .int p1), (2, .int p2), (3, .int p3)] := hl
  generalize hQ : MQ below _ args s 0 0 (AX LC X s.heap.size) = Q
  unfold f_X10_follows at hf
  refine lv_iload_n hx hb dX10_follows_0 rfl (lv_at hl 0 rfl) ?_
  refine lv_iload_n hx hb dX10_follows_1 rfl (lv_at hl 2 rfl) ?_
  refine jn_e hf (fun kk => ∀ (_ : Unit) (H : Heap) (locs : List Loc) (ls : Array Slot), HW LC X M s H locs → lv_has ls 4 [(0, .int p0), (1, .int p1), (2, .int p2), (3, .int p3)] → kk () = rs → W p l e rm_X10_follows s m args below meth c H locs 0 0 Q (F0 m 12 ls [])) ?_ (fun k12_1 J12_1 hf => ?_)
  · intro _ H locs ls hw hl hf
    refine lv_iload_n hx hb dX10_follows_12 rfl (lv_at hl 0 rfl) ?_
    refine lv_iconst (v := 1) hx hb dX10_follows_13 (by decide) ?_
    refine lv_icmp_ne (tgt := 42) hx hb dX10_follows_14 (by decide) (fun c_2 => ?_) (fun c_2 => ?_)
    · have hf := ie_e hf c_2
      refine lv_iload_n hx hb dX10_follows_42 rfl (lv_at hl 0 rfl) ?_
      refine lv_iconst (v := 2) hx hb dX10_follows_43 (by decide) ?_
      refine lv_icmp_ne (tgt := 72) hx hb dX10_follows_44 (by decide) (fun c_3 => ?_) (fun c_3 => ?_)
      · have hf := ie_e hf c_3
        refine lv_iconst (v := 0) hx hb dX10_follows_72 (by decide) ?_
        subst hf
        subst hQ
        exact q_zret B hr hlk rfl hw rfl rfl dX10_follows_73
      · have hf := it_e hf c_3
        refine lv_iload_n hx hb dX10_follows_47 rfl (lv_at hl 2 rfl) ?_
        refine lv_iconst (v := 2) hx hb dX10_follows_48 (by decide) ?_
        refine jn_e hf (fun kk => ∀ (_ : Unit) (H : Heap) (locs : List Loc) (ls : Array Slot), HW LC X M s H locs → lv_has ls 4 [(1, .int p1), (2, .int p2), (3, .int p3)] → kk () = rs → W p l e rm_X10_follows s m args below meth c H locs 0 0 Q (F0 m 57 ls [])) ?_ (fun k57_4 J57_4 hf => ?_)
        · intro _ H locs ls hw hl hf
          refine lv_iload_n hx hb dX10_follows_57 rfl (lv_at hl 1 rfl) ?_
          refine lv_if_ne (tgt := 70) hx hb dX10_follows_58 (by decide) (fun c_5 => ?_) (fun c_5 => ?_)
          · have hf := ie_e hf c_5
            refine lv_iconst (v := 0) hx hb dX10_follows_70 (by decide) ?_
            subst hf
            subst hQ
            exact q_zret B hr hlk rfl hw rfl rfl dX10_follows_71
          · have hf := it_e hf c_5
            refine lv_iload_n hx hb dX10_follows_61 rfl (lv_at hl 2 rfl) ?_
            refine lv_iload_n hx hb dX10_follows_62 rfl (lv_at hl 0 rfl) ?_
            refine lv_icmp_le (tgt := 70) hx hb dX10_follows_63 (by decide) (fun c_6 => ?_) (fun c_6 => ?_)
            · have hf := it_e hf c_6
              refine lv_iconst (v := 0) hx hb dX10_follows_70 (by decide) ?_
              subst hf
              subst hQ
              exact q_zret B hr hlk rfl hw rfl rfl dX10_follows_71
            · have hf := ie_e hf c_6
              refine lv_iconst (v := 1) hx hb dX10_follows_66 (by decide) ?_
              refine lv_goto (tgt := 71) hx hb dX10_follows_67 (by decide) ?_
              subst hf
              subst hQ
              exact q_zret B hr hlk rfl hw rfl rfl dX10_follows_71
        refine lv_icmp_ne (tgt := 57) hx hb dX10_follows_49 (by decide) (fun c_7 => ?_) (fun c_7 => ?_)
        · have hf := ie_e hf c_7
          exact J57_4 () _ _ _ hw (lv_sub hl [1, 2, 3] rfl) hf
        · have hf := it_e hf c_7
          refine lv_iload_n hx hb dX10_follows_52 rfl (lv_at hl 3 rfl) ?_
          refine lv_iload_n hx hb dX10_follows_53 rfl (lv_at hl 1 rfl) ?_
          refine lv_icmp_ge (tgt := 66) hx hb dX10_follows_54 (by decide) (fun c_8 => ?_) (fun c_8 => ?_)
          · have hf := it_e hf c_8
            refine lv_iconst (v := 1) hx hb dX10_follows_66 (by decide) ?_
            refine lv_goto (tgt := 71) hx hb dX10_follows_67 (by decide) ?_
            subst hf
            subst hQ
            exact q_zret B hr hlk rfl hw rfl rfl dX10_follows_71
          · have hf := ie_e hf c_8
            exact J57_4 () _ _ _ hw (lv_sub hl [1, 2, 3] rfl) hf
    · have hf := it_e hf c_2
      refine lv_iload_n hx hb dX10_follows_17 rfl (lv_at hl 2 rfl) ?_
      refine lv_iconst (v := 1) hx hb dX10_follows_18 (by decide) ?_
      refine jn_e hf (fun kk => ∀ (_ : Unit) (H : Heap) (locs : List Loc) (ls : Array Slot), HW LC X M s H locs → lv_has ls 4 [(1, .int p1), (2, .int p2), (3, .int p3)] → kk () = rs → W p l e rm_X10_follows s m args below meth c H locs 0 0 Q (F0 m 27 ls [])) ?_ (fun k27_9 J27_9 hf => ?_)
      · intro _ H locs ls hw hl hf
        refine lv_iload_n hx hb dX10_follows_27 rfl (lv_at hl 1 rfl) ?_
        refine lv_if_ne (tgt := 40) hx hb dX10_follows_28 (by decide) (fun c_10 => ?_) (fun c_10 => ?_)
        · have hf := ie_e hf c_10
          refine lv_iconst (v := 0) hx hb dX10_follows_40 (by decide) ?_
          subst hf
          subst hQ
          exact q_zret B hr hlk rfl hw rfl rfl dX10_follows_41
        · have hf := it_e hf c_10
          refine lv_iload_n hx hb dX10_follows_31 rfl (lv_at hl 2 rfl) ?_
          refine lv_iload_n hx hb dX10_follows_32 rfl (lv_at hl 0 rfl) ?_
          refine lv_icmp_ge (tgt := 40) hx hb dX10_follows_33 (by decide) (fun c_11 => ?_) (fun c_11 => ?_)
          · have hf := it_e hf c_11
            refine lv_iconst (v := 0) hx hb dX10_follows_40 (by decide) ?_
            subst hf
            subst hQ
            exact q_zret B hr hlk rfl hw rfl rfl dX10_follows_41
          · have hf := ie_e hf c_11
            refine lv_iconst (v := 1) hx hb dX10_follows_36 (by decide) ?_
            refine lv_goto (tgt := 41) hx hb dX10_follows_37 (by decide) ?_
            subst hf
            subst hQ
            exact q_zret B hr hlk rfl hw rfl rfl dX10_follows_41
      refine lv_icmp_ne (tgt := 27) hx hb dX10_follows_19 (by decide) (fun c_12 => ?_) (fun c_12 => ?_)
      · have hf := ie_e hf c_12
        exact J27_9 () _ _ _ hw (lv_sub hl [1, 2, 3] rfl) hf
      · have hf := it_e hf c_12
        refine lv_iload_n hx hb dX10_follows_22 rfl (lv_at hl 3 rfl) ?_
        refine lv_iload_n hx hb dX10_follows_23 rfl (lv_at hl 1 rfl) ?_
        refine lv_icmp_le (tgt := 36) hx hb dX10_follows_24 (by decide) (fun c_13 => ?_) (fun c_13 => ?_)
        · have hf := it_e hf c_13
          refine lv_iconst (v := 1) hx hb dX10_follows_36 (by decide) ?_
          refine lv_goto (tgt := 41) hx hb dX10_follows_37 (by decide) ?_
          subst hf
          subst hQ
          exact q_zret B hr hlk rfl hw rfl rfl dX10_follows_41
        · have hf := ie_e hf c_13
          exact J27_9 () _ _ _ hw (lv_sub hl [1, 2, 3] rfl) hf
  refine lv_icmp_ne (tgt := 12) hx hb dX10_follows_2 (by decide) (fun c_14 => ?_) (fun c_14 => ?_)
  · have hf := ie_e hf c_14
    exact J12_1 () _ _ _ hw (lv_sub hl [0, 1, 2, 3] rfl) hf
  · have hf := it_e hf c_14
    refine lv_iload_n hx hb dX10_follows_5 rfl (lv_at hl 1 rfl) ?_
    refine lv_iload_n hx hb dX10_follows_6 rfl (lv_at hl 3 rfl) ?_
    refine lv_icmp_ne (tgt := 12) hx hb dX10_follows_7 (by decide) (fun c_15 => ?_) (fun c_15 => ?_)
    · have hf := ie_e hf c_15
      exact J12_1 () _ _ _ hw (lv_sub hl [0, 1, 2, 3] rfl) hf
    · have hf := it_e hf c_15
      refine lv_iconst (v := 1) hx hb dX10_follows_10 (by decide) ?_
      subst hf
      subst hQ
      exact q_zret B hr hlk rfl hw rfl rfl dX10_follows_11
theorem isb_f_X10_follows (p0 p1 p2 p3 : Int32) : isb (f_X10_follows p0 p1 p2 p3) = true := by
  unfold f_X10_follows
  try simp only [jn, nm]
  repeat' first | apply isb_ite | exact isb_0 | exact isb_1
abbrev rm_X10_columnsIn : Room := { frames := 0, cells := 0, slots := 0, locals := 0 }
set_option maxRecDepth 100000 in
set_option maxHeartbeats 4000000 in
theorem c_X10_columnsIn (l : Launch) (X : XT) (p0 : Int32)  (rs : Int32) (hf : f_X10_columnsIn p0 = rs) (M : Mem) (sz : Nat) : Met l yX10_columnsIn (wbig yX10_columnsIn cX10_columnsIn 1 (some .int)) rm_X10_columnsIn (va_Pc [.int p0] (PW LC X M sz)) (QI LC X M rs sz) 0 0 (AX LC X sz) := by
  refine met_go (L := LC) (M := M) (by decide +kernel) (Nat.le_of_ble_eq_true rfl) ?_
  intro p e s m args below meth c hsz B hr hlk hw ls hl
  subst hsz
  have hx := B.hx
  have hb := B.hb
  have hl : lv_has ls 1 [(0, .int p0)] := hl
  generalize hQ : MQ below _ args s 0 0 (AX LC X s.heap.size) = Q
  unfold f_X10_columnsIn at hf
  refine lv_iload_n hx hb dX10_columnsIn_0 rfl (lv_at hl 0 rfl) ?_
  refine lv_iconst (v := 1) hx hb dX10_columnsIn_1 (by decide) ?_
  refine lv_icmp_ne (tgt := 9) hx hb dX10_columnsIn_2 (by decide) (fun c_1 => ?_) (fun c_1 => ?_)
  · have hf := ie_e hf c_1
    refine lv_iconst (v := 4) hx hb dX10_columnsIn_9 (by decide) ?_
    subst hf
    subst hQ
    exact q_iret B hr hlk hw rfl rfl dX10_columnsIn_10
  · have hf := it_e hf c_1
    refine lv_iconst (v := 2) hx hb dX10_columnsIn_5 (by decide) ?_
    refine lv_goto (tgt := 10) hx hb dX10_columnsIn_6 (by decide) ?_
    subst hf
    subst hQ
    exact q_iret B hr hlk hw rfl rfl dX10_columnsIn_10
abbrev rm_X10_isKeyColumn : Room := { frames := 0, cells := 0, slots := 0, locals := 0 }
set_option maxRecDepth 100000 in
set_option maxHeartbeats 4000000 in
theorem c_X10_isKeyColumn (l : Launch) (X : XT) (p0 : Int32) (p1 : Int32)  (rs : Int32) (hf : f_X10_isKeyColumn p0 p1 = rs) (M : Mem) (sz : Nat) : Met l yX10_isKeyColumn (wbig yX10_isKeyColumn cX10_isKeyColumn 2 (some .boolean)) rm_X10_isKeyColumn (va_Pc [.int p0, .int p1] (PW LC X M sz)) (QI LC X M rs sz) 0 0 (AX LC X sz) := by
  refine met_go (L := LC) (M := M) (by decide +kernel) (Nat.le_of_ble_eq_true rfl) ?_
  intro p e s m args below meth c hsz B hr hlk hw ls hl
  subst hsz
  have hx := B.hx
  have hb := B.hb
  have hl : lv_has ls 2 [(0, .int p0), (1, .int p1)] := hl
  generalize hQ : MQ below _ args s 0 0 (AX LC X s.heap.size) = Q
  unfold f_X10_isKeyColumn at hf
  refine lv_iload_n hx hb dX10_isKeyColumn_0 rfl (lv_at hl 1 rfl) ?_
  refine lv_if_ne (tgt := 12) hx hb dX10_isKeyColumn_1 (by decide) (fun c_1 => ?_) (fun c_1 => ?_)
  · have hf := ie_e hf c_1
    refine lv_iconst (v := 0) hx hb dX10_isKeyColumn_12 (by decide) ?_
    subst hf
    subst hQ
    exact q_zret B hr hlk rfl hw rfl rfl dX10_isKeyColumn_13
  · have hf := it_e hf c_1
    refine lv_iload_n hx hb dX10_isKeyColumn_4 rfl (lv_at hl 0 rfl) ?_
    refine lv_if_eq (tgt := 12) hx hb dX10_isKeyColumn_5 (by decide) (fun c_2 => ?_) (fun c_2 => ?_)
    · have hf := it_e hf c_2
      refine lv_iconst (v := 0) hx hb dX10_isKeyColumn_12 (by decide) ?_
      subst hf
      subst hQ
      exact q_zret B hr hlk rfl hw rfl rfl dX10_isKeyColumn_13
    · have hf := ie_e hf c_2
      refine lv_iconst (v := 1) hx hb dX10_isKeyColumn_8 (by decide) ?_
      refine lv_goto (tgt := 13) hx hb dX10_isKeyColumn_9 (by decide) ?_
      subst hf
      subst hQ
      exact q_zret B hr hlk rfl hw rfl rfl dX10_isKeyColumn_13
theorem isb_f_X10_isKeyColumn (p0 p1 : Int32) : isb (f_X10_isKeyColumn p0 p1) = true := by
  unfold f_X10_isKeyColumn
  try simp only [jn, nm]
  repeat' first | apply isb_ite | exact isb_0 | exact isb_1
abbrev rm_X10_isIn : Room := { frames := 0, cells := 0, slots := 0, locals := 0 }
set_option maxRecDepth 100000 in
set_option maxHeartbeats 4000000 in
theorem c_X10_isIn (l : Launch) (X : XT) (p0 : Int32) (p1 : Int32) (p2 : Int32)  (rs : Int32) (hf : f_X10_isIn p0 p1 p2 = rs) (M : Mem) (sz : Nat) : Met l yX10_isIn (wbig yX10_isIn cX10_isIn 3 (some .boolean)) rm_X10_isIn (va_Pc [.int p0, .int p1, .int p2] (PW LC X M sz)) (QI LC X M rs sz) 0 0 (AX LC X sz) := by
  refine met_go (L := LC) (M := M) (by decide +kernel) (Nat.le_of_ble_eq_true rfl) ?_
  intro p e s m args below meth c hsz B hr hlk hw ls hl
  subst hsz
  have hx := B.hx
  have hb := B.hb
  have hl : lv_has ls 3 [(0, .int p0), (1, .int p1), (2, .int p2)] := hl
  generalize hQ : MQ below _ args s 0 0 (AX LC X s.heap.size) = Q
  unfold f_X10_isIn at hf
  refine lv_iload_n hx hb dX10_isIn_0 rfl (lv_at hl 0 rfl) ?_
  refine lv_iload_n hx hb dX10_isIn_1 rfl (lv_at hl 1 rfl) ?_
  refine lv_icmp_lt (tgt := 14) hx hb dX10_isIn_2 (by decide) (fun c_1 => ?_) (fun c_1 => ?_)
  · have hf := it_e hf c_1
    refine lv_iconst (v := 0) hx hb dX10_isIn_14 (by decide) ?_
    subst hf
    subst hQ
    exact q_zret B hr hlk rfl hw rfl rfl dX10_isIn_15
  · have hf := ie_e hf c_1
    refine lv_iload_n hx hb dX10_isIn_5 rfl (lv_at hl 0 rfl) ?_
    refine lv_iload_n hx hb dX10_isIn_6 rfl (lv_at hl 2 rfl) ?_
    refine lv_icmp_gt (tgt := 14) hx hb dX10_isIn_7 (by decide) (fun c_2 => ?_) (fun c_2 => ?_)
    · have hf := it_e hf c_2
      refine lv_iconst (v := 0) hx hb dX10_isIn_14 (by decide) ?_
      subst hf
      subst hQ
      exact q_zret B hr hlk rfl hw rfl rfl dX10_isIn_15
    · have hf := ie_e hf c_2
      refine lv_iconst (v := 1) hx hb dX10_isIn_10 (by decide) ?_
      refine lv_goto (tgt := 15) hx hb dX10_isIn_11 (by decide) ?_
      subst hf
      subst hQ
      exact q_zret B hr hlk rfl hw rfl rfl dX10_isIn_15
theorem isb_f_X10_isIn (p0 p1 p2 : Int32) : isb (f_X10_isIn p0 p1 p2) = true := by
  unfold f_X10_isIn
  try simp only [jn, nm]
  repeat' first | apply isb_ite | exact isb_0 | exact isb_1
abbrev rm_X10_cellFits : Room := { frames := 1, cells := 0, slots := 0, locals := 22 }
set_option maxRecDepth 100000 in
set_option maxHeartbeats 4000000 in
theorem c_X10_cellFits (l : Launch) (X : XT) (p0 : Int32) (p1 : Int32) (p2 : Int32)  (rs : Int32) (hf : f_X10_cellFits p0 p1 p2 = rs) (M : Mem) (sz : Nat) : Met l yX10_cellFits (wbig yX10_cellFits cX10_cellFits 3 (some .boolean)) rm_X10_cellFits (va_Pc [.int p0, .int p1, .int p2] (PW LC X M sz)) (QI LC X M rs sz) 0 0 (AX LC X sz) := by
  refine met_go (L := LC) (M := M) (by decide +kernel) (Nat.le_of_ble_eq_true rfl) ?_
  intro p e s m args below meth c hsz B hr hlk hw ls hl
  subst hsz
  have hx := B.hx
  have hb := B.hb
  have hl : lv_has ls 3 [(0, .int p0), (1, .int p1), (2, .int p2)] := hl
  generalize hQ : MQ below _ args s 0 0 (AX LC X s.heap.size) = Q
  unfold f_X10_cellFits at hf
  refine lv_iload_n hx hb dX10_cellFits_0 rfl (lv_at hl 1 rfl) ?_
  refine lv_iload_n hx hb dX10_cellFits_1 rfl (lv_at hl 0 rfl) ?_
  refine q_callSi (M' := M) (As := [.int p0]) (rest := [.int p1]) B hw (c_X10_columnsIn l X p0 _ rfl M _) cs_X10_318 rfl hl.1 rfl rfl ⟨Nat.le_of_ble_eq_true rfl, Nat.le_of_ble_eq_true rfl⟩ (Nat.le_of_ble_eq_true rfl) ⟨Nat.le_of_ble_eq_true rfl, Nat.le_of_ble_eq_true rfl⟩ dX10_cellFits_2 rfl (fun H locs hw => ?_)
  refine lv_icmp_lt (tgt := 18) hx hb dX10_cellFits_5 (by decide) (fun c_1 => ?_) (fun c_1 => ?_)
  · have hf := it_e hf c_1
    refine lv_iload_n hx hb dX10_cellFits_18 rfl (lv_at hl 0 rfl) ?_
    refine lv_iload_n hx hb dX10_cellFits_19 rfl (lv_at hl 1 rfl) ?_
    refine q_callSi (M' := M) (As := [.int p0, .int p1]) (rest := []) B hw (c_X10_isKeyColumn l X p0 p1 _ rfl M _) cs_X10_321 rfl hl.1 rfl rfl ⟨Nat.le_of_ble_eq_true rfl, Nat.le_of_ble_eq_true rfl⟩ (Nat.le_of_ble_eq_true rfl) ⟨Nat.le_of_ble_eq_true rfl, Nat.le_of_ble_eq_true rfl⟩ dX10_cellFits_20 rfl (fun H locs hw => ?_)
    refine lv_if_eq (tgt := 34) hx hb dX10_cellFits_23 (by decide) (fun c_2 => ?_) (fun c_2 => ?_)
    · have hf := it_e hf c_2
      refine lv_iload_n hx hb dX10_cellFits_34 rfl (lv_at hl 2 rfl) ?_
      refine lv_sipush (v := 5001) hx hb dX10_cellFits_35 (by decide) ?_
      refine lv_icmp_ne (tgt := 52) hx hb dX10_cellFits_38 (by decide) (fun c_3 => ?_) (fun c_3 => ?_)
      · have hf := ie_e hf c_3
        refine lv_iload_n hx hb dX10_cellFits_52 rfl (lv_at hl 2 rfl) ?_
        refine lv_sipush (v := 5000) hx hb dX10_cellFits_53 (by decide) ?_
        refine lv_icmp_eq (tgt := 72) hx hb dX10_cellFits_56 (by decide) (fun c_4 => ?_) (fun c_4 => ?_)
        · have hf := it_e hf c_4
          refine lv_iconst (v := 1) hx hb dX10_cellFits_72 (by decide) ?_
          refine lv_goto (tgt := 77) hx hb dX10_cellFits_73 (by decide) ?_
          subst hf
          subst hQ
          exact q_zret B hr hlk rfl hw rfl rfl dX10_cellFits_77
        · have hf := ie_e hf c_4
          refine lv_iload_n hx hb dX10_cellFits_59 rfl (lv_at hl 2 rfl) ?_
          refine lv_sipush (v := (-999)) hx hb dX10_cellFits_60 (by decide) ?_
          refine lv_sipush (v := 999) hx hb dX10_cellFits_63 (by decide) ?_
          refine q_callSi (M' := M) (As := [.int p2, .int (-999), .int 999]) (rest := []) B hw (c_X10_isIn l X p2 (-999) 999 _ rfl M _) cs_X10_148 rfl hl.1 rfl rfl ⟨Nat.le_of_ble_eq_true rfl, Nat.le_of_ble_eq_true rfl⟩ (Nat.le_of_ble_eq_true rfl) ⟨Nat.le_of_ble_eq_true rfl, Nat.le_of_ble_eq_true rfl⟩ dX10_cellFits_66 rfl (fun H locs hw => ?_)
          refine lv_if_eq (tgt := 76) hx hb dX10_cellFits_69 (by decide) (fun c_5 => ?_) (fun c_5 => ?_)
          · have hf := it_e hf c_5
            refine lv_iconst (v := 0) hx hb dX10_cellFits_76 (by decide) ?_
            subst hf
            subst hQ
            exact q_zret B hr hlk rfl hw rfl rfl dX10_cellFits_77
          · have hf := ie_e hf c_5
            refine lv_iconst (v := 1) hx hb dX10_cellFits_72 (by decide) ?_
            refine lv_goto (tgt := 77) hx hb dX10_cellFits_73 (by decide) ?_
            subst hf
            subst hQ
            exact q_zret B hr hlk rfl hw rfl rfl dX10_cellFits_77
      · have hf := it_e hf c_3
        refine lv_iload_n hx hb dX10_cellFits_41 rfl (lv_at hl 0 rfl) ?_
        refine lv_iconst (v := 2) hx hb dX10_cellFits_42 (by decide) ?_
        refine lv_icmp_ne (tgt := 50) hx hb dX10_cellFits_43 (by decide) (fun c_6 => ?_) (fun c_6 => ?_)
        · have hf := ie_e hf c_6
          refine lv_iconst (v := 0) hx hb dX10_cellFits_50 (by decide) ?_
          subst hf
          subst hQ
          exact q_zret B hr hlk rfl hw rfl rfl dX10_cellFits_51
        · have hf := it_e hf c_6
          refine lv_iconst (v := 1) hx hb dX10_cellFits_46 (by decide) ?_
          refine lv_goto (tgt := 51) hx hb dX10_cellFits_47 (by decide) ?_
          subst hf
          subst hQ
          exact q_zret B hr hlk rfl hw rfl rfl dX10_cellFits_51
    · have hf := ie_e hf c_2
      refine lv_iload_n hx hb dX10_cellFits_26 rfl (lv_at hl 2 rfl) ?_
      refine lv_iconst (v := 0) hx hb dX10_cellFits_27 (by decide) ?_
      refine lv_bipush (v := 99) hx hb dX10_cellFits_28 (by decide) ?_
      refine q_callSi (M' := M) (As := [.int p2, .int 0, .int 99]) (rest := []) B hw (c_X10_isIn l X p2 0 99 _ rfl M _) cs_X10_148 rfl hl.1 rfl rfl ⟨Nat.le_of_ble_eq_true rfl, Nat.le_of_ble_eq_true rfl⟩ (Nat.le_of_ble_eq_true rfl) ⟨Nat.le_of_ble_eq_true rfl, Nat.le_of_ble_eq_true rfl⟩ dX10_cellFits_30 rfl (fun H locs hw => ?_)
      subst hf
      subst hQ
      exact q_zret B hr hlk (isb_f_X10_isIn _ _ _) hw rfl rfl dX10_cellFits_33
  · have hf := ie_e hf c_1
    refine lv_iload_n hx hb dX10_cellFits_8 rfl (lv_at hl 2 rfl) ?_
    refine lv_if_ne (tgt := 16) hx hb dX10_cellFits_9 (by decide) (fun c_7 => ?_) (fun c_7 => ?_)
    · have hf := ie_e hf c_7
      refine lv_iconst (v := 0) hx hb dX10_cellFits_16 (by decide) ?_
      subst hf
      subst hQ
      exact q_zret B hr hlk rfl hw rfl rfl dX10_cellFits_17
    · have hf := it_e hf c_7
      refine lv_iconst (v := 1) hx hb dX10_cellFits_12 (by decide) ?_
      refine lv_goto (tgt := 17) hx hb dX10_cellFits_13 (by decide) ?_
      subst hf
      subst hQ
      exact q_zret B hr hlk rfl hw rfl rfl dX10_cellFits_17
theorem isb_f_X10_cellFits (p0 p1 p2 : Int32) : isb (f_X10_cellFits p0 p1 p2) = true := by
  unfold f_X10_cellFits
  try simp only [jn, nm]
  repeat' first | apply isb_ite | exact isb_0 | exact isb_1 | apply isb_f_X10_isKeyColumn | apply isb_f_X10_isIn | apply isb_f_X10_isIn
abbrev rm_X10_rowFits : Room := { frames := 2, cells := 0, slots := 0, locals := 44 }
set_option maxRecDepth 100000 in
set_option maxHeartbeats 4000000 in
theorem c_X10_rowFits (l : Launch) (X : XT) (p0 : Int32) (p1 : Int32) (p2 : Int32) (p3 : Int32) (p4 : Int32)  (rs : Int32) (hf : f_X10_rowFits p0 p1 p2 p3 p4 = rs) (M : Mem) (sz : Nat) : Met l yX10_rowFits (wbig yX10_rowFits cX10_rowFits 5 (some .boolean)) rm_X10_rowFits (va_Pc [.int p0, .int p1, .int p2, .int p3, .int p4] (PW LC X M sz)) (QI LC X M rs sz) 0 0 (AX LC X sz) := by
  refine met_go (L := LC) (M := M) (by decide +kernel) (Nat.le_of_ble_eq_true rfl) ?_
  intro p e s m args below meth c hsz B hr hlk hw ls hl
  subst hsz
  have hx := B.hx
  have hb := B.hb
  have hl : lv_has ls 5 [(0, .int p0), (1, .int p1), (2, .int p2), (3, .int p3), (4, .int p4)] := hl
  generalize hQ : MQ below _ args s 0 0 (AX LC X s.heap.size) = Q
  unfold f_X10_rowFits at hf
  refine lv_iload_n hx hb dX10_rowFits_0 rfl (lv_at hl 0 rfl) ?_
  refine lv_iconst (v := 0) hx hb dX10_rowFits_1 (by decide) ?_
  refine lv_iload_n hx hb dX10_rowFits_2 rfl (lv_at hl 1 rfl) ?_
  refine q_callSi (M' := M) (As := [.int p0, .int 0, .int p1]) (rest := []) B hw (c_X10_cellFits l X p0 0 p1 _ rfl M _) cs_X10_324 rfl hl.1 rfl rfl ⟨Nat.le_of_ble_eq_true rfl, Nat.le_of_ble_eq_true rfl⟩ (Nat.le_of_ble_eq_true rfl) ⟨Nat.le_of_ble_eq_true rfl, Nat.le_of_ble_eq_true rfl⟩ dX10_rowFits_3 rfl (fun H locs hw => ?_)
  refine lv_if_eq (tgt := 41) hx hb dX10_rowFits_6 (by decide) (fun c_1 => ?_) (fun c_1 => ?_)
  · have hf := it_e hf c_1
    refine lv_iconst (v := 0) hx hb dX10_rowFits_41 (by decide) ?_
    subst hf
    subst hQ
    exact q_zret B hr hlk rfl hw rfl rfl dX10_rowFits_42
  · have hf := ie_e hf c_1
    refine lv_iload_n hx hb dX10_rowFits_9 rfl (lv_at hl 0 rfl) ?_
    refine lv_iconst (v := 1) hx hb dX10_rowFits_10 (by decide) ?_
    refine lv_iload_n hx hb dX10_rowFits_11 rfl (lv_at hl 2 rfl) ?_
    refine q_callSi (M' := M) (As := [.int p0, .int 1, .int p2]) (rest := []) B hw (c_X10_cellFits l X p0 1 p2 _ rfl M _) cs_X10_324 rfl hl.1 rfl rfl ⟨Nat.le_of_ble_eq_true rfl, Nat.le_of_ble_eq_true rfl⟩ (Nat.le_of_ble_eq_true rfl) ⟨Nat.le_of_ble_eq_true rfl, Nat.le_of_ble_eq_true rfl⟩ dX10_rowFits_12 rfl (fun H locs hw => ?_)
    refine lv_if_eq (tgt := 41) hx hb dX10_rowFits_15 (by decide) (fun c_2 => ?_) (fun c_2 => ?_)
    · have hf := it_e hf c_2
      refine lv_iconst (v := 0) hx hb dX10_rowFits_41 (by decide) ?_
      subst hf
      subst hQ
      exact q_zret B hr hlk rfl hw rfl rfl dX10_rowFits_42
    · have hf := ie_e hf c_2
      refine lv_iload_n hx hb dX10_rowFits_18 rfl (lv_at hl 0 rfl) ?_
      refine lv_iconst (v := 2) hx hb dX10_rowFits_19 (by decide) ?_
      refine lv_iload_n hx hb dX10_rowFits_20 rfl (lv_at hl 3 rfl) ?_
      refine q_callSi (M' := M) (As := [.int p0, .int 2, .int p3]) (rest := []) B hw (c_X10_cellFits l X p0 2 p3 _ rfl M _) cs_X10_324 rfl hl.1 rfl rfl ⟨Nat.le_of_ble_eq_true rfl, Nat.le_of_ble_eq_true rfl⟩ (Nat.le_of_ble_eq_true rfl) ⟨Nat.le_of_ble_eq_true rfl, Nat.le_of_ble_eq_true rfl⟩ dX10_rowFits_21 rfl (fun H locs hw => ?_)
      refine lv_if_eq (tgt := 41) hx hb dX10_rowFits_24 (by decide) (fun c_3 => ?_) (fun c_3 => ?_)
      · have hf := it_e hf c_3
        refine lv_iconst (v := 0) hx hb dX10_rowFits_41 (by decide) ?_
        subst hf
        subst hQ
        exact q_zret B hr hlk rfl hw rfl rfl dX10_rowFits_42
      · have hf := ie_e hf c_3
        refine lv_iload_n hx hb dX10_rowFits_27 rfl (lv_at hl 0 rfl) ?_
        refine lv_iconst (v := 3) hx hb dX10_rowFits_28 (by decide) ?_
        refine lv_iload hx hb dX10_rowFits_29 (lv_at hl 4 rfl) ?_
        refine q_callSi (M' := M) (As := [.int p0, .int 3, .int p4]) (rest := []) B hw (c_X10_cellFits l X p0 3 p4 _ rfl M _) cs_X10_324 rfl hl.1 rfl rfl ⟨Nat.le_of_ble_eq_true rfl, Nat.le_of_ble_eq_true rfl⟩ (Nat.le_of_ble_eq_true rfl) ⟨Nat.le_of_ble_eq_true rfl, Nat.le_of_ble_eq_true rfl⟩ dX10_rowFits_31 rfl (fun H locs hw => ?_)
        refine lv_if_eq (tgt := 41) hx hb dX10_rowFits_34 (by decide) (fun c_4 => ?_) (fun c_4 => ?_)
        · have hf := it_e hf c_4
          refine lv_iconst (v := 0) hx hb dX10_rowFits_41 (by decide) ?_
          subst hf
          subst hQ
          exact q_zret B hr hlk rfl hw rfl rfl dX10_rowFits_42
        · have hf := ie_e hf c_4
          refine lv_iconst (v := 1) hx hb dX10_rowFits_37 (by decide) ?_
          refine lv_goto (tgt := 42) hx hb dX10_rowFits_38 (by decide) ?_
          subst hf
          subst hQ
          exact q_zret B hr hlk rfl hw rfl rfl dX10_rowFits_42
theorem isb_f_X10_rowFits (p0 p1 p2 p3 p4 : Int32) : isb (f_X10_rowFits p0 p1 p2 p3 p4) = true := by
  unfold f_X10_rowFits
  try simp only [jn, nm]
  repeat' first | apply isb_ite | exact isb_0 | exact isb_1 | apply isb_f_X10_cellFits | apply isb_f_X10_cellFits | apply isb_f_X10_cellFits | apply isb_f_X10_cellFits
abbrev rm_X10_mayChangeTo : Room := { frames := 2, cells := 0, slots := 0, locals := 44 }
set_option maxRecDepth 100000 in
set_option maxHeartbeats 4000000 in
theorem c_X10_mayChangeTo (l : Launch) (X : XT) (p0 : Int32) (p1 : Int32) (p2 : Int32)  (rs : Int32) (hf : f_X10_mayChangeTo p0 p1 p2 = rs) (M : Mem) (sz : Nat) : Met l yX10_mayChangeTo (wbig yX10_mayChangeTo cX10_mayChangeTo 3 (some .boolean)) rm_X10_mayChangeTo (va_Pc [.int p0, .int p1, .int p2] (PW LC X M sz)) (QI LC X M rs sz) 0 0 (AX LC X sz) := by
  refine met_go (L := LC) (M := M) (by decide +kernel) (Nat.le_of_ble_eq_true rfl) ?_
  intro p e s m args below meth c hsz B hr hlk hw ls hl
  subst hsz
  have hx := B.hx
  have hb := B.hb
  have hl : lv_has ls 3 [(0, .int p0), (1, .int p1), (2, .int p2)] := hl
  generalize hQ : MQ below _ args s 0 0 (AX LC X s.heap.size) = Q
  unfold f_X10_mayChangeTo at hf
  refine lv_iload_n hx hb dX10_mayChangeTo_0 rfl (lv_at hl 0 rfl) ?_
  refine lv_iload_n hx hb dX10_mayChangeTo_1 rfl (lv_at hl 1 rfl) ?_
  refine q_callSi (M' := M) (As := [.int p0, .int p1]) (rest := []) B hw (c_X10_isKeyColumn l X p0 p1 _ rfl M _) cs_X10_321 rfl hl.1 rfl rfl ⟨Nat.le_of_ble_eq_true rfl, Nat.le_of_ble_eq_true rfl⟩ (Nat.le_of_ble_eq_true rfl) ⟨Nat.le_of_ble_eq_true rfl, Nat.le_of_ble_eq_true rfl⟩ dX10_mayChangeTo_2 rfl (fun H locs hw => ?_)
  refine lv_if_ne (tgt := 21) hx hb dX10_mayChangeTo_5 (by decide) (fun c_1 => ?_) (fun c_1 => ?_)
  · have hf := ie_e hf c_1
    refine lv_iconst (v := 0) hx hb dX10_mayChangeTo_21 (by decide) ?_
    subst hf
    subst hQ
    exact q_zret B hr hlk rfl hw rfl rfl dX10_mayChangeTo_22
  · have hf := it_e hf c_1
    refine lv_iload_n hx hb dX10_mayChangeTo_8 rfl (lv_at hl 0 rfl) ?_
    refine lv_iload_n hx hb dX10_mayChangeTo_9 rfl (lv_at hl 1 rfl) ?_
    refine lv_iload_n hx hb dX10_mayChangeTo_10 rfl (lv_at hl 2 rfl) ?_
    refine q_callSi (M' := M) (As := [.int p0, .int p1, .int p2]) (rest := []) B hw (c_X10_cellFits l X p0 p1 p2 _ rfl M _) cs_X10_324 rfl hl.1 rfl rfl ⟨Nat.le_of_ble_eq_true rfl, Nat.le_of_ble_eq_true rfl⟩ (Nat.le_of_ble_eq_true rfl) ⟨Nat.le_of_ble_eq_true rfl, Nat.le_of_ble_eq_true rfl⟩ dX10_mayChangeTo_11 rfl (fun H locs hw => ?_)
    refine lv_if_eq (tgt := 21) hx hb dX10_mayChangeTo_14 (by decide) (fun c_2 => ?_) (fun c_2 => ?_)
    · have hf := it_e hf c_2
      refine lv_iconst (v := 0) hx hb dX10_mayChangeTo_21 (by decide) ?_
      subst hf
      subst hQ
      exact q_zret B hr hlk rfl hw rfl rfl dX10_mayChangeTo_22
    · have hf := ie_e hf c_2
      refine lv_iconst (v := 1) hx hb dX10_mayChangeTo_17 (by decide) ?_
      refine lv_goto (tgt := 22) hx hb dX10_mayChangeTo_18 (by decide) ?_
      subst hf
      subst hQ
      exact q_zret B hr hlk rfl hw rfl rfl dX10_mayChangeTo_22
theorem isb_f_X10_mayChangeTo (p0 p1 p2 : Int32) : isb (f_X10_mayChangeTo p0 p1 p2) = true := by
  unfold f_X10_mayChangeTo
  try simp only [jn, nm]
  repeat' first | apply isb_ite | exact isb_0 | exact isb_1 | apply isb_f_X10_isKeyColumn | apply isb_f_X10_cellFits
abbrev rm_X10_isCondition : Room := { frames := 1, cells := 0, slots := 0, locals := 22 }
set_option maxRecDepth 100000 in
set_option maxHeartbeats 4000000 in
theorem c_X10_isCondition (l : Launch) (X : XT) (p0 : Int32) (p1 : Int32)  (rs : Int32) (hf : f_X10_isCondition p0 p1 = rs) (M : Mem) (sz : Nat) : Met l yX10_isCondition (wbig yX10_isCondition cX10_isCondition 2 (some .boolean)) rm_X10_isCondition (va_Pc [.int p0, .int p1] (PW LC X M sz)) (QI LC X M rs sz) 0 0 (AX LC X sz) := by
  refine met_go (L := LC) (M := M) (by decide +kernel) (Nat.le_of_ble_eq_true rfl) ?_
  intro p e s m args below meth c hsz B hr hlk hw ls hl
  subst hsz
  have hx := B.hx
  have hb := B.hb
  have hl : lv_has ls 2 [(0, .int p0), (1, .int p1)] := hl
  generalize hQ : MQ below _ args s 0 0 (AX LC X s.heap.size) = Q
  unfold f_X10_isCondition at hf
  refine lv_iload_n hx hb dX10_isCondition_0 rfl (lv_at hl 0 rfl) ?_
  refine lv_iconst (v := 3) hx hb dX10_isCondition_1 (by decide) ?_
  refine jn_e hf (fun kk => ∀ (_ : Unit) (H : Heap) (locs : List Loc) (ls : Array Slot), HW LC X M s H locs → lv_has ls 2 [(1, .int p1)] → kk () = rs → W p l e rm_X10_isCondition s m args below meth c H locs 0 0 Q (F0 m 10 ls [])) ?_ (fun k10_1 J10_1 hf => ?_)
  · intro _ H locs ls hw hl hf
    refine lv_iload_n hx hb dX10_isCondition_10 rfl (lv_at hl 0 rfl) ?_
    refine lv_if_ne (tgt := 18) hx hb dX10_isCondition_11 (by decide) (fun c_2 => ?_) (fun c_2 => ?_)
    · have hf := ie_e hf c_2
      refine lv_iconst (v := 0) hx hb dX10_isCondition_18 (by decide) ?_
      subst hf
      subst hQ
      exact q_zret B hr hlk rfl hw rfl rfl dX10_isCondition_19
    · have hf := it_e hf c_2
      refine lv_iconst (v := 1) hx hb dX10_isCondition_14 (by decide) ?_
      refine lv_goto (tgt := 19) hx hb dX10_isCondition_15 (by decide) ?_
      subst hf
      subst hQ
      exact q_zret B hr hlk rfl hw rfl rfl dX10_isCondition_19
  refine lv_icmp_eq (tgt := 10) hx hb dX10_isCondition_2 (by decide) (fun c_3 => ?_) (fun c_3 => ?_)
  · have hf := it_e hf c_3
    exact J10_1 () _ _ _ hw (lv_sub hl [1] rfl) hf
  · have hf := ie_e hf c_3
    refine lv_iload_n hx hb dX10_isCondition_5 rfl (lv_at hl 0 rfl) ?_
    refine lv_iconst (v := 4) hx hb dX10_isCondition_6 (by decide) ?_
    refine lv_icmp_ne (tgt := 20) hx hb dX10_isCondition_7 (by decide) (fun c_4 => ?_) (fun c_4 => ?_)
    · have hf := ie_e hf c_4
      refine lv_iload_n hx hb dX10_isCondition_20 rfl (lv_at hl 0 rfl) ?_
      refine lv_iconst (v := 0) hx hb dX10_isCondition_21 (by decide) ?_
      refine lv_iconst (v := 2) hx hb dX10_isCondition_22 (by decide) ?_
      refine q_callSi (M' := M) (As := [.int p0, .int 0, .int 2]) (rest := []) B hw (c_X10_isIn l X p0 0 2 _ rfl M _) cs_X10_148 rfl hl.1 rfl rfl ⟨Nat.le_of_ble_eq_true rfl, Nat.le_of_ble_eq_true rfl⟩ (Nat.le_of_ble_eq_true rfl) ⟨Nat.le_of_ble_eq_true rfl, Nat.le_of_ble_eq_true rfl⟩ dX10_isCondition_23 rfl (fun H locs hw => ?_)
      refine lv_if_eq (tgt := 46) hx hb dX10_isCondition_26 (by decide) (fun c_5 => ?_) (fun c_5 => ?_)
      · have hf := it_e hf c_5
        refine lv_iconst (v := 0) hx hb dX10_isCondition_46 (by decide) ?_
        subst hf
        subst hQ
        exact q_zret B hr hlk rfl hw rfl rfl dX10_isCondition_47
      · have hf := ie_e hf c_5
        refine lv_iload_n hx hb dX10_isCondition_29 rfl (lv_at hl 1 rfl) ?_
        refine lv_sipush (v := (-999)) hx hb dX10_isCondition_30 (by decide) ?_
        refine lv_sipush (v := 999) hx hb dX10_isCondition_33 (by decide) ?_
        refine q_callSi (M' := M) (As := [.int p1, .int (-999), .int 999]) (rest := []) B hw (c_X10_isIn l X p1 (-999) 999 _ rfl M _) cs_X10_148 rfl hl.1 rfl rfl ⟨Nat.le_of_ble_eq_true rfl, Nat.le_of_ble_eq_true rfl⟩ (Nat.le_of_ble_eq_true rfl) ⟨Nat.le_of_ble_eq_true rfl, Nat.le_of_ble_eq_true rfl⟩ dX10_isCondition_36 rfl (fun H locs hw => ?_)
        refine lv_if_eq (tgt := 46) hx hb dX10_isCondition_39 (by decide) (fun c_6 => ?_) (fun c_6 => ?_)
        · have hf := it_e hf c_6
          refine lv_iconst (v := 0) hx hb dX10_isCondition_46 (by decide) ?_
          subst hf
          subst hQ
          exact q_zret B hr hlk rfl hw rfl rfl dX10_isCondition_47
        · have hf := ie_e hf c_6
          refine lv_iconst (v := 1) hx hb dX10_isCondition_42 (by decide) ?_
          refine lv_goto (tgt := 47) hx hb dX10_isCondition_43 (by decide) ?_
          subst hf
          subst hQ
          exact q_zret B hr hlk rfl hw rfl rfl dX10_isCondition_47
    · have hf := it_e hf c_4
      exact J10_1 () _ _ _ hw (lv_sub hl [1] rfl) hf
theorem isb_f_X10_isCondition (p0 p1 : Int32) : isb (f_X10_isCondition p0 p1) = true := by
  unfold f_X10_isCondition
  try simp only [jn, nm]
  repeat' first | apply isb_ite | exact isb_0 | exact isb_1 | apply isb_f_X10_isIn | apply isb_f_X10_isIn
abbrev rm_X10_isStep : Room := { frames := 0, cells := 0, slots := 0, locals := 0 }
set_option maxRecDepth 100000 in
set_option maxHeartbeats 4000000 in
theorem c_X10_isStep (l : Launch) (X : XT) (p0 : Int32) (p1 : Int32) (p2 : Int32) (p3 : Int32)  (rs : Int32) (hf : f_X10_isStep p0 p1 p2 p3 = rs) (M : Mem) (sz : Nat) : Met l yX10_isStep (wbig yX10_isStep cX10_isStep 4 (some .boolean)) rm_X10_isStep (va_Pc [.int p0, .int p1, .int p2, .int p3] (PW LC X M sz)) (QI LC X M rs sz) 0 0 (AX LC X sz) := by
  refine met_go (L := LC) (M := M) (by decide +kernel) (Nat.le_of_ble_eq_true rfl) ?_
  intro p e s m args below meth c hsz B hr hlk hw ls hl
  subst hsz
  have hx := B.hx
  have hb := B.hb
  have hl : lv_has ls 4 [(0, .int p0), (1, .int p1), (2, .int p2), (3, .int p3)] := hl
  generalize hQ : MQ below _ args s 0 0 (AX LC X s.heap.size) = Q
  unfold f_X10_isStep at hf
  refine lv_iload_n hx hb dX10_isStep_0 rfl (lv_at hl 0 rfl) ?_
  by_cases c_1 : p0 = 0
  · have hf := it_e hf c_1
    refine lv_tableIn (tgt := 28) hx hb dX10_isStep_1 (by rw [c_1]; decide) (by rw [c_1]; decide) (by rw [c_1]; rfl) (by decide) ?_
    refine lv_iconst (v := 1) hx hb dX10_isStep_28 (by decide) ?_
    subst hf
    subst hQ
    exact q_zret B hr hlk rfl hw rfl rfl dX10_isStep_29
  · have hf := ie_e hf c_1
    by_cases c_2 : p0 = 1
    · have hf := it_e hf c_2
      refine lv_tableIn (tgt := 30) hx hb dX10_isStep_1 (by rw [c_2]; decide) (by rw [c_2]; decide) (by rw [c_2]; rfl) (by decide) ?_
      refine lv_iload_n hx hb dX10_isStep_30 rfl (lv_at hl 3 rfl) ?_
      refine lv_if_ne (tgt := 38) hx hb dX10_isStep_31 (by decide) (fun c_3 => ?_) (fun c_3 => ?_)
      · have hf := ie_e hf c_3
        refine lv_iconst (v := 0) hx hb dX10_isStep_38 (by decide) ?_
        subst hf
        subst hQ
        exact q_zret B hr hlk rfl hw rfl rfl dX10_isStep_39
      · have hf := it_e hf c_3
        refine lv_iconst (v := 1) hx hb dX10_isStep_34 (by decide) ?_
        refine lv_goto (tgt := 39) hx hb dX10_isStep_35 (by decide) ?_
        subst hf
        subst hQ
        exact q_zret B hr hlk rfl hw rfl rfl dX10_isStep_39
    · have hf := ie_e hf c_2
      by_cases c_4 : p0 = 2
      · have hf := it_e hf c_4
        refine lv_tableIn (tgt := 40) hx hb dX10_isStep_1 (by rw [c_4]; decide) (by rw [c_4]; decide) (by rw [c_4]; rfl) (by decide) ?_
        refine lv_iload_n hx hb dX10_isStep_40 rfl (lv_at hl 1 rfl) ?_
        refine lv_if_ne (tgt := 56) hx hb dX10_isStep_41 (by decide) (fun c_5 => ?_) (fun c_5 => ?_)
        · have hf := ie_e hf c_5
          refine lv_iconst (v := 0) hx hb dX10_isStep_56 (by decide) ?_
          subst hf
          subst hQ
          exact q_zret B hr hlk rfl hw rfl rfl dX10_isStep_57
        · have hf := it_e hf c_5
          refine lv_iload_n hx hb dX10_isStep_44 rfl (lv_at hl 2 rfl) ?_
          refine lv_if_ne (tgt := 56) hx hb dX10_isStep_45 (by decide) (fun c_6 => ?_) (fun c_6 => ?_)
          · have hf := ie_e hf c_6
            refine lv_iconst (v := 0) hx hb dX10_isStep_56 (by decide) ?_
            subst hf
            subst hQ
            exact q_zret B hr hlk rfl hw rfl rfl dX10_isStep_57
          · have hf := it_e hf c_6
            refine lv_iload_n hx hb dX10_isStep_48 rfl (lv_at hl 3 rfl) ?_
            refine lv_if_ne (tgt := 56) hx hb dX10_isStep_49 (by decide) (fun c_7 => ?_) (fun c_7 => ?_)
            · have hf := ie_e hf c_7
              refine lv_iconst (v := 0) hx hb dX10_isStep_56 (by decide) ?_
              subst hf
              subst hQ
              exact q_zret B hr hlk rfl hw rfl rfl dX10_isStep_57
            · have hf := it_e hf c_7
              refine lv_iconst (v := 1) hx hb dX10_isStep_52 (by decide) ?_
              refine lv_goto (tgt := 57) hx hb dX10_isStep_53 (by decide) ?_
              subst hf
              subst hQ
              exact q_zret B hr hlk rfl hw rfl rfl dX10_isStep_57
      · have hf := ie_e hf c_4
        refine lv_tableOut (tgt := 58) hx hb dX10_isStep_1 (sw_n (n := 3) (fun k hk => ?_) (by decide)) (by decide) ?_
        · rcases (show k = 0 ∨ k = 1 ∨ k = 2 by omega) with rfl | rfl | rfl
          · exact c_1
          · exact c_2
          · exact c_4
        · refine lv_iconst (v := 0) hx hb dX10_isStep_58 (by decide) ?_
          subst hf
          subst hQ
          exact q_zret B hr hlk rfl hw rfl rfl dX10_isStep_59
theorem isb_f_X10_isStep (p0 p1 p2 p3 : Int32) : isb (f_X10_isStep p0 p1 p2 p3) = true := by
  unfold f_X10_isStep
  try simp only [jn, nm]
  repeat' first | apply isb_ite | exact isb_0 | exact isb_1
