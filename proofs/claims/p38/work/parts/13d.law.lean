abbrev rm_L_kept : Room := { frames := 1, cells := 0, slots := 0, locals := 20 }
set_option maxRecDepth 100000 in
set_option maxHeartbeats 8000000 in
theorem c_L_kept (l : Launch) (ex : List (Nat × Nat)) (X : XT) (fu : Nat) (p1 : Int32) (p2 : Int32) (p3 : Int32) (M : Mem)  (rs : (Int32 × Mem)) (hf : f_L_kept fu p1 p2 p3 M = some rs) (sz : Nat) : Met l yL_kept (wbig yL_kept cL_kept 4 (some .int)) rm_L_kept (va_Pc [.ref (X.2.2 152), .int p1, .int p2, .int p3] (PW (LW ex) X M sz)) (QI (LW ex) X rs.2 rs.1 sz) 0 0 (AX (LW ex) X sz) := by
  refine met_go (L := (LW ex)) (M := M) (by decide +kernel) (Nat.le_of_ble_eq_true rfl) ?_
  intro p e s m args below meth c hsz B hr hlk hw ls hl
  subst hsz
  have hx := B.hx
  have hb := B.hb
  have hl : lv_has ls 4 [(0, .ref (X.2.2 152)), (1, .int p1), (2, .int p2), (3, .int p3)] := hl
  generalize hQ : MQ below _ args s 0 0 (AX (LW ex) X s.heap.size) = Q
  unfold f_L_kept at hf
  refine lv_iload_n hx hb dL_kept_0 rfl (lv_at hl 1 rfl) ?_
  refine lv_iconst (v := 2) hx hb dL_kept_1 (by decide) ?_
  refine lv_idiv hx hb dL_kept_2 (by decide) ?_
  refine lv_iconst (v := 1) hx hb dL_kept_3 (by decide) ?_
  refine lv_icmp_ne (tgt := 19) hx hb dL_kept_4 (by decide) (fun c_1 => ?_) (fun c_1 => ?_)
  · have hf := ie_e hf c_1
    refine lv_iload_n hx hb dL_kept_19 rfl (lv_at hl 3 rfl) ?_
    cases hf
    subst hQ
    exact q_iret B hr hlk hw rfl rfl dL_kept_20
  · have hf := it_e hf c_1
    refine lv_iload_n hx hb dL_kept_7 rfl (lv_at hl 2 rfl) ?_
    refine lv_iconst (v := 1) hx hb dL_kept_8 (by decide) ?_
    refine lv_icmp_ne (tgt := 19) hx hb dL_kept_9 (by decide) (fun c_2 => ?_) (fun c_2 => ?_)
    · have hf := ie_e hf c_2
      refine lv_iload_n hx hb dL_kept_19 rfl (lv_at hl 3 rfl) ?_
      cases hf
      subst hQ
      exact q_iret B hr hlk hw rfl rfl dL_kept_20
    · have hf := it_e hf c_2
      refine lv_iload_n hx hb dL_kept_12 rfl (lv_at hl 3 rfl) ?_
      refine q_callSi (M' := M) (As := [.int p3]) (rest := []) B hw (c_L_isNumber l _ X p3 _ rfl M _) cs_L_109 rfl hl.1 rfl rfl ⟨(Nat.le_of_ble_eq_true rfl), (Nat.le_of_ble_eq_true rfl)⟩ (Nat.le_of_ble_eq_true rfl) ⟨(Nat.le_of_ble_eq_true rfl), (Nat.le_of_ble_eq_true rfl)⟩ dL_kept_13 rfl (fun H locs hw => ?_)
      refine lv_if_ne (tgt := 21) hx hb dL_kept_16 (by decide) (fun c_4 => ?_) (fun c_4 => ?_)
      · have hf := ie_e hf c_4
        refine lv_iload_n hx hb dL_kept_21 rfl (lv_at hl 3 rfl) ?_
        refine jn_e hf (fun kk => ∀ (M_6 : Mem) (H : Heap) (locs : List Loc) (ls : Array Slot), HW (LW ex) X M_6 s H locs → lv_has ls 4 [(3, .int p3)] → kk M_6 = some rs → W p l e rm_L_kept s m args below meth c H locs 0 0 Q (F0 m 38 ls [])) ?_ (fun k38_5 J38_5 hf => ?_)
        · intro M_6 H locs ls hw hl hf
          refine lv_iload_n hx hb dL_kept_38 rfl (lv_at hl 0 rfl) ?_
          refine lv_if_ge (tgt := 46) hx hb dL_kept_39 (by decide) (fun c_7 => ?_) (fun c_7 => ?_)
          · have hf := it_e hf c_7
            refine lv_iload_n hx hb dL_kept_46 rfl (lv_at hl 0 rfl) ?_
            refine lv_bipush (v := 99) hx hb dL_kept_47 (by decide) ?_
            refine lv_icmp_le (tgt := 57) hx hb dL_kept_49 (by decide) (fun c_8 => ?_) (fun c_8 => ?_)
            · have hf := it_e hf c_8
              refine lv_iload_n hx hb dL_kept_57 rfl (lv_at hl 0 rfl) ?_
              cases hf
              subst hQ
              exact q_iret B hr hlk hw rfl rfl dL_kept_58
            · have hf := ie_e hf c_8
              refine lv_bipush (v := 99) hx hb dL_kept_52 (by decide) ?_
              refine lv_goto (tgt := 58) hx hb dL_kept_54 (by decide) ?_
              cases hf
              subst hQ
              exact q_iret B hr hlk hw rfl rfl dL_kept_58
          · have hf := ie_e hf c_7
            refine lv_iconst (v := 0) hx hb dL_kept_42 (by decide) ?_
            refine lv_goto (tgt := 58) hx hb dL_kept_43 (by decide) ?_
            cases hf
            subst hQ
            exact q_iret B hr hlk hw rfl rfl dL_kept_58
        refine jn_e hf (fun kk => ∀ (_ : Unit) (H : Heap) (locs : List Loc) (ls : Array Slot), HW (LW ex) X M s H locs → lv_has ls 4 [(0, .ref (X.2.2 152)), (3, .int p3)] → kk () = some rs → W p l e rm_L_kept s m args below meth c H locs 0 0 Q (F0 m 31 ls [])) ?_ (fun k31_9 J31_9 hf => ?_)
        · intro _ H locs ls hw hl hf
          refine lv_aload_n hx hb dL_kept_31 rfl (lv_at hl 0 rfl) ?_
          refine lv_iconst (v := 2) hx hb dL_kept_32 (by decide) ?_
          refine lv_dup2_11 hx hb dL_kept_33 rfl rfl ?_
          refine w_iald B hw (i := 152) (kw152 _) (by decide) dL_kept_34 ?_
          refine lv_iconst (v := 1) hx hb dL_kept_35 (by decide) ?_
          refine lv_iadd hx hb dL_kept_36 ?_
          refine w_iast B hw (i := 152) (kw152 _) (by decide) dL_kept_37 hf (fun M_10 H locs hw hf => ?_)
          exact J38_5 M_10 _ _ _ hw (lv_sub hl [1] rfl) hf
        refine lv_if_lt (tgt := 31) hx hb dL_kept_22 (by decide) (fun c_11 => ?_) (fun c_11 => ?_)
        · have hf := it_e hf c_11
          exact J31_9 () _ _ _ hw (lv_sub hl [0, 3] rfl) hf
        · have hf := ie_e hf c_11
          refine lv_iload_n hx hb dL_kept_25 rfl (lv_at hl 3 rfl) ?_
          refine lv_bipush (v := 99) hx hb dL_kept_26 (by decide) ?_
          refine lv_icmp_le (tgt := 38) hx hb dL_kept_28 (by decide) (fun c_12 => ?_) (fun c_12 => ?_)
          · have hf := it_e hf c_12
            exact J38_5 M _ _ _ hw (lv_sub hl [3] rfl) hf
          · have hf := ie_e hf c_12
            exact J31_9 () _ _ _ hw (lv_sub hl [0, 3] rfl) hf
      · have hf := it_e hf c_4
        refine lv_iload_n hx hb dL_kept_19 rfl (lv_at hl 3 rfl) ?_
        cases hf
        subst hQ
        exact q_iret B hr hlk hw rfl rfl dL_kept_20
abbrev rm_L_addable : Room := { frames := 2, cells := 0, slots := 0, locals := 45 }
set_option maxRecDepth 100000 in
set_option maxHeartbeats 8000000 in
theorem c_L_addable (l : Launch) (ex : List (Nat × Nat)) (X : XT) (fu : Nat) (p3 : Int32) (p4 : Int32) (p5 : Int32) (p6 : Int32) (p7 : Int32) (M : Mem)  (rs : Int32) (hf : f_L_addable fu p3 p4 p5 p6 p7 M = some rs) (sz : Nat) : Met l yL_addable (wbig yL_addable cL_addable 8 (some .int)) rm_L_addable (va_Pc [.ref (X.2.2 142), .ref (X.2.2 143), .ref (X.2.2 153), .int p3, .int p4, .int p5, .int p6, .int p7] (PW (LW ex) X M sz)) (QI (LW ex) X M rs sz) 0 0 (AX (LW ex) X sz) := by
  refine met_go (L := (LW ex)) (M := M) (by decide +kernel) (Nat.le_of_ble_eq_true rfl) ?_
  intro p e s m args below meth c hsz B hr hlk hw ls hl
  subst hsz
  have hx := B.hx
  have hb := B.hb
  have hl : lv_has ls 8 [(0, .ref (X.2.2 142)), (1, .ref (X.2.2 143)), (2, .ref (X.2.2 153)), (3, .int p3), (4, .int p4), (5, .int p5), (6, .int p6), (7, .int p7)] := hl
  generalize hQ : MQ below _ args s 0 0 (AX (LW ex) X s.heap.size) = Q
  unfold f_L_addable at hf
  refine lv_iload_n hx hb dL_addable_0 rfl (lv_at hl 3 rfl) ?_
  refine lv_iconst (v := 0) hx hb dL_addable_1 (by decide) ?_
  refine lv_iload hx hb dL_addable_2 (lv_at hl 4 rfl) ?_
  refine q_callSi (M' := M) (As := [.int p3, .int 0, .int p4]) (rest := []) B hw (c_L_can l _ X p3 0 p4 _ rfl M _) cs_L_117 rfl hl.1 rfl rfl ⟨(Nat.le_of_ble_eq_true rfl), (Nat.le_of_ble_eq_true rfl)⟩ (Nat.le_of_ble_eq_true rfl) ⟨(Nat.le_of_ble_eq_true rfl), (Nat.le_of_ble_eq_true rfl)⟩ dL_addable_4 rfl (fun H locs hw => ?_)
  refine lv_if_eq (tgt := 40) hx hb dL_addable_7 (by decide) (fun c_2 => ?_) (fun c_2 => ?_)
  · have hf := it_e hf c_2
    refine lv_sipush (v := (-7200)) hx hb dL_addable_40 (by decide) ?_
    cases hf
    subst hQ
    exact q_iret B hr hlk hw rfl rfl dL_addable_43
  · have hf := ie_e hf c_2
    refine lv_iload_n hx hb dL_addable_10 rfl (lv_at hl 3 rfl) ?_
    refine lv_iconst (v := 1) hx hb dL_addable_11 (by decide) ?_
    refine lv_iload hx hb dL_addable_12 (lv_at hl 5 rfl) ?_
    refine q_callSi (M' := M) (As := [.int p3, .int 1, .int p5]) (rest := []) B hw (c_L_can l _ X p3 1 p5 _ rfl M _) cs_L_117 rfl hl.1 rfl rfl ⟨(Nat.le_of_ble_eq_true rfl), (Nat.le_of_ble_eq_true rfl)⟩ (Nat.le_of_ble_eq_true rfl) ⟨(Nat.le_of_ble_eq_true rfl), (Nat.le_of_ble_eq_true rfl)⟩ dL_addable_14 rfl (fun H locs hw => ?_)
    refine lv_if_eq (tgt := 40) hx hb dL_addable_17 (by decide) (fun c_4 => ?_) (fun c_4 => ?_)
    · have hf := it_e hf c_4
      refine lv_sipush (v := (-7200)) hx hb dL_addable_40 (by decide) ?_
      cases hf
      subst hQ
      exact q_iret B hr hlk hw rfl rfl dL_addable_43
    · have hf := ie_e hf c_4
      refine lv_iload_n hx hb dL_addable_20 rfl (lv_at hl 3 rfl) ?_
      refine lv_iconst (v := 2) hx hb dL_addable_21 (by decide) ?_
      refine lv_iload hx hb dL_addable_22 (lv_at hl 6 rfl) ?_
      refine q_callSi (M' := M) (As := [.int p3, .int 2, .int p6]) (rest := []) B hw (c_L_can l _ X p3 2 p6 _ rfl M _) cs_L_117 rfl hl.1 rfl rfl ⟨(Nat.le_of_ble_eq_true rfl), (Nat.le_of_ble_eq_true rfl)⟩ (Nat.le_of_ble_eq_true rfl) ⟨(Nat.le_of_ble_eq_true rfl), (Nat.le_of_ble_eq_true rfl)⟩ dL_addable_24 rfl (fun H locs hw => ?_)
      refine lv_if_eq (tgt := 40) hx hb dL_addable_27 (by decide) (fun c_6 => ?_) (fun c_6 => ?_)
      · have hf := it_e hf c_6
        refine lv_sipush (v := (-7200)) hx hb dL_addable_40 (by decide) ?_
        cases hf
        subst hQ
        exact q_iret B hr hlk hw rfl rfl dL_addable_43
      · have hf := ie_e hf c_6
        refine lv_iload_n hx hb dL_addable_30 rfl (lv_at hl 3 rfl) ?_
        refine lv_iconst (v := 3) hx hb dL_addable_31 (by decide) ?_
        refine lv_iload hx hb dL_addable_32 (lv_at hl 7 rfl) ?_
        refine q_callSi (M' := M) (As := [.int p3, .int 3, .int p7]) (rest := []) B hw (c_L_can l _ X p3 3 p7 _ rfl M _) cs_L_117 rfl hl.1 rfl rfl ⟨(Nat.le_of_ble_eq_true rfl), (Nat.le_of_ble_eq_true rfl)⟩ (Nat.le_of_ble_eq_true rfl) ⟨(Nat.le_of_ble_eq_true rfl), (Nat.le_of_ble_eq_true rfl)⟩ dL_addable_34 rfl (fun H locs hw => ?_)
        refine lv_if_ne (tgt := 44) hx hb dL_addable_37 (by decide) (fun c_8 => ?_) (fun c_8 => ?_)
        · have hf := ie_e hf c_8
          refine lv_aload_n hx hb dL_addable_44 rfl (lv_at hl 1 rfl) ?_
          refine lv_iload_n hx hb dL_addable_45 rfl (lv_at hl 3 rfl) ?_
          obtain ⟨g_9, hf⟩ := grd_e hf
          refine w_iald B hw (i := 143) (kw143 _) g_9 dL_addable_46 ?_
          refine lv_bipush (v := 12) hx hb dL_addable_47 (by decide) ?_
          refine lv_icmp_eq (tgt := 84) hx hb dL_addable_49 (by decide) (fun c_10 => ?_) (fun c_10 => ?_)
          · have hf := it_e hf c_10
            refine lv_sipush (v := (-7300)) hx hb dL_addable_84 (by decide) ?_
            refine lv_goto (tgt := 91) hx hb dL_addable_87 (by decide) ?_
            cases hf
            subst hQ
            exact q_iret B hr hlk hw rfl rfl dL_addable_91
          · have hf := ie_e hf c_10
            refine lv_iload_n hx hb dL_addable_52 rfl (lv_at hl 3 rfl) ?_
            refine lv_iconst (v := 1) hx hb dL_addable_53 (by decide) ?_
            refine jn_e hf (fun kk => ∀ (_ : Unit) (H : Heap) (locs : List Loc) (ls : Array Slot), HW (LW ex) X M s H locs → lv_has ls 8 [(2, .ref (X.2.2 153)), (3, .int p3)] → kk () = some rs → W p l e rm_L_addable s m args below meth c H locs 0 0 Q (F0 m 68 ls [])) ?_ (fun k68_11 J68_11 hf => ?_)
            · intro _ H locs ls hw hl hf
              refine lv_iload_n hx hb dL_addable_68 rfl (lv_at hl 1 rfl) ?_
              refine lv_iconst (v := 2) hx hb dL_addable_69 (by decide) ?_
              refine lv_icmp_ge (tgt := 90) hx hb dL_addable_70 (by decide) (fun c_12 => ?_) (fun c_12 => ?_)
              · have hf := it_e hf c_12
                refine lv_iconst (v := 0) hx hb dL_addable_90 (by decide) ?_
                cases hf
                subst hQ
                exact q_iret B hr hlk hw rfl rfl dL_addable_91
              · have hf := ie_e hf c_12
                refine lv_aload_n hx hb dL_addable_73 rfl (lv_at hl 0 rfl) ?_
                refine lv_bipush (v := 6) hx hb dL_addable_74 (by decide) ?_
                refine lv_iload_n hx hb dL_addable_76 rfl (lv_at hl 1 rfl) ?_
                refine lv_iadd hx hb dL_addable_77 ?_
                obtain ⟨g_13, hf⟩ := grd_e hf
                refine w_iald B hw (i := 153) (kw153 _) g_13 dL_addable_78 ?_
                refine lv_bipush (v := 60) hx hb dL_addable_79 (by decide) ?_
                refine lv_icmp_ne (tgt := 90) hx hb dL_addable_81 (by decide) (fun c_14 => ?_) (fun c_14 => ?_)
                · have hf := ie_e hf c_14
                  refine lv_iconst (v := 0) hx hb dL_addable_90 (by decide) ?_
                  cases hf
                  subst hQ
                  exact q_iret B hr hlk hw rfl rfl dL_addable_91
                · have hf := it_e hf c_14
                  refine lv_sipush (v := (-7300)) hx hb dL_addable_84 (by decide) ?_
                  refine lv_goto (tgt := 91) hx hb dL_addable_87 (by decide) ?_
                  cases hf
                  subst hQ
                  exact q_iret B hr hlk hw rfl rfl dL_addable_91
            refine lv_icmp_le (tgt := 68) hx hb dL_addable_54 (by decide) (fun c_15 => ?_) (fun c_15 => ?_)
            · have hf := it_e hf c_15
              exact J68_11 () _ _ _ hw (lv_sub hl [2, 3] rfl) hf
            · have hf := ie_e hf c_15
              refine lv_aload_n hx hb dL_addable_57 rfl (lv_at hl 0 rfl) ?_
              refine lv_aload_n hx hb dL_addable_58 rfl (lv_at hl 1 rfl) ?_
              refine lv_iload_n hx hb dL_addable_59 rfl (lv_at hl 3 rfl) ?_
              refine lv_iload hx hb dL_addable_60 (lv_at hl 4 rfl) ?_
              obtain ⟨r_17, h_16, hf⟩ := bd_e hf
              refine q_callSi (M' := M) (As := [.ref (X.2.2 142), .ref (X.2.2 143), .int p3, .int p4]) (rest := []) B hw (c_L_place l _ X fu p3 p4 M r_17 h_16 _) cs_L_121 rfl hl.1 rfl rfl ⟨(Nat.le_of_ble_eq_true rfl), (Nat.le_of_ble_eq_true rfl)⟩ (Nat.le_of_ble_eq_true rfl) ⟨(Nat.le_of_ble_eq_true rfl), (Nat.le_of_ble_eq_true rfl)⟩ dL_addable_62 rfl (fun H locs hw => ?_)
              refine lv_if_ge (tgt := 84) hx hb dL_addable_65 (by decide) (fun c_18 => ?_) (fun c_18 => ?_)
              · have hf := it_e hf c_18
                refine lv_sipush (v := (-7300)) hx hb dL_addable_84 (by decide) ?_
                refine lv_goto (tgt := 91) hx hb dL_addable_87 (by decide) ?_
                cases hf
                subst hQ
                exact q_iret B hr hlk hw rfl rfl dL_addable_91
              · have hf := ie_e hf c_18
                exact J68_11 () _ _ _ hw (lv_sub hl [2, 3] rfl) hf
        · have hf := it_e hf c_8
          refine lv_sipush (v := (-7200)) hx hb dL_addable_40 (by decide) ?_
          cases hf
          subst hQ
          exact q_iret B hr hlk hw rfl rfl dL_addable_43
abbrev rm_L_changeable : Room := { frames := 2, cells := 0, slots := 0, locals := 45 }
set_option maxRecDepth 100000 in
set_option maxHeartbeats 8000000 in
theorem c_L_changeable (l : Launch) (ex : List (Nat × Nat)) (X : XT) (fu : Nat) (p2 : Int32) (p3 : Int32) (p4 : Int32) (p5 : Int32) (M : Mem)  (rs : Int32) (hf : f_L_changeable fu p2 p3 p4 p5 M = some rs) (sz : Nat) : Met l yL_changeable (wbig yL_changeable cL_changeable 6 (some .int)) rm_L_changeable (va_Pc [.ref (X.2.2 142), .ref (X.2.2 143), .int p2, .int p3, .int p4, .int p5] (PW (LW ex) X M sz)) (QI (LW ex) X M rs sz) 0 0 (AX (LW ex) X sz) := by
  refine met_go (L := (LW ex)) (M := M) (by decide +kernel) (Nat.le_of_ble_eq_true rfl) ?_
  intro p e s m args below meth c hsz B hr hlk hw ls hl
  subst hsz
  have hx := B.hx
  have hb := B.hb
  have hl : lv_has ls 6 [(0, .ref (X.2.2 142)), (1, .ref (X.2.2 143)), (2, .int p2), (3, .int p3), (4, .int p4), (5, .int p5)] := hl
  generalize hQ : MQ below _ args s 0 0 (AX (LW ex) X s.heap.size) = Q
  unfold f_L_changeable at hf
  refine lv_aload_n hx hb dL_changeable_0 rfl (lv_at hl 0 rfl) ?_
  refine lv_aload_n hx hb dL_changeable_1 rfl (lv_at hl 1 rfl) ?_
  refine lv_iload_n hx hb dL_changeable_2 rfl (lv_at hl 2 rfl) ?_
  refine lv_iload_n hx hb dL_changeable_3 rfl (lv_at hl 3 rfl) ?_
  obtain ⟨r_2, h_1, hf⟩ := bd_e hf
  refine q_callSi (M' := M) (As := [.ref (X.2.2 142), .ref (X.2.2 143), .int p2, .int p3]) (rest := []) B hw (c_L_place l _ X fu p2 p3 M r_2 h_1 _) cs_L_121 rfl hl.1 rfl rfl ⟨(Nat.le_of_ble_eq_true rfl), (Nat.le_of_ble_eq_true rfl)⟩ (Nat.le_of_ble_eq_true rfl) ⟨(Nat.le_of_ble_eq_true rfl), (Nat.le_of_ble_eq_true rfl)⟩ dL_changeable_4 rfl (fun H locs hw => ?_)
  refine lv_if_lt (tgt := 24) hx hb dL_changeable_7 (by decide) (fun c_3 => ?_) (fun c_3 => ?_)
  · have hf := it_e hf c_3
    refine lv_sipush (v := (-7100)) hx hb dL_changeable_24 (by decide) ?_
    cases hf
    subst hQ
    exact q_iret B hr hlk hw rfl rfl dL_changeable_27
  · have hf := ie_e hf c_3
    refine lv_iload hx hb dL_changeable_10 (lv_at hl 4 rfl) ?_
    refine lv_if_lt (tgt := 24) hx hb dL_changeable_12 (by decide) (fun c_4 => ?_) (fun c_4 => ?_)
    · have hf := it_e hf c_4
      refine lv_sipush (v := (-7100)) hx hb dL_changeable_24 (by decide) ?_
      cases hf
      subst hQ
      exact q_iret B hr hlk hw rfl rfl dL_changeable_27
    · have hf := ie_e hf c_4
      refine lv_iload hx hb dL_changeable_15 (lv_at hl 4 rfl) ?_
      refine lv_iload_n hx hb dL_changeable_17 rfl (lv_at hl 2 rfl) ?_
      refine q_callSi (M' := M) (As := [.int p2]) (rest := [.int p4]) B hw (c_L_columns l _ X p2 _ rfl M _) cs_L_125 rfl hl.1 rfl rfl ⟨(Nat.le_of_ble_eq_true rfl), (Nat.le_of_ble_eq_true rfl)⟩ (Nat.le_of_ble_eq_true rfl) ⟨(Nat.le_of_ble_eq_true rfl), (Nat.le_of_ble_eq_true rfl)⟩ dL_changeable_18 rfl (fun H locs hw => ?_)
      refine lv_icmp_lt (tgt := 28) hx hb dL_changeable_21 (by decide) (fun c_6 => ?_) (fun c_6 => ?_)
      · have hf := it_e hf c_6
        refine lv_iload_n hx hb dL_changeable_28 rfl (lv_at hl 2 rfl) ?_
        refine lv_iconst (v := 1) hx hb dL_changeable_29 (by decide) ?_
        refine jn_e hf (fun kk => ∀ (_ : Unit) (H : Heap) (locs : List Loc) (ls : Array Slot), HW (LW ex) X M s H locs → lv_has ls 6 [(2, .int p2), (4, .int p4), (5, .int p5)] → kk () = some rs → W p l e rm_L_changeable s m args below meth c H locs 0 0 Q (F0 m 38 ls [])) ?_ (fun k38_7 J38_7 hf => ?_)
        · intro _ H locs ls hw hl hf
          refine lv_iload_n hx hb dL_changeable_38 rfl (lv_at hl 0 rfl) ?_
          refine lv_iload hx hb dL_changeable_39 (lv_at hl 1 rfl) ?_
          refine lv_iload hx hb dL_changeable_41 (lv_at hl 2 rfl) ?_
          refine q_callSi (M' := M) (As := [.int p2, .int p4, .int p5]) (rest := []) B hw (c_L_can l _ X p2 p4 p5 _ rfl M _) cs_L_117 rfl hl.1 rfl rfl ⟨(Nat.le_of_ble_eq_true rfl), (Nat.le_of_ble_eq_true rfl)⟩ (Nat.le_of_ble_eq_true rfl) ⟨(Nat.le_of_ble_eq_true rfl), (Nat.le_of_ble_eq_true rfl)⟩ dL_changeable_43 rfl (fun H locs hw => ?_)
          refine lv_if_ne (tgt := 55) hx hb dL_changeable_46 (by decide) (fun c_9 => ?_) (fun c_9 => ?_)
          · have hf := ie_e hf c_9
            refine lv_iconst (v := 0) hx hb dL_changeable_55 (by decide) ?_
            cases hf
            subst hQ
            exact q_iret B hr hlk hw rfl rfl dL_changeable_56
          · have hf := it_e hf c_9
            refine lv_sipush (v := (-7200)) hx hb dL_changeable_49 (by decide) ?_
            refine lv_goto (tgt := 56) hx hb dL_changeable_52 (by decide) ?_
            cases hf
            subst hQ
            exact q_iret B hr hlk hw rfl rfl dL_changeable_56
        refine lv_icmp_le (tgt := 38) hx hb dL_changeable_30 (by decide) (fun c_10 => ?_) (fun c_10 => ?_)
        · have hf := it_e hf c_10
          exact J38_7 () _ _ _ hw (lv_sub hl [2, 4, 5] rfl) hf
        · have hf := ie_e hf c_10
          refine lv_iload hx hb dL_changeable_33 (lv_at hl 4 rfl) ?_
          refine lv_if_eq (tgt := 49) hx hb dL_changeable_35 (by decide) (fun c_11 => ?_) (fun c_11 => ?_)
          · have hf := it_e hf c_11
            refine lv_sipush (v := (-7200)) hx hb dL_changeable_49 (by decide) ?_
            refine lv_goto (tgt := 56) hx hb dL_changeable_52 (by decide) ?_
            cases hf
            subst hQ
            exact q_iret B hr hlk hw rfl rfl dL_changeable_56
          · have hf := ie_e hf c_11
            exact J38_7 () _ _ _ hw (lv_sub hl [2, 4, 5] rfl) hf
      · have hf := ie_e hf c_6
        refine lv_sipush (v := (-7100)) hx hb dL_changeable_24 (by decide) ?_
        cases hf
        subst hQ
        exact q_iret B hr hlk hw rfl rfl dL_changeable_27
abbrev rm_L_with : Room := { frames := 1, cells := 0, slots := 0, locals := 20 }
set_option maxRecDepth 100000 in
set_option maxHeartbeats 8000000 in
theorem c_L_with (l : Launch) (ex : List (Nat × Nat)) (X : XT) (p0 : Int64) (p2 : Int32) (p3 : Int32)  (rs : Int64) (hf : f_L_with p0 p2 p3 = rs) (M : Mem) (sz : Nat) : Met l yL_with (wbig yL_with cL_with 5 (some .long)) rm_L_with (va_Pc [.long p0, .int p2, .int p3] (PW (LW ex) X M sz)) (QL (LW ex) X M rs sz) 0 0 (AX (LW ex) X sz) := by
  refine met_go (L := (LW ex)) (M := M) (by decide +kernel) (Nat.le_of_ble_eq_true rfl) ?_
  intro p e s m args below meth c hsz B hr hlk hw ls hl
  subst hsz
  have hx := B.hx
  have hb := B.hb
  have hl : lv_has ls 5 [(0, .long p0), (2, .int p2), (3, .int p3)] := hl
  generalize hQ : MQ below _ args s 0 0 (AX (LW ex) X s.heap.size) = Q
  unfold f_L_with at hf
  refine lv_bipush (v := 36) hx hb dL_with_0 (by decide) ?_
  refine lv_bipush (v := 12) hx hb dL_with_2 (by decide) ?_
  refine lv_iload_n hx hb dL_with_4 rfl (lv_at hl 1 rfl) ?_
  refine lv_imul hx hb dL_with_5 ?_
  refine lv_isub hx hb dL_with_6 ?_
  refine r_topn hf (fun x4_1 hf => ?_)
  refine lv_istore (lv' := [(4, .int x4_1), (0, .long p0), (2, .int p2), (3, .int p3)]) hx hb dL_with_7 hl (by decide) rfl (fun ls hl => ?_)
  refine lv_lload_n hx hb dL_with_9 rfl (lv_at hl 1 rfl) ?_
  refine lv_ldc2 (own := RL) (v := 4095) hx hb B.hown (B.hts _ (big_at 762 (by decide +kernel) (by decide +kernel))) dL_with_10 ?_
  refine lv_iload hx hb dL_with_13 (lv_at hl 0 rfl) ?_
  refine lv_lshl (v := (4095 <<< ((x4_1).toInt64 &&& 63))) hx hb dL_with_15 rfl ?_
  refine lv_ldc2 (own := RL) (v := (-1)) hx hb B.hown (B.hts _ (big_at 766 (by decide +kernel) (by decide +kernel))) dL_with_16 ?_
  refine lv_lxor hx hb dL_with_19 ?_
  refine lv_land hx hb dL_with_20 ?_
  refine lv_iload_n hx hb dL_with_21 rfl (lv_at hl 3 rfl) ?_
  refine q_callSi (M' := M) (As := [.int p3]) (rest := [.long (p0 &&& ((4095 <<< ((x4_1).toInt64 &&& 63)) ^^^ (-1)))]) B hw (c_L_code l _ X p3 _ rfl M _) cs_L_98 rfl hl.1 rfl rfl ⟨(Nat.le_of_ble_eq_true rfl), (Nat.le_of_ble_eq_true rfl)⟩ (Nat.le_of_ble_eq_true rfl) ⟨(Nat.le_of_ble_eq_true rfl), (Nat.le_of_ble_eq_true rfl)⟩ dL_with_22 rfl (fun H locs hw => ?_)
  refine lv_i2l (v := ((f_L_code p3)).toInt64) hx hb dL_with_25 rfl ?_
  refine lv_iload hx hb dL_with_26 (lv_at hl 0 rfl) ?_
  refine lv_lshl (v := (((f_L_code p3)).toInt64 <<< ((x4_1).toInt64 &&& 63))) hx hb dL_with_28 rfl ?_
  refine lv_lor hx hb dL_with_29 ?_
  subst hf
  subst hQ
  exact q_lret B hr hlk hw rfl rfl dL_with_30
abbrev rm_L_cellBy : Room := { frames := 1, cells := 0, slots := 0, locals := 21 }
set_option maxRecDepth 100000 in
set_option maxHeartbeats 8000000 in
theorem c_L_cellBy (l : Launch) (ex : List (Nat × Nat)) (X : XT) (fu : Nat) (p0 : Int32) (M : Mem)  (rs : Int32) (hf : f_L_cellBy fu p0 M = some rs) (sz : Nat) : Met l yL_cellBy (wbig yL_cellBy cL_cellBy 2 (some .int)) rm_L_cellBy (va_Pc [.int p0] (PW (LW ex) X M sz)) (QI (LW ex) X M rs sz) 0 0 (AX (LW ex) X sz) := by
  refine met_go (L := (LW ex)) (M := M) (by decide +kernel) (Nat.le_of_ble_eq_true rfl) ?_
  intro p e s m args below meth c hsz B hr hlk hw ls hl
  subst hsz
  have hx := B.hx
  have hb := B.hb
  have hl : lv_has ls 2 [(0, .int p0)] := hl
  generalize hQ : MQ below _ args s 0 0 (AX (LW ex) X s.heap.size) = Q
  unfold f_L_cellBy at hf
  refine lv_iload_n hx hb dL_cellBy_0 rfl (lv_at hl 0 rfl) ?_
  refine lv_bipush (v := 12) hx hb dL_cellBy_1 (by decide) ?_
  obtain ⟨r_2, h_1, hf⟩ := bd_e hf
  refine q_callSi (M' := M) (As := [.int p0, .int 12]) (rest := []) B hw (c_L_low l _ X fu p0 12 M r_2 h_1 _) cs_L_130 rfl hl.1 rfl rfl ⟨(Nat.le_of_ble_eq_true rfl), (Nat.le_of_ble_eq_true rfl)⟩ (Nat.le_of_ble_eq_true rfl) ⟨(Nat.le_of_ble_eq_true rfl), (Nat.le_of_ble_eq_true rfl)⟩ dL_cellBy_3 rfl (fun H locs hw => ?_)
  refine lv_istore_n (lv' := [(1, .int r_2), (0, .int p0)]) hx hb dL_cellBy_6 rfl hl (by decide) rfl (fun ls hl => ?_)
  refine lv_iload_n hx hb dL_cellBy_7 rfl (lv_at hl 0 rfl) ?_
  refine lv_if_ne (tgt := 17) hx hb dL_cellBy_8 (by decide) (fun c_3 => ?_) (fun c_3 => ?_)
  · have hf := ie_e hf c_3
    refine lv_iload_n hx hb dL_cellBy_17 rfl (lv_at hl 0 rfl) ?_
    refine lv_iconst (v := 1) hx hb dL_cellBy_18 (by decide) ?_
    refine lv_icmp_ne (tgt := 28) hx hb dL_cellBy_19 (by decide) (fun c_4 => ?_) (fun c_4 => ?_)
    · have hf := ie_e hf c_4
      refine lv_iload_n hx hb dL_cellBy_28 rfl (lv_at hl 0 rfl) ?_
      refine lv_iconst (v := 2) hx hb dL_cellBy_29 (by decide) ?_
      refine lv_icmp_ne (tgt := 49) hx hb dL_cellBy_30 (by decide) (fun c_5 => ?_) (fun c_5 => ?_)
      · have hf := ie_e hf c_5
        refine lv_iload_n hx hb dL_cellBy_49 rfl (lv_at hl 0 rfl) ?_
        refine lv_iconst (v := 3) hx hb dL_cellBy_50 (by decide) ?_
        refine lv_icmp_ne (tgt := 67) hx hb dL_cellBy_51 (by decide) (fun c_6 => ?_) (fun c_6 => ?_)
        · have hf := ie_e hf c_6
          refine lv_iload_n hx hb dL_cellBy_67 rfl (lv_at hl 1 rfl) ?_
          refine lv_iconst (v := 4) hx hb dL_cellBy_68 (by decide) ?_
          refine lv_ishr hx hb dL_cellBy_69 ?_
          refine lv_bipush (v := 6) hx hb dL_cellBy_70 (by decide) ?_
          obtain ⟨r_8, h_7, hf⟩ := bd_e hf
          refine q_callSi (M' := M) (As := [.int (p0 >>> (4 &&& 31)), .int 6]) (rest := []) B hw (c_L_low l _ X fu (p0 >>> (4 &&& 31)) 6 M r_8 h_7 _) cs_L_130 rfl hl.1 rfl rfl ⟨(Nat.le_of_ble_eq_true rfl), (Nat.le_of_ble_eq_true rfl)⟩ (Nat.le_of_ble_eq_true rfl) ⟨(Nat.le_of_ble_eq_true rfl), (Nat.le_of_ble_eq_true rfl)⟩ dL_cellBy_72 rfl (fun H locs hw => ?_)
          refine lv_iload_n hx hb dL_cellBy_75 rfl (lv_at hl 0 rfl) ?_
          refine lv_iconst (v := 4) hx hb dL_cellBy_76 (by decide) ?_
          refine lv_icmp_ne (tgt := 84) hx hb dL_cellBy_77 (by decide) (fun c_9 => ?_) (fun c_9 => ?_)
          · have hf := ie_e hf c_9
            refine lv_iconst (v := 0) hx hb dL_cellBy_84 (by decide) ?_
            refine lv_isub hx hb dL_cellBy_85 ?_
            cases hf
            subst hQ
            exact q_iret B hr hlk hw rfl rfl dL_cellBy_86
          · have hf := it_e hf c_9
            refine lv_iconst (v := 3) hx hb dL_cellBy_80 (by decide) ?_
            refine lv_goto (tgt := 85) hx hb dL_cellBy_81 (by decide) ?_
            refine lv_isub hx hb dL_cellBy_85 ?_
            cases hf
            subst hQ
            exact q_iret B hr hlk hw rfl rfl dL_cellBy_86
        · have hf := it_e hf c_6
          refine lv_bipush (v := 100) hx hb dL_cellBy_54 (by decide) ?_
          refine lv_iload_n hx hb dL_cellBy_56 rfl (lv_at hl 1 rfl) ?_
          refine lv_iconst (v := 4) hx hb dL_cellBy_57 (by decide) ?_
          refine lv_ishr hx hb dL_cellBy_58 ?_
          refine lv_iconst (v := 5) hx hb dL_cellBy_59 (by decide) ?_
          obtain ⟨r_11, h_10, hf⟩ := bd_e hf
          refine q_callSi (M' := M) (As := [.int (p0 >>> (4 &&& 31)), .int 5]) (rest := [.int 100]) B hw (c_L_low l _ X fu (p0 >>> (4 &&& 31)) 5 M r_11 h_10 _) cs_L_130 rfl hl.1 rfl rfl ⟨(Nat.le_of_ble_eq_true rfl), (Nat.le_of_ble_eq_true rfl)⟩ (Nat.le_of_ble_eq_true rfl) ⟨(Nat.le_of_ble_eq_true rfl), (Nat.le_of_ble_eq_true rfl)⟩ dL_cellBy_60 rfl (fun H locs hw => ?_)
          refine lv_iadd hx hb dL_cellBy_63 ?_
          refine lv_goto (tgt := 86) hx hb dL_cellBy_64 (by decide) ?_
          cases hf
          subst hQ
          exact q_iret B hr hlk hw rfl rfl dL_cellBy_86
      · have hf := it_e hf c_5
        refine lv_iload_n hx hb dL_cellBy_33 rfl (lv_at hl 1 rfl) ?_
        refine lv_iconst (v := 4) hx hb dL_cellBy_34 (by decide) ?_
        refine lv_ishr hx hb dL_cellBy_35 ?_
        refine lv_sipush (v := 1999) hx hb dL_cellBy_36 (by decide) ?_
        obtain ⟨r_13, h_12, hf⟩ := bd_e hf
        refine q_callSi (M' := M) (As := [.int (p0 >>> (4 &&& 31)), .int 1999]) (rest := []) B hw (c_L_low l _ X fu (p0 >>> (4 &&& 31)) 1999 M r_13 h_12 _) cs_L_130 rfl hl.1 rfl rfl ⟨(Nat.le_of_ble_eq_true rfl), (Nat.le_of_ble_eq_true rfl)⟩ (Nat.le_of_ble_eq_true rfl) ⟨(Nat.le_of_ble_eq_true rfl), (Nat.le_of_ble_eq_true rfl)⟩ dL_cellBy_39 rfl (fun H locs hw => ?_)
        refine lv_sipush (v := 999) hx hb dL_cellBy_42 (by decide) ?_
        refine lv_isub hx hb dL_cellBy_45 ?_
        refine lv_goto (tgt := 86) hx hb dL_cellBy_46 (by decide) ?_
        cases hf
        subst hQ
        exact q_iret B hr hlk hw rfl rfl dL_cellBy_86
    · have hf := it_e hf c_4
      refine lv_sipush (v := 5001) hx hb dL_cellBy_22 (by decide) ?_
      refine lv_goto (tgt := 86) hx hb dL_cellBy_25 (by decide) ?_
      cases hf
      subst hQ
      exact q_iret B hr hlk hw rfl rfl dL_cellBy_86
  · have hf := it_e hf c_3
    refine lv_sipush (v := 5000) hx hb dL_cellBy_11 (by decide) ?_
    refine lv_goto (tgt := 86) hx hb dL_cellBy_14 (by decide) ?_
    cases hf
    subst hQ
    exact q_iret B hr hlk hw rfl rfl dL_cellBy_86
